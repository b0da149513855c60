/-! ===== fewest ===== -/
section FW
variable {σ τ υ : PI} {t : Nat → Nat}
def pc (x : Nat) : Nat := x % 2 + x / 2 % 2 + x / 4 % 2 + x / 8 % 2 + x / 16 % 2 + x / 32 % 2
def bc1 (a0 : Int32) : Int32 := a0 - (((a0 : Int32).toUInt32 >>> (((nI 1) : Int32).toUInt32 &&& Int32.toUInt32 31)).toInt32 &&& (nI 1431655765))
def bc2 (x1 : Int32) : Int32 := (x1 &&& (nI 858993459)) + (((x1 : Int32).toUInt32 >>> (((nI 2) : Int32).toUInt32 &&& Int32.toUInt32 31)).toInt32 &&& (nI 858993459))
def bc3 (x2 : Int32) : Int32 := (x2 + ((x2 : Int32).toUInt32 >>> (((nI 4) : Int32).toUInt32 &&& Int32.toUInt32 31)).toInt32) &&& (nI 252645135)
def bc4 (x3 : Int32) : Int32 := x3 + ((x3 : Int32).toUInt32 >>> (((nI 8) : Int32).toUInt32 &&& Int32.toUInt32 31)).toInt32
def bc5 (x4 : Int32) : Int32 := x4 + ((x4 : Int32).toUInt32 >>> (((nI 16) : Int32).toUInt32 &&& Int32.toUInt32 31)).toInt32
theorem bc_is : ∀ x : Fin 64, bc5 (bc4 (bc3 (bc2 (bc1 (nI x.val))))) &&& nI 63 = nI (pc x.val) := by decide +kernel
theorem J_bits {x : Nat} {Q : Int32 → PI → Prop} (hx : x < 64) (h : Q (nI (pc x)) σ) : wp_J6_bitCount_0f7a4 (nI x) σ Q := by
  unfold wp_J6_bitCount_0f7a4
  intro x1 e1 x2 e2 x3 e3 x4 e4 x5 e5
  have : x5 &&& nI 63 = nI (pc x) := by
    rw [e5, e4, e3, e2, e1]
    exact bc_is ⟨x, hx⟩
  rw [this]; exact h
theorem on_is : ∀ x : Fin 64, ¬ x.val = 0 → nI x.val &&& (nI x.val - nI 1) = nI (x.val &&& (x.val - 1)) ∧ (x.val &&& (x.val - 1)) < x.val ∧ pc (x.val &&& (x.val - 1)) + 1 = pc x.val := by decide +kernel
theorem M_ones {x : Nat} {Q : Int32 → PI → Prop} (hx : x < 64) (h : Q (nI (pc x)) σ) : wp_X5_ones (nI x) σ Q := by
  unfold wp_X5_ones w_X5_ones_4
  refine Lp_ind (α := Int32 × Int32 × PI) (fun s => ∃ c y, s = (nI c, nI y, σ) ∧ y < 64 ∧ c + pc y = pc x) (fun s => s.2.1.toNatClampNeg) ?_ _ ⟨0, x, rfl, hx, by omega⟩
  rintro K s ⟨c, y, rfl, hy, hc⟩ hK
  show B_X5_ones_4 K Q (nI c) (nI y) σ
  unfold B_X5_ones_4
  rw [nI_inj (by omega) (by omega)]
  refine ⟨fun q => ?_, fun q z ez => ?_⟩
  · subst q
    have : pc 0 = 0 := by decide
    rw [show c = pc x by omega]; exact h
  · obtain ⟨f1, f2, f3⟩ := on_is ⟨y, hy⟩ q
    simp only at f1 f2 f3
    rw [ez, f1, nI_add]
    refine hK _ ⟨c + 1, _, rfl, by omega, by omega⟩ ?_
    show (nI (y &&& (y - 1))).toNatClampNeg < (nI y).toNatClampNeg
    rw [nI_cl (by omega), nI_cl (by omega)]; exact f2
/-- all of the told men below i feel v -/
def af (u : Nat → Nat) (men v : Nat) : Nat → Bool
  | 0 => true
  | i + 1 => af u men v i && (!decide (men / 2 ^ i % 2 = 1) || decide (v ≤ u (6 + i)))
theorem af_f {u : Nat → Nat} {men v i : Nat} (h : af u men v i = false) : ∀ n, i ≤ n → af u men v n = false := by
  intro n hn
  induction n with
  | zero => rw [show i = 0 by omega] at h; exact h
  | succ n ih =>
    by_cases q : i = n + 1
    · rw [← q]; exact h
    · rw [af, ih (by omega)]; rfl
theorem dy_cong {hb hb' : Nat → Bool} (h : ∀ l, l < t 3 → hb l = hb' l) (hm : t 3 ≤ 6) : dy t hb = dy t hb' := by
  have hp : ∀ m l, l < t 3 → pa t hb m l = pa t hb' m l := fun m l hl => by unfold pa; rw [h l hl]
  have ha : ∀ m, aw t hb m (t 3) = aw t hb' m (t 3) := fun m => bm_cong _ (hp m)
  have hd : ∀ m, md t hb m (t 3) = md t hb' m (t 3) := fun m => sm_cong _ (fun l hl => by rw [hp m l hl])
  funext i
  unfold dy nf
  rw [ha, hd]
  by_cases q : 40 ≤ i ∧ i < 40 + 5 * t 3
  · rw [hp _ _ (by omega)]
  · rw [if_neg q, if_neg q]
theorem dys_cong {hb hb' : Nat → Bool} (h : ∀ l, l < t 3 → hb l = hb' l) (hm : t 3 ≤ 6) : ∀ n, dys t hb n = dys t hb' n
  | 0 => rfl
  | n + 1 => by rw [dys, dys, dys_cong h hm n, dy_cong (by rw [dys_3]; exact h) (by rw [dys_3]; exact hm)]
def hbx (x : Nat) : Nat → Bool := fun l => !(x.testBit l)
def hbm (L x : Nat) : Nat → Bool := fun l => decide (l < L) && !(x.testBit l)
theorem hbm_is : ∀ L : Fin 7, ∀ x : Fin 64, ∀ l : Fin 6, ((((nI (2 ^ L.val) - nI 1) &&& (nI x.val ^^^ (-1))) >>> (nI l.val &&& 31)) &&& nI 1) = if hbm L.val x.val l.val then nI 1 else nI 0 := by decide +kernel
theorem HB_m {L x : Nat} (hL : L < 7) (hx : x < 64) : HB ((nI (2 ^ L) - nI 1) &&& (nI x ^^^ (-1))) (hbm L x) := fun l hl => hbm_is ⟨L, hL⟩ ⟨x, hx⟩ ⟨l, hl⟩
theorem C_allFeel {men n v x : Nat} {Q : Int32 → PI → Prop} (ht : RTn σ t) (hI : Iv 999 t) (hm : men < 32) (hn : n ≤ 30) (hv : v ≤ 99) (hx : x < 64) (h : ∀ υ, Fr 1 σ υ → Q (if af (dys t (hbx x) n) men v (t 2) then nI 1 else nI 0) υ) : wp_X4_allFeel (nI men) (nI n) (nI v) (nI x) σ Q := by
  unfold wp_X4_allFeel
  obtain ⟨i1, i2, i3, i4, i5, i6, i7, i8, i9⟩ := hI.1.b
  refine C_try ht (fun ω w1 w2 w3 χ ec => T_passDays (hb := hbx x) (t := t) (by rw [ec]; exact up14 w1) hI (by rw [ec, up_s]; exact HB_n' hx) (by omega) (fun ψ y1 y2 y3 => ?_))
  have fr : Fr 1 σ ψ := w3.tr ((by rw [ec]; exact Fr.u (by omega) : Fr 1 ω χ).tr y3)
  have hfe : ∀ a, a < t 2 → dys t (hbx x) n (6 + a) ≤ 99 := fun a ha => ((dys_iv hI n (by omega)).2.1 a (by rw [dys_2]; exact ha)).1
  unfold w_X4_allFeel_33
  refine for_up (α := Int32 × Int32 × Int32 × PI) (t 2) (fun i s => s = (nI men, nI v, nI i, ψ) ∧ af (dys t (hbx x) n) men v i = true) ?_ ?_ 0 _ (by omega) ⟨rfl, rfl⟩
  · rintro K s ⟨rfl, k⟩
    show B_X4_allFeel_33 K Q (nI men) (nI v) (nI (t 2)) ψ
    unfold B_X4_allFeel_33
    rw [(ht.fr fr).1.1.1]
    have := h ψ fr
    rw [if_pos k] at this
    exact ⟨fun _ => this, fun z => absurd (Int32.le_refl _) z⟩
  · rintro K i s hi ⟨rfl, k⟩ hK
    show B_X4_allFeel_33 K Q (nI men) (nI v) (nI i) ψ
    unfold B_X4_allFeel_33 w_X4_allFeel_71
    rw [(ht.fr fr).1.1.1, nI_le' (by omega) (by omega)]
    refine ⟨fun z => absurd z (by omega), fun _ => C_bit (by omega) (by omega) ?_⟩
    have hf := hfe i hi
    rw [nI_inj (by omega) (by omega), nI_cl (a := i) (by omega), (y1.2.1 i (by rw [dys_2]; exact hi)).1, nI_le' (by omega) (by omega), nI_add]
    refine ⟨fun q => hK _ ⟨rfl, ?_⟩, fun q => ⟨vpN (by omega) (by omega), fun q2 => hK _ ⟨rfl, ?_⟩, fun q2 => ?_⟩⟩
    · rw [af, k]; simp [q]
    · rw [af, k]; simp [q2]
    · have := h ψ fr
      rw [if_neg (by rw [af_f (i := i + 1) (by rw [af, k]; simp [q]; omega) (t 2) (by omega)]; decide)] at this
      exact this
theorem M_doFeel {men v : Nat} {u : Nat → Nat} {Q : Int32 → PI → Prop} (hA : MA (σ 280) u) (h2 : u 2 ≤ 5) (hu : ∀ a, a < u 2 → u (6 + a) ≤ 99) (hm : men < 32) (hv : v ≤ 99) (h : Q (if af u men v (u 2) then nI 1 else nI 0) σ) : wp_X5_doFeel (nI men) (nI v) σ Q := by
  unfold wp_X5_doFeel w_X5_doFeel_5
  refine for_up (α := Int32 × Int32 × Int32 × Int32 × PI) (u 2) (fun i s => s = (nI men, nI v, (if af u men v i then nI 1 else nI 0), nI i, σ)) ?_ ?_ 0 _ (by omega) rfl
  · rintro K s rfl
    show B_X5_doFeel_5 K Q (nI men) (nI v) (if af u men v (u 2) then nI 1 else nI 0) (nI (u 2)) σ
    unfold B_X5_doFeel_5
    rw [hA 2 (by omega)]
    refine ⟨fun _ => ⟨?_, h⟩, fun z => absurd (Int32.le_refl _) z⟩
    cases af u men v (u 2)
    · exact bz0
    · exact bz1
  · rintro K i s hi rfl hK
    show B_X5_doFeel_5 K Q (nI men) (nI v) (if af u men v i then nI 1 else nI 0) (nI i) σ
    unfold B_X5_doFeel_5 w_X5_doFeel_47 w_X5_doFeel_43 w_X5_doFeel_48
    rw [hA 2 (by omega), nI_le' (by omega) (by omega), nI_add, nI_add, nI_cl (a := 6 + i) (by omega)]
    have hf := hu i hi
    refine ⟨fun z => absurd z (by omega), fun _ => ?_⟩
    have hK' := hK _ rfl
    rw [af] at hK'
    cases hk : af u men v i
    · rw [hk] at hK'
      exact z_t hK'
    · rw [hk] at hK'
      refine o_t (M_bit (by omega) (by omega) ?_)
      rw [nI_inj (by omega) (by omega)]
      rcases (show men / 2 ^ i % 2 = 0 ∨ men / 2 ^ i % 2 = 1 by omega) with e | e
      · rw [e] at hK' ⊢
        exact ⟨fun _ => hK', fun q => absurd rfl q⟩
      · rw [e] at hK' ⊢
        refine ⟨fun q => absurd q (by omega), fun _ => ⟨vpN (by omega) (by omega), ?_⟩⟩
        rw [hA (6 + i) (by omega), nI_lt' (by omega) (by omega)]
        refine ⟨fun q => ?_, fun q => ?_⟩
        · have e2 : decide (v ≤ u (6 + i)) = false := by simp; omega
          rw [e2] at hK'; exact hK'
        · have e2 : decide (v ≤ u (6 + i)) = true := by simp; omega
          rw [e2] at hK'; exact hK'
/-- the model's best of the sets below i -/
def bst (G : Nat → Bool) : Nat → Option Nat
  | 0 => none
  | i + 1 => match bst G i with
    | none => if G i then some i else none
    | some b => if pc i < pc b ∧ G i = true then some i else some b
theorem bst_is (G : Nat → Bool) : ∀ i, match bst G i with
    | none => ∀ c, c < i → G c = false
    | some b => b < i ∧ G b = true ∧ ∀ c, c < i → G c = true → pc b ≤ pc c ∧ (pc b = pc c → b ≤ c) := by
  intro i
  induction i with
  | zero => rw [bst]; intro c hc; omega
  | succ i ih =>
    rw [bst]
    cases hb : bst G i with
    | none =>
      rw [hb] at ih
      simp only at ih ⊢
      by_cases q : G i = true
      · rw [if_pos q]
        refine ⟨by omega, q, fun c hc hg => ?_⟩
        by_cases qc : c = i
        · subst qc; exact ⟨Nat.le_refl _, fun _ => Nat.le_refl _⟩
        · rw [ih c (by omega)] at hg; exact absurd hg (by decide)
      · rw [if_neg q]
        intro c hc
        by_cases qc : c = i
        · subst qc; simpa using q
        · exact ih c (by omega)
    | some b =>
      rw [hb] at ih
      simp only at ih ⊢
      obtain ⟨j1, j2, j3⟩ := ih
      by_cases q : pc i < pc b ∧ G i = true
      · rw [if_pos q]
        refine ⟨by omega, q.2, fun c hc hg => ?_⟩
        by_cases qc : c = i
        · subst qc; exact ⟨Nat.le_refl _, fun _ => Nat.le_refl _⟩
        · have := (j3 c (by omega) hg).1
          exact ⟨by omega, fun z => by omega⟩
      · rw [if_neg q]
        refine ⟨by omega, j2, fun c hc hg => ?_⟩
        by_cases qc : c = i
        · subst qc
          have : ¬ pc c < pc b := fun z => q ⟨z, hg⟩
          exact ⟨by omega, fun _ => by omega⟩
        · exact j3 c (by omega) hg
theorem bst_none {G : Nat → Bool} {n : Nat} (h : ∀ c, c < n → G c = false) : bst G n = none := by
  have := bst_is G n
  cases hb : bst G n with
  | none => rfl
  | some b =>
    rw [hb] at this
    have h2 := h b this.1
    rw [this.2.1] at h2; exact absurd h2 (by decide)
theorem bst_some {G : Nat → Bool} {n s : Nat} (hs : s < n) (hg : G s = true) (h : ∀ c, c < n → G c = true → pc s ≤ pc c ∧ (pc c = pc s → s ≤ c)) : bst G n = some s := by
  have := bst_is G n
  cases hb : bst G n with
  | none =>
    rw [hb] at this
    rw [this s hs] at hg; exact absurd hg (by decide)
  | some b =>
    rw [hb] at this
    obtain ⟨j1, j2, j3⟩ := this
    have a1 := j3 s hs hg
    have a2 := h b j1 j2
    have : pc b = pc s := by omega
    have b1 := a1.2 this
    have b2 := a2.2 this
    rw [show b = s by omega]
theorem pc_le : ∀ L : Fin 7, ∀ c : Fin 64, c.val < 2 ^ L.val → pc c.val ≤ L.val := by decide +kernel
theorem pc_6 (c : Nat) : pc c ≤ 6 := by unfold pc; omega
def obs (o : Option Nat) : Int32 := match o with
  | none => -1000000
  | some b => nI b
def ores (w : Nat) (o : Option Nat) : Int32 := match o with
  | none => -1000000
  | some b => if w = 0 then nI (pc b) else nI b
theorem eq_fewest {a0 a1 a2 a3 : Int32} (h : Rel σ) : wp_X4_fewest a0 a1 a2 a3 σ (fun r τ => wp_X5_fewest a0 a1 a2 a3 τ (fun r' τ' => r = r' ∧ Rel τ')) := by
  unfold wp_X4_fewest
  obtain ⟨t, ht⟩ := h.2.2.2.2.2.1
  refine C_town ht (fun hI hth => o_t' ?_) (fun h2 h0 => z_t' ⟨fun q => absurd h0 q, fun _ => ⟨rfl, h⟩⟩)
  obtain ⟨i1, i2, i3, i4, i5, i6, i7, i8, i9⟩ := hI.1.b
  have nth : ∀ υ, Fr 1 σ υ → ¬ υ 276 4 = nI 0 := fun υ hf => by rw [hf.hi (by omega) (by omega), hth]; exact b_ne
  have nth0 := nth σ Fr.rf
  have p2 : 2 ^ t 2 ≤ 2 ^ 5 := Nat.pow_le_pow_right (by omega) i2
  have p3 : 2 ^ t 3 ≤ 2 ^ 6 := Nat.pow_le_pow_right (by omega) i4
  have p3' : 1 ≤ 2 ^ t 3 := Nat.one_le_two_pow
  have m2 : ∀ υ, Fr 1 σ υ → (nI 1 <<< (υ 280 2 &&& 31) - nI 1) = nI (2 ^ t 2) - nI 1 := fun υ hf => by rw [(ht.fr hf).2.1 2 (by omega), nI_shl (by omega)]
  have m2s := m2 σ Fr.rf
  rw [ht.1.1.1, nI_shl (by omega)]
  by_cases hm0 : ¬ ∃ a, a < 2 ^ t 2 ∧ a0 = nI a
  · refine C_nf (by omega) hm0 (z_t ⟨fun _ => ?_, fun q => absurd q nth0⟩)
    rw [m2s]
    exact M_nf (by omega) hm0 (z_t ⟨rfl, h⟩)
  obtain ⟨men, hm, rfl⟩ := Classical.not_not.mp hm0
  refine C_nt hm (by omega) (o_t ?_)
  by_cases hn0 : ¬ ∃ a, 1 ≤ a ∧ a ≤ 30 ∧ a1 = nI a
  · refine C_wf (by omega) (by omega) hn0 (z_t ⟨fun _ => ?_, fun q => absurd q nth0⟩)
    rw [m2s]
    exact M_nt hm (by omega) (o_t (M_if (by omega) (by omega) hn0 (z_t ⟨rfl, h⟩)))
  obtain ⟨n, hn1, hn, rfl⟩ := Classical.not_not.mp hn0
  refine C_wt hn1 hn (by omega) (o_t ?_)
  by_cases hv0 : ¬ ∃ a, 1 ≤ a ∧ a ≤ 99 ∧ a2 = nI a
  · refine C_wf (by omega) (by omega) hv0 (z_t ⟨fun _ => ?_, fun q => absurd q nth0⟩)
    rw [m2s]
    exact M_nt hm (by omega) (o_t (M_it hn1 hn (by omega) (o_t (M_if (by omega) (by omega) hv0 (z_t ⟨rfl, h⟩)))))
  obtain ⟨v, hv1, hv, rfl⟩ := Classical.not_not.mp hv0
  refine C_wt hv1 hv (by omega) (o_t ?_)
  by_cases hw0 : ¬ ∃ a, a < 2 ∧ a3 = nI a
  · refine C_bitF hw0 (z_t' ⟨fun _ => ?_, fun q => absurd q nth0⟩)
    rw [m2s]
    exact M_nt hm (by omega) (o_t (M_it hn1 hn (by omega) (o_t (M_it hv1 hv (by omega) (o_t (M_whF hw0 (z_t' ⟨rfl, h⟩)))))))
  obtain ⟨w, hw, rfl⟩ := Classical.not_not.mp hw0
  refine C_bitT hw (o_t' ?_)
  obtain ⟨G, hG⟩ : ∃ G : Nat → Bool, G = fun x => af (dys t (hbx x) n) men v (t 2) := ⟨_, rfl⟩
  have key : ∀ Q : Int32 → PI → Prop, (∀ υ, Fr 1 σ υ → Q (ores w (bst G (2 ^ t 3))) υ) → w_X4_fewest_63 Q (nI men) (nI n) (nI v) (nI w) (nI 0) σ := by
    intro Q hQ
    unfold w_X4_fewest_63
    refine for_up (α := Int32 × Int32 × Int32 × Int32 × Int32 × PI) (t 3 + 1) (fun i s => ∃ υ, s = (nI men, nI n, nI v, nI w, nI i, υ) ∧ Fr 1 σ υ ∧ ∀ c, c < 2 ^ t 3 → G c = true → i ≤ pc c) ?_ ?_ 0 _ (by omega) ⟨σ, rfl, Fr.rf, fun _ _ _ => Nat.zero_le _⟩
    · rintro K s ⟨υ, rfl, k1, k2⟩
      show B_X4_fewest_63 K Q (nI men) (nI n) (nI v) (nI w) (nI (t 3 + 1)) υ
      unfold B_X4_fewest_63
      rw [(ht.fr k1).1.1.2.1, nI_lt' (by omega) (by omega)]
      refine ⟨fun _ => ?_, fun z => absurd (by omega) z⟩
      have := hQ υ k1
      rw [bst_none (fun c hc => ?_)] at this
      · exact this
      · cases hg : G c
        · rfl
        · have a := k2 c hc hg
          have b := pc_le ⟨t 3, by omega⟩ ⟨c, by omega⟩ hc
          simp only at b; omega
    · rintro K many s hmy ⟨υ, rfl, k1, k2⟩ hK
      show B_X4_fewest_63 K Q (nI men) (nI n) (nI v) (nI w) (nI many) υ
      unfold B_X4_fewest_63
      rw [(ht.fr k1).1.1.2.1, nI_lt' (by omega) (by omega)]
      refine ⟨fun z => absurd z (by omega), fun _ => ?_⟩
      unfold w_X4_fewest_78
      refine for_up (α := Int32 × Int32 × Int32 × Int32 × Int32 × Int32 × PI) (2 ^ t 3) (fun x s => ∃ υ, s = (nI men, nI n, nI v, nI w, nI many, nI x, υ) ∧ Fr 1 σ υ ∧ ∀ c, c < x → pc c = many → G c = false) ?_ ?_ 0 _ (by omega) ⟨υ, rfl, k1, fun c hc => by omega⟩
      · rintro K2 s ⟨ω, rfl, l1, l2⟩
        show B_X4_fewest_78 K K2 Q (nI men) (nI n) (nI v) (nI w) (nI many) (nI (2 ^ t 3)) ω
        unfold B_X4_fewest_78
        rw [(ht.fr l1).1.1.2.1, nI_shl (by omega), nI_add]
        refine ⟨fun _ => hK _ ⟨ω, rfl, l1, fun c hc hg => ?_⟩, fun z => absurd (Int32.le_refl _) z⟩
        have a := k2 c hc hg
        by_cases q : pc c = many
        · rw [l2 c hc q] at hg; exact absurd hg (by decide)
        · omega
      · rintro K2 x s hx ⟨ω, rfl, l1, l2⟩ hK2
        show B_X4_fewest_78 K K2 Q (nI men) (nI n) (nI v) (nI w) (nI many) (nI x) ω
        unfold B_X4_fewest_78 w_X4_fewest_127
        rw [(ht.fr l1).1.1.2.1, nI_shl (by omega), nI_le' (by omega) (by omega), nI_add, nI_add]
        refine ⟨fun z => absurd z (by omega), fun _ => J_bits (by omega) ?_⟩
        have h6 := pc_6 x
        rw [nI_inj (by omega) (by omega)]
        refine ⟨fun q => hK2 _ ⟨ω, rfl, l1, fun c hc hp => ?_⟩, fun q => C_allFeel (ht.fr l1) hI (by omega) (by omega) (by omega) (by omega) (fun ψ y1 => ?_)⟩
        · by_cases qc : c = x
          · subst qc; exact absurd hp q
          · exact l2 c (by omega) hp
        · have eg : af (dys t (hbx x) n) men v (t 2) = G x := by rw [hG]
          rw [eg]
          cases hg : G x
          · refine z_t (hK2 _ ⟨ψ, rfl, l1.tr y1, fun c hc hp => ?_⟩)
            by_cases qc : c = x
            · subst qc; exact hg
            · exact l2 c (by omega) hp
          · refine o_t ?_
            have := hQ ψ (l1.tr y1)
            rw [bst_some hx hg (fun c hc hc2 => ⟨by have := k2 c hc hc2; omega, fun z => ?_⟩)] at this
            · unfold ores at this
              simp only at this
              rw [nI_inj (by omega) (by omega)]
              refine ⟨fun qw => ?_, fun qw => ?_⟩
              · rw [if_neg qw] at this; exact this
              · rw [if_pos qw, q] at this; exact this
            · by_cases qc : c < x
              · rw [l2 c qc (by omega)] at hc2; exact absurd hc2 (by decide)
              · omega
  refine key _ (fun υ hf => ?_)
  have hR := h.fr hf
  have htu := ht.fr hf
  unfold wp_X5_fewest
  rw [m2 υ hf]
  refine ⟨fun _ => M_nt hm (by omega) (o_t (M_it hn1 hn (by omega) (o_t (M_it hv1 hv (by omega) (o_t (M_whT hw (o_t' (M_aside (fun ω0 z1 z2 z3 x ex => ?_))))))))), fun q => absurd q (nth υ hf)⟩
  rw [ex, z3, htu.2.1 3 (by omega), nI_shl (by omega)]
  have hMu := htu.2.1
  have alls : nI (2 ^ t 3) - nI 1 = nI (2 ^ t 3 - 1) := nI_sub (by omega)
  have ng : ∀ b, b < 64 → ¬ nI b < nI 0 := fun b hb => by rw [nI_lt' (by omega) (by omega)]; omega
  have ng1 : (-1000000 : Int32) < nI 0 := by decide
  unfold w_X5_fewest_88
  refine for_up (α := Int32 × Int32 × Int32 × Int32 × Int32 × Int32 × Int32 × PI) (2 ^ t 3) (fun o s => ∃ ω, s = (nI men, nI n, nI v, nI w, nI (2 ^ t 3) - nI 1, obs (bst G o), nI o, ω) ∧ MZ υ ω ∧ ∀ j, j < 70 → ω 280 j = υ 280 j) ?_ ?_ 0 _ (by omega) ⟨ω0, rfl, z1, fun j _ => by rw [z3]⟩
  · rintro K s ⟨ω, rfl, k1, k3⟩
    show B_X5_fewest_88 K _ (nI men) (nI n) (nI v) (nI w) (nI (2 ^ t 3) - nI 1) (obs (bst G (2 ^ t 3))) (nI (2 ^ t 3)) ω
    unfold B_X5_fewest_88 w_X5_fewest_173
    rw [alls, nI_lt' (by omega) (by omega)]
    refine ⟨fun _ χ ec => ?_, fun z => absurd (by omega) z⟩
    have hRe : Rel χ := hR.k (MZ.kq (τ := χ) (by rw [ec]; exact k1.h6) (by rw [ec, up_s, htu.2.2.2.1]) (fun j hj => by rw [ec, up_ne (by omega)]; exact k3 j hj))
    have hbi := bst_is G (2 ^ t 3)
    cases hb : bst G (2 ^ t 3) with
    | none => exact ⟨fun _ => ⟨rfl, hRe⟩, fun z => absurd ng1 z⟩
    | some b =>
      rw [hb] at hbi
      have hb1 := hbi.1
      show (nI b < nI 0 → _) ∧ (¬ nI b < nI 0 → _)
      refine ⟨fun z => absurd z (ng b (by omega)), fun _ => ?_⟩
      show (¬ nI w = nI 1 → wp_X5_ones (nI b) χ _) ∧ (nI w = nI 1 → _)
      rw [nI_inj (by omega) (by omega)]
      refine ⟨fun q => M_ones (by omega) ⟨?_, hRe⟩, fun q => ⟨?_, hRe⟩⟩
      · show (if w = 0 then nI (pc b) else nI b) = nI (pc b)
        rw [if_pos (by omega)]
      · show (if w = 0 then nI (pc b) else nI b) = nI b
        rw [if_neg (by omega)]
  · rintro K o s ho ⟨ω, rfl, k1, k3⟩ hK
    show B_X5_fewest_88 K _ (nI men) (nI n) (nI v) (nI w) (nI (2 ^ t 3) - nI 1) (obs (bst G o)) (nI o) ω
    unfold B_X5_fewest_88 w_X5_fewest_151
    rw [show (nI (2 ^ t 3) - nI 1 < nI o) = (nI (2 ^ t 3 - 1) < nI o) by rw [alls], nI_lt' (by omega) (by omega)]
    refine ⟨fun z => absurd z (by omega), fun _ => ?_⟩
    have hbi := bst_is G o
    have nx : ∀ (ξ : PI) (z : Int32), z = obs (bst G (o + 1)) → MZ υ ξ → (∀ j, j < 70 → ξ 280 j = υ 280 j) → K (nI men, nI n, nI v, nI w, nI (2 ^ t 3) - nI 1, z, nI o + nI 1, ξ) := fun ξ z ez q1 q2 => hK _ ⟨ξ, by rw [ez, nI_add], q1, q2⟩
    have go : (G o = true → bst G (o + 1) = some o) → (G o = false → bst G (o + 1) = bst G o) → ∀ ω', ω' = ω → w_X5_fewest_113 K (fun r' τ' => ores w (bst G (2 ^ t 3)) = r' ∧ Rel τ') (nI men) (nI n) (nI v) (nI w) (nI (2 ^ t 3) - nI 1) (obs (bst G o)) (nI o) ω' := by
      rintro g1 g0 ω' rfl
      unfold w_X5_fewest_113 w_X5_fewest_145 w_X5_fewest_151
      intro χ ec
      refine M_goOn (hb := hbm (t 3) o) (t := t) (fun j hj => by rw [ec, up_ne (by omega), k3 j hj]; exact hMu j hj) hI (by rw [ec, up_s]; exact HB_m (by omega) (by omega)) (by omega) (fun ψ p1 p2 => ?_)
      have hz : MZ υ ψ := MZ.fm (τ := χ) (by rw [ec]; exact k1.h6) p2
      have ed : dys t (hbm (t 3) o) n = dys t (hbx o) n := dys_cong (fun l hl => by unfold hbm hbx; simp [hl]) (by omega) n
      rw [ed] at p1
      have hd2 : dys t (hbx o) n 2 = t 2 := dys_2 n
      refine M_doFeel p1 (by omega) (fun a ha => ((dys_iv hI n (by omega)).2.1 a ha).1) (by omega) (by omega) ?_
      have eg : af (dys t (hbx o) n) men v (dys t (hbx o) n 2) = G o := by rw [hG, hd2]
      rw [eg]
      cases hg : G o
      · exact z_t (M_back hz (fun ξ e1 e2 e3 => nx ξ _ (by rw [g0 hg]) e1 e3))
      · exact o_t (M_back hz (fun ξ e1 e2 e3 => nx ξ _ (by rw [g1 hg]; rfl) e1 e3))
    cases hb : bst G o with
    | none =>
      rw [hb] at go
      have e : bst G (o + 1) = if G o then some o else none := by rw [bst, hb]
      exact ⟨fun _ => go (fun q => by rw [e, if_pos q]) (fun q => by rw [e, q]; rfl) ω rfl, fun z => absurd ng1 z⟩
    | some b =>
      rw [hb] at hbi
      have hb1 := hbi.1
      rw [hb] at go
      have e : bst G (o + 1) = if pc o < pc b ∧ G o = true then some o else some b := by rw [bst, hb]
      refine ⟨fun z => absurd z (ng b (by omega)), fun _ => M_ones (by omega) (M_ones (by omega) ?_)⟩
      have h6 := pc_6 o
      have h7 := pc_6 b
      rw [nI_le' (by omega) (by omega)]
      refine ⟨fun q => nx ω _ (by rw [e, if_neg (by omega)]) k1 k3, fun q => go (fun q1 => by rw [e, if_pos ⟨by omega, q1⟩]) (fun q1 => by rw [e, if_neg (fun z => by rw [q1] at z; exact absurd z.2 (by decide))]) ω rfl⟩
end FW
