/-! ===== rain ===== -/
section RN
variable {σ τ υ : PI} {t : Nat → Nat}
theorem M_bit6 {b m : Nat} {Q : Int32 → PI → Prop} (hb : b < 64) (hm : m < 6) (h : Q (nI (b / 2 ^ m % 2)) σ) : wp_X5_has (nI b) (nI m) σ Q := by
  unfold wp_X5_has
  rw [nI_bit (by omega) (by omega), show (nI 1 : Int32) = nI 1 from rfl, nI_inj (by omega) (by omega)]
  rcases (show b / 2 ^ m % 2 = 0 ∨ b / 2 ^ m % 2 = 1 by omega) with e | e
  · rw [e] at h ⊢
    exact ⟨fun _ => h, fun q => absurd q (by omega)⟩
  · rw [e] at h ⊢
    exact ⟨fun q => absurd rfl q, fun _ => h⟩
theorem C_power {b n : Nat} {Q : Int64 → PI → Prop} (hn : n < 100) (h : Q (lN (b ^ n)) σ) : wp_X4_power (lN b) (nI n) σ Q := by
  unfold wp_X4_power w_X4_power_5
  refine for_det n (fun i => (lN b, nI n, lN (b ^ i), nI i, σ)) (fun K => ?_) (fun K i hi hK => ?_) 0 (Nat.zero_le _)
  · show B_X4_power_5 K Q (lN b) (nI n) (lN (b ^ n)) (nI n) σ
    unfold B_X4_power_5
    exact ⟨fun _ => h, fun z => absurd (Int32.le_refl _) z⟩
  · show B_X4_power_5 K Q (lN b) (nI n) (lN (b ^ i)) (nI i) σ
    unfold B_X4_power_5
    rw [nI_le' (by omega) (by omega), nI_add, lN_mul]
    exact ⟨fun z => absurd z (by omega), fun _ x ex => by rw [ex]; exact hK⟩
theorem rem_half {a b : Nat} (hb : 0 < b) (hr : 0 < a % b) : 2 * (b % (a % b)) < b := by
  have h1 := Nat.mod_lt a hb
  have h2 := Nat.mod_lt b hr
  have h3 := Nat.div_add_mod b (a % b)
  have h4 : 1 ≤ b / (a % b) := Nat.div_pos (by omega) hr
  have h5 : a % b ≤ a % b * (b / (a % b)) := Nat.le_mul_of_pos_right _ h4
  omega
theorem gcd_step (a b : Nat) : Nat.gcd b (a % b) = Nat.gcd a b := by
  rw [Nat.gcd_comm a b, Nat.gcd_rec b a, Nat.gcd_comm]
theorem C_gcd {Q : Int64 → PI → Prop} : ∀ (k a b s : Nat), a < 2 ^ 63 → b < 2 ^ 63 → b < 2 ^ k → s + 2 * k ≤ 100 → Q (lN (Nat.gcd a b)) σ → w_X4_commonDivisor_3 Q (lN a) (lN b) (nI s) σ := by
  have fin : ∀ (K : Int64 × Int64 × Int32 × PI → Prop) (a s : Nat), s ≤ 100 → Q (lN a) σ → B_X4_commonDivisor_3 K Q (lN a) (lN 0) (nI s) σ := by
    intro K a s hs h
    unfold B_X4_commonDivisor_3
    rw [nI_le' (by omega) (by omega), lgc_eq]
    exact ⟨fun _ => h, fun _ => ⟨fun _ => h, fun z => absurd rfl z⟩⟩
  have stp : ∀ (K : Int64 × Int64 × Int32 × PI → Prop) (a b s : Nat), s < 100 → a < 2 ^ 63 → b < 2 ^ 63 → ¬ b = 0 → K (lN b, lN (a % b), nI (s + 1), σ) → B_X4_commonDivisor_3 K Q (lN a) (lN b) (nI s) σ := by
    intro K a b s hs ha hb h0 hK
    unfold B_X4_commonDivisor_3
    rw [nI_le' (by omega) (by omega), lgc_eq, pk_lEQ hb (by omega), pk_lRem ha (by omega) hb, nI_add]
    exact ⟨fun z => absurd z (by omega), fun _ => ⟨fun z => absurd z h0, fun _ => ⟨h0, fun x ex => by rw [ex]; exact hK⟩⟩⟩
  intro k
  induction k with
  | zero =>
    intro a b s ha hb hk hs h
    rw [show b = 0 by simp at hk; omega] at h ⊢
    rw [Nat.gcd_zero_right] at h
    exact ⟨1, fin _ a s (by omega) h⟩
  | succ k ih =>
    intro a b s ha hb hk hs h
    by_cases q : b = 0
    · rw [q] at h ⊢
      rw [Nat.gcd_zero_right] at h
      exact ⟨1, fin _ a s (by omega) h⟩
    have hm := Nat.mod_lt a (by omega : 0 < b)
    by_cases q2 : a % b = 0
    · refine ⟨2, stp _ a b s (by omega) ha hb q ?_⟩
      rw [q2]
      refine fin _ b (s + 1) (by omega) ?_
      rw [← gcd_step, q2, Nat.gcd_zero_right] at h
      exact h
    · have hh := rem_half (a := a) (b := b) (by omega) (by omega)
      rw [Nat.pow_succ] at hk
      obtain ⟨n, hn⟩ := ih (a % b) (b % (a % b)) (s + 2) (by omega) (by omega) (by omega) (by omega) (by rw [gcd_step, gcd_step]; exact h)
      exact ⟨n + 2, stp _ a b s (by omega) ha hb q (stp _ b (a % b) (s + 1) (by omega) hb (by omega) q2 hn)⟩
theorem M_gcd {Q : Int64 → PI → Prop} {A B w : Nat} (hA : A < 2 ^ 63) (hB : B < 2 ^ 63) (hB0 : 0 < B) (hw : w < 2) (h : Q (if w = 0 then lN A / lN (Nat.gcd A B) else lN B / lN (Nat.gcd A B)) σ) : w_X5_rain_272 Q (nI w) (lN A) (lN B) (lN A) (lN B) σ := by
  have hg : 0 < Nat.gcd A B := Nat.gcd_pos_of_pos_right A hB0
  unfold w_X5_rain_272
  refine Lp_ind (α := Int32 × Int64 × Int64 × Int64 × Int64 × PI) (fun s => ∃ a b, s = (nI w, lN A, lN B, lN a, lN b, σ) ∧ a < 2 ^ 63 ∧ b < 2 ^ 63 ∧ Nat.gcd a b = Nat.gcd A B) (fun s => s.2.2.2.2.1.toInt.toNat) ?_ _ ⟨A, B, rfl, hA, hB, rfl⟩
  rintro K s ⟨a, b, rfl, ha, hb, he⟩ hK
  show B_X5_rain_272 K Q (nI w) (lN A) (lN B) (lN a) (lN b) σ
  unfold B_X5_rain_272
  rw [lgc_eq, pk_lEQ hb (by omega), nI_inj (by omega) (by omega), pk_lEQ ha (by omega)]
  refine ⟨fun q => ?_, fun q => ⟨q, fun x ex => ?_⟩⟩
  · rw [q, Nat.gcd_zero_right] at he
    rw [he]
    refine ⟨fun q1 => ⟨by omega, ?_⟩, fun q1 => ⟨by omega, ?_⟩⟩
    · rw [if_neg q1] at h; exact h
    · rw [if_pos q1] at h; exact h
  · rw [ex, pk_lRem ha (by omega) hb]
    have hm := Nat.mod_lt a (by omega : 0 < b)
    refine hK _ ⟨b, a % b, rfl, hb, by omega, by rw [gcd_step]; exact he⟩ ?_
    show (lN (a % b)).toInt.toNat < (lN b).toInt.toNat
    rw [pk_lT (by omega), pk_lT hb]; omega
/-- of these sets one is in the other -/
def sbs (x W : Nat) : Prop := ∀ j : Fin 6, x / 2 ^ j.val % 2 ≤ W / 2 ^ j.val % 2
theorem sbs_is : ∀ W x : Fin 64, (nI x.val &&& (nI W.val ^^^ (-1))) = nI 0 → ∀ j : Fin 6, x.val / 2 ^ j.val % 2 ≤ W.val / 2 ^ j.val % 2 := by decide +kernel
theorem sbs_of {x W : Nat} (hx : x < 64) (hW : W < 64) (h : (nI x &&& (nI W ^^^ (-1))) = nI 0) : sbs x W := sbs_is ⟨W, hW⟩ ⟨x, hx⟩ h
def pcn (x n : Nat) : Nat := sm (fun j => x / 2 ^ j % 2) n
theorem pcn_is : ∀ L : Fin 7, ∀ x : Fin 64, x.val < 2 ^ L.val → pcn x.val L.val = pc x.val := by decide +kernel
theorem sbs_le' : ∀ W x : Fin 64, (∀ j : Fin 6, x.val / 2 ^ j.val % 2 ≤ W.val / 2 ^ j.val % 2) → x.val ≤ W.val ∧ pc x.val ≤ pc W.val := by decide +kernel
theorem sbs_le {x W : Nat} (hx : x < 64) (hW : W < 64) (h : sbs x W) : x ≤ W ∧ pc x ≤ pc W := sbs_le' ⟨W, hW⟩ ⟨x, hx⟩ h
/-- the product of the parts -/
def pr (W x p : Nat) : Nat → Nat
  | 0 => 1
  | i + 1 => pr W x p i * (if W / 2 ^ i % 2 = 0 then 1 else if x / 2 ^ i % 2 = 0 then 10 - p else p)
theorem pr_is {W x p : Nat} (h : sbs x W) : ∀ n, n ≤ 6 → pcn x n ≤ pcn W n ∧ pr W x p n = p ^ pcn x n * (10 - p) ^ (pcn W n - pcn x n) := by
  intro n
  induction n with
  | zero => intro _; exact ⟨Nat.le_refl _, by simp [pr, pcn, sm]⟩
  | succ n ih =>
    intro hn
    obtain ⟨i1, i2⟩ := ih (by omega)
    have hj := h ⟨n, by omega⟩
    simp only at hj
    have e1 : pcn x (n + 1) = pcn x n + x / 2 ^ n % 2 := rfl
    have e2 : pcn W (n + 1) = pcn W n + W / 2 ^ n % 2 := rfl
    rw [e1, e2, pr, i2]
    rcases (show W / 2 ^ n % 2 = 0 ∨ W / 2 ^ n % 2 = 1 by omega) with q | q
    · rw [q, show x / 2 ^ n % 2 = 0 by omega, if_pos rfl]
      exact ⟨by omega, by rw [Nat.mul_one, Nat.add_zero, Nat.add_zero]⟩
    · rcases (show x / 2 ^ n % 2 = 0 ∨ x / 2 ^ n % 2 = 1 by omega) with z | z
      · rw [q, z, if_neg (by omega), if_pos rfl]
        refine ⟨by omega, ?_⟩
        rw [Nat.add_zero, show pcn W n + 1 - pcn x n = (pcn W n - pcn x n) + 1 by omega, Nat.pow_succ, Nat.mul_assoc]
      · rw [q, z, if_neg (by omega), if_neg (by omega)]
        refine ⟨by omega, ?_⟩
        rw [show pcn W n + 1 - (pcn x n + 1) = pcn W n - pcn x n by omega, Nat.pow_succ, Nat.mul_assoc, Nat.mul_assoc, Nat.mul_comm p]
def csn (W x p : Nat) : Nat := p ^ pc x * (10 - p) ^ (pc W - pc x)
theorem csn_le {W x p : Nat} (hp : p ≤ 10) : csn W x p ≤ 10 ^ 12 := by
  have h1 := pc_6 x
  have h2 := pc_6 W
  unfold csn
  have a1 : p ^ pc x ≤ 10 ^ 6 := Nat.le_trans (Nat.pow_le_pow_left hp _) (Nat.pow_le_pow_right (by omega) h1)
  have a2 : (10 - p) ^ (pc W - pc x) ≤ 10 ^ 6 := Nat.le_trans (Nat.pow_le_pow_left (by omega) _) (Nat.pow_le_pow_right (by omega) (by omega))
  exact Nat.le_trans (Nat.mul_le_mul a1 a2) (by omega)
theorem C_cases {W x p : Nat} {Q : Int64 → PI → Prop} (hx : x < 64) (hW : W < 64) (hp : p ≤ 10) (hs : sbs x W) (h : Q (lN (csn W x p)) σ) : wp_X4_cases (nI x) (nI W) (nI p) σ Q := by
  have h1 := pc_6 x
  have h2 := pc_6 W
  have h3 := (sbs_le hx hW hs).2
  unfold wp_X4_cases
  rw [nI_l (n := p) (by omega), nI_sub (by omega), nI_l (n := 10 - p) (by omega)]
  refine J_bits hx (C_power (by omega) (J_bits hW ?_))
  rw [nI_sub h3]
  refine C_power (by omega) ?_
  rw [lN_mul]
  exact h
def tbt (x : Nat) : Nat → Bool := fun l => x.testBit l
theorem C_feelsW {a v x : Nat} {Q : Int32 → PI → Prop} (ht : RTn σ t) (hI : Iv 999 t) (ha : a < t 2) (hv : v ≤ 99) (hx : x < 64) (h : ∀ υ, Fr 1 σ υ → Q (if v ≤ dy t (tbt x) (6 + a) then nI 1 else nI 0) υ) : wp_X4_feelsWithout (nI a) (nI v) (nI x) σ Q := by
  unfold wp_X4_feelsWithout
  obtain ⟨i1, i2, i3, i4, i5, i6, i7, i8, i9⟩ := hI.1.b
  refine C_try ht (fun ω w1 w2 w3 χ ec => T_passDay (hb := tbt x) (t := t) (by rw [ec]; exact up14 w1) hI (by rw [ec, up_s]; exact HB_n hx) (fun ψ y1 y2 y3 => ?_))
  have fr : Fr 1 σ ψ := w3.tr ((by rw [ec]; exact Fr.u (by omega) : Fr 1 ω χ).tr y3)
  have hfe : dy t (tbt x) (6 + a) ≤ 99 := ((dy_iv hI (by omega)).2.1 a (by rw [dy_2]; exact ha)).1
  rw [nI_cl (a := a) (by omega), (y1.2.1 a (by rw [dy_2]; exact ha)).1, nI_lt' (by omega) (by omega)]
  have := h ψ fr
  refine ⟨vpN (by omega) (by omega), fun q => ?_, fun q => ?_⟩
  · rw [if_neg (by omega)] at this; exact this
  · rw [if_pos (by omega)] at this; exact this
theorem sm_zero {f : Nat → Nat} {a : Nat} : ∀ b, a ≤ b → (∀ x, a ≤ x → x < b → f x = 0) → sm f b = sm f a := by
  intro b
  induction b with
  | zero => intro h _; rw [show a = 0 by omega]
  | succ b ih =>
    intro h hz
    by_cases q : a = b + 1
    · rw [q]
    · rw [sm, hz b (by omega) (by omega), ih (by omega) (fun x h1 h2 => hz x h1 (by omega)), Nat.add_zero]
theorem sm_cong2 {f g : Nat → Nat} (n : Nat) (h : ∀ i, i < n → f i = g i) : sm f n = sm g n := sm_cong n h
theorem eq_rain {a0 a1 a2 a3 : Int32} (h : Rel σ) : wp_X4_rain a0 a1 a2 a3 σ (fun r τ => wp_X5_rain a0 a1 a2 a3 τ (fun r' τ' => r = r' ∧ Rel τ')) := by
  unfold wp_X4_rain
  obtain ⟨t, ht⟩ := h.2.2.2.2.2.1
  obtain ⟨b2, b3, b4⟩ := ht.b
  have m2 := ht.2.1 2 (by omega)
  by_cases hr0 : ¬ ∃ a, a < t 2 ∧ a0 = nI a
  · exact C_manF ht.1.1.1 (by omega) hr0 (z_t (M_manF m2 (by omega) hr0 (z_t ⟨rfl, h⟩)))
  obtain ⟨a, ha, rfl⟩ := Classical.not_not.mp hr0
  refine C_manT ht.1.1.1 (by omega) ha (o_t ?_)
  by_cases hv0 : ¬ ∃ a, 0 ≤ a ∧ a ≤ 99 ∧ a1 = nI a
  · exact C_wf (by omega) (by omega) hv0 (z_t (M_manT m2 (by omega) ha (o_t (M_if (by omega) (by omega) hv0 (z_t ⟨rfl, h⟩)))))
  obtain ⟨v, -, hv, rfl⟩ := Classical.not_not.mp hv0
  refine C_wt (by omega) hv (by omega) (o_t ?_)
  by_cases hp0 : ¬ ∃ a, 0 ≤ a ∧ a ≤ 10 ∧ a2 = nI a
  · exact C_wf (by omega) (by omega) hp0 (z_t (M_manT m2 (by omega) ha (o_t (M_it (by omega) hv (by omega) (o_t (M_if (by omega) (by omega) hp0 (z_t ⟨rfl, h⟩)))))))
  obtain ⟨p, -, hp, rfl⟩ := Classical.not_not.mp hp0
  refine C_wt (by omega) hp (by omega) (o_t ?_)
  by_cases hw0 : ¬ ∃ a, a < 2 ∧ a3 = nI a
  · exact C_bitF hw0 (z_t' (M_manT m2 (by omega) ha (o_t (M_it (by omega) hv (by omega) (o_t (M_it (by omega) hp (by omega) (o_t (M_whF hw0 (z_t' ⟨rfl, h⟩)))))))))
  obtain ⟨w, hw, rfl⟩ := Classical.not_not.mp hw0
  obtain ⟨hI, hth⟩ := b4 (by omega)
  obtain ⟨i1, i2, i3, i4, i5, i6, i7, i8, i9⟩ := hI.1.b
  have p3 : 2 ^ t 3 ≤ 2 ^ 6 := Nat.pow_le_pow_right (by omega) i4
  obtain ⟨W, hWd⟩ : ∃ W, W = bm (fun l => decide (t (16 + l) = 5)) (t 3) := ⟨_, rfl⟩
  have hW2 : W < 2 ^ t 3 := by rw [hWd]; exact bm_lt _ _
  have hW : W < 64 := by omega
  have pW := pc_6 W
  refine C_bitT hw (o_t' (T_ofKind ht.1 hI (by omega) ?_))
  rw [← hWd]
  obtain ⟨f, hf⟩ : ∃ f : Nat → Nat, f = fun x => if (nI x &&& (nI W ^^^ (-1))) = nI 0 then (if v ≤ dy t (tbt x) (6 + a) then csn W x p else 0) else 0 := ⟨_, rfl⟩
  have fle : ∀ x, f x ≤ 10 ^ 12 := fun x => by
    rw [hf]; simp only
    split
    · split
      · exact csn_le hp
      · omega
    · omega
  obtain ⟨A, hA⟩ : ∃ A, A = sm f (2 ^ t 3) := ⟨_, rfl⟩
  have hA1 : A ≤ 64 * 10 ^ 12 := by rw [hA]; exact Nat.le_trans (sm_le _ (fun i _ => fle i)) (Nat.mul_le_mul_right _ (by omega))
  have hAl : A < 2 ^ 63 := by omega
  have hB1 : 10 ^ pc W ≤ 10 ^ 6 := Nat.pow_le_pow_right (by omega) pW
  have hB0 : 0 < 10 ^ pc W := Nat.pow_pos (by omega)
  have hBl : 10 ^ pc W < 2 ^ 63 := by omega
  have hg : 0 < Nat.gcd A (10 ^ pc W) := Nat.gcd_pos_of_pos_right A hB0
  have hgl : Nat.gcd A (10 ^ pc W) ≤ 10 ^ pc W := Nat.gcd_le_right A hB0
  obtain ⟨R, hR⟩ : ∃ R : Int64, R = if w = 0 then lN A / lN (Nat.gcd A (10 ^ pc W)) else lN (10 ^ pc W) / lN (Nat.gcd A (10 ^ pc W)) := ⟨_, rfl⟩
  have key : ∀ Q : Int64 → PI → Prop, (∀ υ, Fr 1 σ υ → Q R υ) → w_X4_rain_56 Q (nI a) (nI v) (nI p) (nI w) (nI W) (lN 0) (nI 0) σ := by
    intro Q hQ
    unfold w_X4_rain_56
    refine for_up (α := Int32 × Int32 × Int32 × Int32 × Int32 × Int64 × Int32 × PI) (2 ^ t 3) (fun x s => ∃ υ, s = (nI a, nI v, nI p, nI w, nI W, lN (sm f x), nI x, υ) ∧ Fr 1 σ υ) ?_ ?_ 0 _ (by omega) ⟨σ, rfl, Fr.rf⟩
    · rintro K s ⟨υ, rfl, k1⟩
      show B_X4_rain_56 K Q (nI a) (nI v) (nI p) (nI w) (nI W) (lN (sm f (2 ^ t 3))) (nI (2 ^ t 3)) υ
      unfold B_X4_rain_56
      rw [(ht.fr k1).1.1.2.1, nI_shl (by omega), ← hA]
      refine ⟨fun _ => J_bits hW (C_power (by omega) (C_gcd 20 A (10 ^ pc W) 0 hAl hBl (by omega) (by omega) ?_)), fun z => absurd (Int32.le_refl _) z⟩
      have e : (if lN (Nat.gcd A (10 ^ pc W)) < lN 1 then lN 1 else lN (Nat.gcd A (10 ^ pc W))) = lN (Nat.gcd A (10 ^ pc W)) := by
        rw [if_neg]; rw [pk_lLT (by omega) (by omega)]; omega
      have hQ' := hQ υ k1
      unfold w_X4_rain_144
      rw [e, pk_lEQ (by omega) (by omega), nI_inj (by omega) (by omega)]
      refine ⟨fun q => ⟨by omega, ?_⟩, fun q => ⟨by omega, ?_⟩⟩
      · rw [hR, if_neg q] at hQ'; exact hQ'
      · rw [hR, if_pos q] at hQ'; exact hQ'
    · rintro K x s hx ⟨υ, rfl, k1⟩ hK
      show B_X4_rain_56 K Q (nI a) (nI v) (nI p) (nI w) (nI W) (lN (sm f x)) (nI x) υ
      unfold B_X4_rain_56 w_X4_rain_104
      rw [(ht.fr k1).1.1.2.1, nI_shl (by omega), nI_le' (by omega) (by omega), nI_add]
      have nx : ∀ (ω : PI) (y : Nat), Fr 1 σ ω → f x = y → K (nI a, nI v, nI p, nI w, nI W, lN (sm f x + y), nI (x + 1), ω) := fun ω y q1 q2 => hK _ ⟨ω, by rw [sm, q2], q1⟩
      refine ⟨fun z => absurd z (by omega), fun _ => ⟨fun q => ?_, fun q => C_feelsW (ht.fr k1) hI ha hv (by omega) (fun ψ y1 => ?_)⟩⟩
      · exact nx υ 0 k1 (by rw [hf]; simp only; rw [if_neg q])
      · by_cases qv : v ≤ dy t (tbt x) (6 + a)
        · rw [if_pos qv]
          refine o_t (C_cases (by omega) hW hp (sbs_of (by omega) hW q) (fun z ez => ?_))
          rw [ez, lN_add]
          exact nx ψ _ (k1.tr y1) (by rw [hf]; simp only; rw [if_pos q, if_pos qv])
        · rw [if_neg qv]
          exact z_t (nx ψ 0 (k1.tr y1) (by rw [hf]; simp only; rw [if_pos q, if_neg qv]))
  refine key _ (fun υ hfr => ?_)
  have hRe := h.fr hfr
  have htu := ht.fr hfr
  have hMu := htu.2.1
  refine M_manT (n := t 2) (htu.2.1 2 (by omega)) (by omega) ha (o_t (M_it (by omega) hv (by omega) (o_t (M_it (by omega) hp (by omega) (o_t (M_whT hw (o_t' (M_aside (fun ω0 z1 z2 z3 => ?_)))))))))
  obtain ⟨qn, hqn⟩ : ∃ qn : Nat → Bool, qn = fun l => decide (t (16 + l) = 5) := ⟨_, rfl⟩
  have hpw : sm (fun j => if qn j then 1 else 0) (t 3) = pc W := by
    have e1 := pcn_is ⟨t 3, by omega⟩ ⟨W, hW⟩ hW2
    simp only at e1
    rw [← e1]
    unfold pcn
    refine sm_cong2 _ (fun j hj => ?_)
    rw [hWd, bm_bit _ _ _ hj, hqn]
  have kd : ∀ l, l < t 3 → t (16 + l) ≤ 5 := fun l hl => (hI.2.2 l hl).2.1
  have lp2 : ∀ ω : PI, MZ υ ω → (∀ j, j < 70 → ω 280 j = υ 280 j) → w_X5_rain_136 (fun r' τ' => R = r' ∧ Rel τ') (nI a) (nI v) (nI p) (nI w) (lN 0) (lN (10 ^ pc W)) (nI W) (nI 0) ω := by
    intro ω k1 k3
    unfold w_X5_rain_136
    refine for_up (α := Int32 × Int32 × Int32 × Int32 × Int64 × Int64 × Int32 × Int32 × PI) (W + 1) (fun x s => ∃ ω, s = (nI a, nI v, nI p, nI w, lN (sm f x), lN (10 ^ pc W), nI W, nI x, ω) ∧ MZ υ ω ∧ ∀ j, j < 70 → ω 280 j = υ 280 j) ?_ ?_ 0 _ (by omega) ⟨ω, rfl, k1, k3⟩
    · rintro K s ⟨ω, rfl, k1, k3⟩
      show B_X5_rain_136 K _ (nI a) (nI v) (nI p) (nI w) (lN (sm f (W + 1))) (lN (10 ^ pc W)) (nI W) (nI (W + 1)) ω
      unfold B_X5_rain_136
      rw [nI_lt' (by omega) (by omega)]
      refine ⟨fun _ χ ec => ?_, fun z => absurd (by omega) z⟩
      have hRx : Rel χ := hRe.k (MZ.kq (τ := χ) (by rw [ec]; exact k1.h6) (by rw [ec, up_s, htu.2.2.2.1]) (fun j hj => by rw [ec, up_ne (by omega)]; exact k3 j hj))
      have eA : sm f (W + 1) = A := by
        rw [hA]
        refine (sm_zero _ (by omega) (fun x h1 h2 => ?_)).symm
        rw [hf]; simp only
        rw [if_neg (fun z => ?_)]
        have := (sbs_le (by omega) hW (sbs_of (by omega) hW z)).1
        omega
      rw [eA]
      exact M_gcd hAl hBl hB0 hw ⟨hR, hRx⟩
    · rintro K x s hx ⟨ω, rfl, k1, k3⟩ hK
      show B_X5_rain_136 K _ (nI a) (nI v) (nI p) (nI w) (lN (sm f x)) (lN (10 ^ pc W)) (nI W) (nI x) ω
      unfold B_X5_rain_136 w_X5_rain_253
      rw [nI_lt' (by omega) (by omega), nI_add]
      have nx : ∀ (ω : PI) (y : Nat), MZ υ ω → (∀ j, j < 70 → ω 280 j = υ 280 j) → f x = y → K (nI a, nI v, nI p, nI w, lN (sm f x + y), lN (10 ^ pc W), nI W, nI (x + 1), ω) := fun ω y q1 q3 q2 => hK _ ⟨ω, by rw [sm, q2], q1, q3⟩
      refine ⟨fun z => absurd z (by omega), fun _ => ⟨fun q => nx ω 0 k1 k3 (by rw [hf]; simp only; rw [if_neg q]), fun q => ?_⟩⟩
      have hs := sbs_of (by omega) hW q
      have epr : pr W x p (t 3) = csn W x p := by
        rw [(pr_is hs (t 3) i4).2]
        have e1 := pcn_is ⟨t 3, by omega⟩ ⟨W, hW⟩ hW2
        have e2 := pcn_is ⟨t 3, by omega⟩ ⟨x, by omega⟩ (by show x < 2 ^ t 3; omega)
        simp only at e1 e2
        rw [e1, e2]; rfl
      unfold w_X5_rain_159
      refine for_up (α := Int32 × Int32 × Int32 × Int32 × Int64 × Int64 × Int32 × Int32 × Int64 × Int32 × PI) (t 3) (fun i s => s = (nI a, nI v, nI p, nI w, lN (sm f x), lN (10 ^ pc W), nI W, nI x, lN (pr W x p i), nI i, ω)) ?_ ?_ 0 _ (by omega) rfl
      · rintro K2 s rfl
        show B_X5_rain_159 K K2 _ (nI a) (nI v) (nI p) (nI w) (lN (sm f x)) (lN (10 ^ pc W)) (nI W) (nI x) (lN (pr W x p (t 3))) (nI (t 3)) ω
        unfold B_X5_rain_159 w_X5_rain_246 w_X5_rain_253
        rw [k3 3 (by omega), hMu 3 (by omega), epr]
        refine ⟨fun _ χ ec => M_oneDay (hb := tbt x) (t := t) (fun j hj => by rw [ec, up_ne (by omega), k3 j hj]; exact hMu j hj) hI (by rw [ec, up_s]; exact HB_n (by omega)) (fun ψ p1 p4 p2 => ?_), fun z => absurd (Int32.le_refl _) z⟩
        have hz : MZ υ ψ := MZ.fm (τ := χ) (by rw [ec]; exact k1.h6) p2
        have hfe : dy t (tbt x) (6 + a) ≤ 99 := ((dy_iv hI (by omega)).2.1 a (by rw [dy_2]; exact ha)).1
        rw [nI_add, nI_cl (a := 6 + a) (by omega), p1 _ (by omega), nI_lt' (by omega) (by omega), lN_add, lN_add, nI_add]
        refine ⟨vpN (by omega) (by omega), fun qv y ey => M_back hz (fun ξ e1 e2 e3 => ?_), fun qv y ey => M_back hz (fun ξ e1 e2 e3 => ?_)⟩
        · rw [ey]; exact nx ξ 0 e1 e3 (by rw [hf]; simp only; rw [if_pos q, if_neg (by omega)])
        · rw [ey]; exact nx ξ _ e1 e3 (by rw [hf]; simp only; rw [if_pos q, if_pos (by omega)])
      · rintro K2 i s hi rfl hK2
        show B_X5_rain_159 K K2 _ (nI a) (nI v) (nI p) (nI w) (lN (sm f x)) (lN (10 ^ pc W)) (nI W) (nI x) (lN (pr W x p i)) (nI i) ω
        unfold B_X5_rain_159 w_X5_rain_206
        rw [k3 3 (by omega), hMu 3 (by omega), nI_le' (by omega) (by omega), nI_add, nI_sub (by omega), nI_l (n := 10 - p) (by omega), nI_l (n := p) (by omega), lN_mul, lN_mul, lN_mul]
        have hK3 := hK2 _ rfl
        rw [pr] at hK3
        refine ⟨fun z => absurd z (by omega), fun _ => M_bit6 hW (by omega) ?_⟩
        rcases (show W / 2 ^ i % 2 = 0 ∨ W / 2 ^ i % 2 = 1 by omega) with e | e
        · rw [e] at hK3 ⊢
          rw [if_pos rfl] at hK3
          exact z_t' (fun y ey => by rw [ey, nI_add]; exact hK3)
        · rw [e] at hK3 ⊢
          rw [if_neg (by omega)] at hK3
          refine o_t' (M_bit6 (by omega) (by omega) ?_)
          rcases (show x / 2 ^ i % 2 = 0 ∨ x / 2 ^ i % 2 = 1 by omega) with e2 | e2
          · rw [e2] at hK3 ⊢
            rw [if_pos rfl] at hK3
            exact z_t (fun y ey => by rw [ey, nI_add]; exact hK3)
          · rw [e2] at hK3 ⊢
            rw [if_neg (by omega)] at hK3
            exact o_t (fun y ey => by rw [ey, nI_add]; exact hK3)
  have s280 : ∀ j, ω0 280 j = υ 280 j := fun j => by rw [z3]
  unfold w_X5_rain_60
  refine for_up (α := Int32 × Int32 × Int32 × Int32 × Int64 × Int64 × Int32 × Int32 × PI) (t 3) (fun l s => s = (nI a, nI v, nI p, nI w, lN 0, lN (10 ^ sm (fun j => if qn j then 1 else 0) l), nI (bm qn l), nI l, ω0)) ?_ ?_ 0 _ (by omega) rfl
  · rintro K s rfl
    show B_X5_rain_60 K _ (nI a) (nI v) (nI p) (nI w) (lN 0) (lN (10 ^ sm (fun j => if qn j then 1 else 0) (t 3))) (nI (bm qn (t 3))) (nI (t 3)) ω0
    unfold B_X5_rain_60
    rw [s280, hMu 3 (by omega), hpw, show bm qn (t 3) = W by rw [hqn, hWd]]
    exact ⟨fun _ => lp2 ω0 z1 (fun j _ => s280 j), fun z => absurd (Int32.le_refl _) z⟩
  · rintro K l s hl rfl hK
    show B_X5_rain_60 K _ (nI a) (nI v) (nI p) (nI w) (lN 0) (lN (10 ^ sm (fun j => if qn j then 1 else 0) l)) (nI (bm qn l)) (nI l) ω0
    unfold B_X5_rain_60 w_X5_rain_90 w_X5_rain_107 w_X5_rain_124
    have hk := kd l hl
    rw [s280, hMu 3 (by omega), nI_le' (by omega) (by omega), nI_add, nI_cl (a := 16 + l) (by omega), s280, hMu _ (by omega), nI_inj (by omega) (by omega)]
    have hK2 := hK _ rfl
    rw [sm, bm] at hK2
    refine ⟨fun z => absurd z (by omega), fun _ => ⟨vpN (by omega) (by omega), fun q => z_t (fun x ex => z_t (fun y ey => ?_)), fun q => o_t (fun x ex => o_t (fun y ey => ?_))⟩⟩
    · have eq : qn l = false := by rw [hqn]; simp [q]
      rw [eq] at hK2
      rw [ex, ey, lN_mul, show (nI 0 : Int32) = 0 from rfl, Int32.or_zero, nI_add]
      simpa using hK2
    · have eq : qn l = true := by rw [hqn]; simp [q]
      rw [eq] at hK2
      rw [ex, ey, lN_mul, nI_shl (by omega), nI_or (bm_lt _ _), nI_add]
      rw [if_pos rfl, if_pos rfl, Nat.pow_succ] at hK2
      exact hK2
end RN
