/-! ===== the model's town: st is t ===== -/
def MH (f : Nat → Int32) (t : Nat → Nat) : Prop := f 0 = nI (t 0) ∧ f 1 = nI (t 1) ∧ f 2 = nI (t 2) ∧ f 3 = nI (t 3) ∧ f 4 = nI (t 4) ∧ f 5 = nI (t 5)
def ML (f : Nat → Int32) (t : Nat → Nat) (l : Nat) : Prop := f (16 + l) = nI (t (16 + l)) ∧ f (22 + l) = nI (t (22 + l)) ∧ f (28 + l) = nI (t (28 + l)) ∧ f (34 + l) = nI (t (34 + l)) ∧ ∀ m, m < 5 → f (40 + 5 * l + m) = nI (t (40 + 5 * l + m))
def MA (f : Nat → Int32) (t : Nat → Nat) : Prop := ∀ i, i < 70 → f i = nI (t i)
theorem MA.h {f : Nat → Int32} {t : Nat → Nat} (h : MA f t) : MH f t := ⟨h 0 (by omega), h 1 (by omega), h 2 (by omega), h 3 (by omega), h 4 (by omega), h 5 (by omega)⟩
theorem MA.l {f : Nat → Int32} {t : Nat → Nat} (h : MA f t) {l : Nat} (hl : l < 6) : ML f t l := ⟨h _ (by omega), h _ (by omega), h _ (by omega), h _ (by omega), fun m hm => h _ (by omega)⟩
section MD
variable {σ : PI} {N : Nat} {t : Nat → Nat} {l m : Nat} {hb : Nat → Bool}
theorem M_has {x : Int32} {Q : Int32 → PI → Prop} (hx : HB x hb) (hl : l < 6) (h : Q (if hb l then nI 1 else nI 0) σ) : wp_X5_has x (nI l) σ Q := by
  unfold wp_X5_has
  rw [hx l hl]
  generalize hb l = b at h ⊢
  cases b
  · exact ⟨fun _ => h, fun e => absurd e.symm b_ne⟩
  · exact ⟨fun e => absurd rfl e, fun _ => h⟩
theorem M_house {Q : Int32 → PI → Prop} (hH : MH (σ 280) t) (hI : IH N t) (hL : ML (σ 280) t l) (iL : IL t l) (hl : l < 6) (h : Q (nI (hT t l)) σ) : wp_X5_houseOf (nI l) σ Q := by
  obtain ⟨a0, a1, a2, a3, a4, a5⟩ := hH
  obtain ⟨v3, v4, v5, v6, v7⟩ := hL
  obtain ⟨i1, i2, i3, i4, i5, i6, i7, i8, i9⟩ := hI.b
  obtain ⟨j1, j2, j3, j4, j5, j6, j7⟩ := iL
  have hp : t (34 + l) * t 4 ≤ 4 * 3000 := Nat.mul_le_mul (by omega) (by omega)
  unfold wp_X5_houseOf
  rw [a2, a4, nI_add, nI_add, nI_cl (a := 22 + l) (by omega), nI_cl (a := 34 + l) (by omega), v4, v6, nI_inj (by omega) (by omega)]
  refine ⟨vpN (by omega) (by omega), vpN (by omega) (by omega), by omega, ?_⟩
  rw [pk_mul, nI_add, nI_rem (by omega) (by omega) (by omega)]
  exact h
theorem M_times {Q : Int32 → PI → Prop} (hH : MH (σ 280) t) (hI : IH N t) (hL : ML (σ 280) t l) (iL : IL t l) (hl : l < 6) (h : Q (nI (t (40 + 5 * l + hT t l))) σ) : wp_X5_timesOf (nI l) σ Q := by
  unfold wp_X5_timesOf
  have hh := hT_lt hI l
  obtain ⟨i1, i2, i3, i4, i5, i6, i7, i8, i9⟩ := hI.b
  refine M_house hH hI hL iL hl ?_
  rw [pk_mul, nI_add, nI_add, nI_cl (a := 40 + 5 * l + hT t l) (by omega), hL.2.2.2.2 _ (by omega)]
  exact ⟨vpN (by omega) (by omega), h⟩
theorem M_makes {Q : Int32 → PI → Prop} (hH : MH (σ 280) t) (hI : IH N t) (hL : ML (σ 280) t l) (iL : IL t l) (hl : l < 6) (h : Q (nI (mT t l)) σ) : wp_X5_makes (nI l) σ Q := by
  obtain ⟨a0, a1, a2, a3, a4, a5⟩ := id hH
  obtain ⟨v3, v4, v5, v6, v7⟩ := id hL
  obtain ⟨i1, i2, i3, i4, i5, i6, i7, i8, i9⟩ := hI.b
  obtain ⟨j1, j2, j3, j4, j5, j6, j7⟩ := id iL
  have hh := hT_lt hI l
  have key : ∀ s, s = mI t l → w_X5_makes_26 Q (nI l) (nI (t (28 + l))) (nI s) σ := by
    intro s hs
    unfold w_X5_makes_26
    rw [a1, a4, nI_add 16 l, nI_cl (a := 16 + l) (by omega), v3, pk_mul, nI_rem (by omega) (by omega) (by omega), nI_le' (by omega) (by omega)]
    unfold mT at h
    refine ⟨vpN (by omega) (by omega), fun q => ?_, fun q => ?_, fun q => ?_, fun q => ⟨fun q2 => ?_, fun q2 => ?_⟩, fun q => ?_⟩
    · rw [nI_inj (by omega) (by omega)] at q
      rw [if_pos q] at h
      refine M_times hH hI hL iL hl ?_
      have := j7 (hT t l) (by omega)
      rw [nI_le' (by omega) (by omega)]
      refine ⟨fun q2 => ?_, fun q2 => M_times hH hI hL iL hl ?_⟩
      · rw [if_neg (by omega)] at h
        rw [nI_add]; exact h
      · rw [if_pos (by omega)] at h
        rw [nI_add]; exact h
    · rw [nI_inj (by omega) (by omega)] at q
      rw [if_neg (by omega), if_pos q] at h
      rw [nI_div (by omega) (by omega) (by omega)]
      exact h
    · rw [nI_inj (by omega) (by omega)] at q
      rw [if_neg (by omega), if_neg (by omega), if_pos q, ← hs] at h
      exact h
    · rw [nI_inj (by omega) (by omega)] at q
      rw [if_neg (by omega), if_neg (by omega), if_neg (by omega), if_pos q, if_neg (by omega), ← hs] at h
      exact h
    · rw [nI_inj (by omega) (by omega)] at q
      rw [if_neg (by omega), if_neg (by omega), if_neg (by omega), if_pos q, if_pos (by omega)] at h
      rw [pk_mul]; exact h
    · rw [show (nI (t (16 + l))).toInt = ((t (16 + l) : Nat) : Int) from nI_toInt (by omega)] at q
      rw [if_neg (by omega), if_neg (by omega), if_neg (by omega), if_neg (by omega)] at h
      exact h
  unfold wp_X5_makes
  rw [a4, nI_add, nI_cl (a := 28 + l) (by omega), v5, nI_rem (by omega) (by omega) (by omega), nI_inj (by omega) (by omega)]
  refine ⟨vpN (by omega) (by omega), fun x hx => ⟨fun q => ?_, fun q => ?_⟩⟩
  · subst hx
    exact key 0 (by unfold mI; rw [if_neg q])
  · subst hx
    exact key _ (by unfold mI; rw [if_pos q])
theorem M_awayFrom {Q : Int32 → PI → Prop} (hH : MH (σ 280) t) (hI : Iv N t) (hL : ∀ l, l < t 3 → ML (σ 280) t l) (hx : HB (σ 276 6) hb) (hm : m < 2147483648) (h : Q (nI (aw t hb m (t 3))) σ) : wp_X5_awayFrom (nI m) σ Q := by
  obtain ⟨i1, i2, i3, i4, i5, i6, i7, i8, i9⟩ := hI.1.b
  unfold wp_X5_awayFrom w_X5_awayFrom_4
  refine for_det (t 3) (fun i => (nI m, nI (aw t hb m i), nI i, σ)) (fun K => ?_) (fun K i hi hK => ?_) 0 (Nat.zero_le _)
  · show B_X5_awayFrom_4 K Q (nI m) (nI (aw t hb m (t 3))) (nI (t 3)) σ
    unfold B_X5_awayFrom_4
    rw [hH.2.2.2.1]
    exact ⟨fun _ => h, fun q => absurd (Int32.le_refl _) q⟩
  · show B_X5_awayFrom_4 K Q (nI m) (nI (aw t hb m i)) (nI i) σ
    unfold B_X5_awayFrom_4 w_X5_awayFrom_41 w_X5_awayFrom_42
    have hh := hT_lt hI.1 i
    have hlt := bm_lt (pa t hb m) i
    replace hK : K (nI m, nI (bm (pa t hb m) i + if pa t hb m i then 2 ^ i else 0), nI (i + 1), σ) := hK
    rw [hH.2.2.2.1, nI_le' (by omega) (by omega), nI_shl (by omega), show aw t hb m i = bm (pa t hb m) i from rfl, nI_or hlt, nI_add, show nI (bm (pa t hb m) i) ||| nI 0 = nI (bm (pa t hb m) i) from Int32.or_zero]
    refine ⟨fun q => absurd q (by omega), fun _ => M_has hx (by omega) ?_⟩
    cases hbl : hb i
    · refine ⟨fun q => absurd rfl q, fun _ => M_house hH hI.1 (hL i hi) (hI.2.2 i hi) (by omega) ?_⟩
      rw [nI_inj (by omega) hm]
      refine ⟨fun q x hx => ?_, fun q x hx => ?_⟩
      · rw [hx]
        rw [show pa t hb m i = false by simp [pa, hbl, q]] at hK
        exact hK
      · rw [hx]
        rw [show pa t hb m i = true by simp [pa, hbl, q]] at hK
        exact hK
    · refine ⟨fun _ x hx => ?_, fun q => absurd q b_ne⟩
      rw [hx]
      rw [show pa t hb m i = false by simp [pa, hbl]] at hK
      exact hK
theorem M_madeAt {Q : Int32 → PI → Prop} (hH : MH (σ 280) t) (hI : Iv N t) (hL : ∀ l, l < t 3 → ML (σ 280) t l) (hx : HB (σ 276 6) hb) (hm : m < 2147483648) (h : Q (nI (md t hb m (t 3))) σ) : wp_X5_madeAt (nI m) σ Q := by
  obtain ⟨i1, i2, i3, i4, i5, i6, i7, i8, i9⟩ := hI.1.b
  unfold wp_X5_madeAt w_X5_madeAt_11
  have hle := bm_le (pa t hb m) (n := t 3) (m := 6) i4
  refine M_awayFrom hH hI hL hx hm ?_
  have hbt : ∀ l, l < t 3 → ((nI (aw t hb m (t 3)) >>> (nI l &&& 31)) &&& nI 1) = if pa t hb m l then nI 1 else nI 0 := by
    intro l hl
    rw [show aw t hb m (t 3) = bm (pa t hb m) (t 3) from rfl, nI_bit (by omega) (by omega), bm_bit _ _ _ hl]
    cases pa t hb m l <;> rfl
  refine for_det (t 3) (fun i => (nI (aw t hb m (t 3)), nI (md t hb m i), nI i, σ)) (fun K => ?_) (fun K i hi hK => ?_) 0 (Nat.zero_le _)
  · show B_X5_madeAt_11 K Q (nI (aw t hb m (t 3))) (nI (md t hb m (t 3))) (nI (t 3)) σ
    unfold B_X5_madeAt_11
    rw [hH.2.2.2.1]
    exact ⟨fun _ => h, fun q => absurd (Int32.le_refl _) q⟩
  · show B_X5_madeAt_11 K Q (nI (aw t hb m (t 3))) (nI (md t hb m i)) (nI i) σ
    unfold B_X5_madeAt_11 w_X5_madeAt_42
    replace hK : K (nI (aw t hb m (t 3)), nI (md t hb m i + if pa t hb m i then mT t i else 0), nI (i + 1), σ) := hK
    rw [hH.2.2.2.1, nI_le' (by omega) (by omega)]
    refine ⟨fun q => absurd q (by omega), fun _ => ?_⟩
    unfold wp_X5_has
    rw [hbt i hi]
    cases hp : pa t hb m i
    · rw [hp] at hK
      refine ⟨fun _ => ⟨fun _ x hx => ?_, fun q => absurd rfl q⟩, fun q => absurd q.symm b_ne⟩
      rw [hx, nI_add, nI_add]; exact hK
    · rw [hp] at hK
      refine ⟨fun q => absurd rfl q, fun _ => ⟨fun q => absurd q b_ne, fun _ => M_makes hH hI.1 (hL i hi) (hI.2.2 i hi) (by omega) (fun x hx => ?_)⟩⟩
      rw [hx, nI_add, nI_add]; exact hK
theorem M_allFeel {Q : Int32 → PI → Prop} (hA : MA (σ 280) t) (hm : t 2 ≤ 5) (h : Q (nI (sm (fun i => t (6 + i)) (t 2))) σ) : wp_X5_allFeel σ Q := by
  unfold wp_X5_allFeel w_X5_allFeel_4
  refine for_det (t 2) (fun i => (nI (sm (fun i => t (6 + i)) i), nI i, σ)) (fun K => ?_) (fun K i hi hK => ?_) 0 (Nat.zero_le _)
  · show B_X5_allFeel_4 K Q (nI (sm (fun i => t (6 + i)) (t 2))) (nI (t 2)) σ
    unfold B_X5_allFeel_4
    rw [hA 2 (by omega)]
    exact ⟨fun _ => h, fun q => absurd (Int32.le_refl _) q⟩
  · show B_X5_allFeel_4 K Q (nI (sm (fun i => t (6 + i)) i)) (nI i) σ
    unfold B_X5_allFeel_4
    rw [hA 2 (by omega), nI_le' (by omega) (by omega), nI_add 6 i, nI_cl (a := 6 + i) (by omega), hA (6 + i) (by omega)]
    refine ⟨fun q => absurd q (by omega), fun _ => ⟨vpN (by omega) (by omega), fun x hx => ?_⟩⟩
    rw [hx, nI_add, nI_add]
    exact hK
def FM (σ τ : PI) : Prop := (∀ c, c ≠ 280 → c ≠ 276 → τ c = σ c) ∧ ∀ f, f ≠ 17 → τ 276 f = σ 276 f
theorem FM.rf : FM σ σ := ⟨fun _ _ _ => rfl, fun _ _ => rfl⟩
theorem FM.tr {τ υ : PI} (h : FM σ τ) (g : FM τ υ) : FM σ υ := ⟨fun c h1 h2 => (g.1 c h1 h2).trans (h.1 c h1 h2), fun f hf => (g.2 f hf).trans (h.2 f hf)⟩
theorem FM.s {τ : PI} {k : Nat} {v : Int32} (h : FM σ τ) : FM σ (up τ 280 k v) := ⟨fun c h1 h2 => by rw [up_ne h1]; exact h.1 c h1 h2, fun f hf => by rw [up_ne (by omega)]; exact h.2 f hf⟩
theorem FM.u {τ : PI} {v : Int32} (h : FM σ τ) : FM σ (up τ 276 17 v) := ⟨fun c h1 h2 => by rw [up_ne h2]; exact h.1 c h1 h2, fun f hf => by rw [up_k hf]; exact h.2 f hf⟩
theorem clampv {a b : Nat} (ha : a ≤ 99) (hb : b ≤ 99) : (nI a - nI b).toInt = (a : Int) - b := pk_sub_toInt (by omega) (by omega)
theorem M_oneDay {Q : PI → Prop} (hA : MA (σ 280) t) (hI : Iv N t) (hx : HB (σ 276 6) hb)
    (h : ∀ τ, MA (τ 280) (dy t hb) → τ 276 17 = nI (us t hb) → FM σ τ → Q τ) : wp_X5_oneDay σ Q := by
  obtain ⟨i1, i2, i3, i4, i5, i6, i7, i8, i9⟩ := hI.1.b
  unfold wp_X5_oneDay w_X5_oneDay_7
  intro τ0 e0
  refine for_h1 (t 2) (fun i => nI i) (fun i τ => FM σ τ ∧ τ 276 17 = nI (bm (ud t hb) i) ∧ (∀ j, j < 70 → τ 280 j = if 6 ≤ j ∧ j < 6 + i then nI (nf t hb (j - 6)) else nI (t j))) ?_ ?_ 0 _ (Nat.zero_le _) ⟨by rw [e0]; exact FM.rf.u, by rw [e0, up_s]; rfl, fun j hj => by rw [if_neg (by omega), e0, up_ne (by omega), hA j hj]⟩
  · rintro K τ ⟨g1, g2, g3⟩
    show B_X5_oneDay_7 K Q (nI (t 2)) τ
    unfold B_X5_oneDay_7 w_X5_oneDay_158
    have hst : ∀ j, j < 70 → (j < 6 ∨ 6 + t 2 ≤ j) → τ 280 j = nI (t j) := fun j hj h6 => by rw [g3 j hj, if_neg (by omega)]
    rw [hst 2 (by omega) (by omega)]
    refine ⟨fun _ => ?_, fun q => absurd (Int32.le_refl _) q⟩
    refine for_h1 (t 3) (fun i => nI i) (fun i υ => FM σ υ ∧ υ 276 17 = nI (us t hb) ∧ (∀ j, j < 70 → υ 280 j = if 40 ≤ j ∧ j < 40 + 5 * i ∧ pa t hb ((j - 40) % 5) ((j - 40) / 5) = true then nI (t j + 1) else τ 280 j)) ?_ ?_ 0 _ (Nat.zero_le _) ⟨g1, g2, fun j hj => by rw [if_neg (by omega)]⟩
    · rintro K2 υ ⟨f1, f2, f3⟩
      show B_X5_oneDay_158 K2 Q (nI (t 3)) υ
      unfold B_X5_oneDay_158
      rw [f3 3 (by omega), if_neg (by omega), hst 3 (by omega) (by omega), f3 4 (by omega), if_neg (by omega), hst 4 (by omega) (by omega)]
      refine ⟨fun _ ω ew => ?_, fun q => absurd (Int32.le_refl _) q⟩
      refine h ω (fun j hj => ?_) (by rw [ew, up_ne (by omega), f2]) (by rw [ew]; exact f1.s)
      rw [ew]
      by_cases q : j = 4
      · subst q; rw [up_s, dy_4, nI_add]
      · rw [up_k q, f3 j hj]
        unfold dy
        rw [if_neg q]
        by_cases q6 : 6 ≤ j ∧ j < 6 + t 2
        · rw [if_neg (by omega), g3 j hj, if_pos q6, if_pos q6]
        · rw [if_neg q6]
          by_cases q4 : 40 ≤ j ∧ j < 40 + 5 * t 3
          · rw [if_pos q4]
            cases hp : pa t hb ((j - 40) % 5) ((j - 40) / 5)
            · rw [if_neg (by simp), hst j hj (by omega)]; simp
            · rw [if_pos ⟨q4.1, q4.2, rfl⟩]; simp
          · rw [if_neg q4, if_neg (by omega), hst j hj (by omega)]
    · rintro K2 i υ hi ⟨f1, f2, f3⟩ hK
      show B_X5_oneDay_158 K2 Q (nI i) υ
      unfold B_X5_oneDay_158 w_X5_oneDay_202
      have u6 : ∀ j, j < 70 → (j < 6 ∨ 6 + t 2 ≤ j) → (j < 40 ∨ 40 + 5 * i ≤ j) → υ 280 j = nI (t j) := fun j hj h6 h40 => by rw [f3 j hj, if_neg (by omega), hst j hj h6]
      have hH : MH (υ 280) t := ⟨u6 0 (by omega) (by omega) (by omega), u6 1 (by omega) (by omega) (by omega), u6 2 (by omega) (by omega) (by omega), u6 3 (by omega) (by omega) (by omega), u6 4 (by omega) (by omega) (by omega), u6 5 (by omega) (by omega) (by omega)⟩
      have hL : ML (υ 280) t i := ⟨u6 _ (by omega) (by omega) (by omega), u6 _ (by omega) (by omega) (by omega), u6 _ (by omega) (by omega) (by omega), u6 _ (by omega) (by omega) (by omega), fun m hm => u6 _ (by omega) (by omega) (by omega)⟩
      have hh := hT_lt hI.1 i
      rw [hH.2.2.2.1, nI_le' (by omega) (by omega)]
      refine ⟨fun q => absurd q (by omega), fun _ => M_house hH hI.1 hL (hI.2.2 i hi) (by omega) ?_⟩
      rw [pk_mul, nI_add, nI_add, nI_add i 1, nI_cl (a := 40 + 5 * i + hT t i) (by omega), hL.2.2.2.2 _ (by omega), nI_add, nI_add, f1.2 6 (by omega)]
      have hv : vp_in (nI (40 + 5 * i + hT t i)) 70 := vpN (by omega) (by omega)
      refine ⟨hv, M_has hx (by omega) ?_⟩
      have fin : ∀ (ω : PI) (b : Bool), ω = up υ 280 (40 + 5 * i + hT t i) (nI (t (40 + 5 * i + hT t i) + if b then 1 else 0)) → hb i = !b → FM σ ω ∧ ω 276 17 = nI (us t hb) ∧ (∀ j, j < 70 → ω 280 j = if 40 ≤ j ∧ j < 40 + 5 * (i + 1) ∧ pa t hb ((j - 40) % 5) ((j - 40) / 5) = true then nI (t j + 1) else τ 280 j) := by
        intro ω b ew hbb
        refine ⟨by rw [ew]; exact f1.s, by rw [ew, up_ne (by omega), f2], fun j hj => ?_⟩
        rw [ew]
        have hpa : ∀ m, pa t hb m i = (b && decide (hT t i = m)) := fun m => by simp [pa, hbb]
        by_cases q : j = 40 + 5 * i + hT t i
        · subst q
          rw [up_s, show (40 + 5 * i + hT t i - 40) % 5 = hT t i by omega, show (40 + 5 * i + hT t i - 40) / 5 = i by omega, hpa, hst _ hj (by omega)]
          cases b
          · simp
          · show nI (t (40 + 5 * i + hT t i) + 1) = if _ then _ else _
            rw [if_pos ⟨by omega, by omega, by simp⟩]
        · rw [up_k q, f3 j hj]
          by_cases q2 : 40 + 5 * i ≤ j ∧ j < 45 + 5 * i
          · have h1 : (j - 40) / 5 = i := by omega
            have h2 : ¬ hT t i = (j - 40) % 5 := by omega
            rw [if_neg (by omega), if_neg]
            rw [h1, hpa]
            simp [h2]
          · by_cases q3 : 40 ≤ j ∧ j < 40 + 5 * i ∧ pa t hb ((j - 40) % 5) ((j - 40) / 5) = true
            · rw [if_pos q3, if_pos ⟨q3.1, by omega, q3.2.2⟩]
            · rw [if_neg q3, if_neg (fun z => q3 ⟨z.1, by omega, z.2.2⟩)]
      cases hbl : hb i
      · exact ⟨fun _ => ⟨hv, fun ω ew => hK ω (fin ω true ew hbl)⟩, fun q => absurd rfl q⟩
      · exact ⟨fun q => absurd q b_ne, fun _ => ⟨hv, fun ω ew => hK ω (fin ω false ew hbl)⟩⟩
  · rintro K i τ hi ⟨g1, g2, g3⟩ hK
    show B_X5_oneDay_7 K Q (nI i) τ
    unfold B_X5_oneDay_7
    have hst : ∀ j, j < 70 → (j < 6 ∨ 6 + i ≤ j) → τ 280 j = nI (t j) := fun j hj h6 => by rw [g3 j hj, if_neg (by omega)]
    have hH : MH (τ 280) t := ⟨hst 0 (by omega) (by omega), hst 1 (by omega) (by omega), hst 2 (by omega) (by omega), hst 3 (by omega) (by omega), hst 4 (by omega) (by omega), hst 5 (by omega) (by omega)⟩
    have hL : ∀ l, l < t 3 → ML (τ 280) t l := fun l hl => ⟨hst _ (by omega) (by omega), hst _ (by omega) (by omega), hst _ (by omega) (by omega), hst _ (by omega) (by omega), fun m hm => hst _ (by omega) (by omega)⟩
    have hmd := md_le (hb := hb) (m := i) hI (t 3) (Nat.le_refl _)
    obtain ⟨b1, b2⟩ := hI.2.1 i hi
    have hlt := bm_lt (ud t hb) i
    have haw : aw t hb i (t 3) < 2 ^ 6 := bm_le (pa t hb i) i4
    have hx' : HB (τ 276 6) hb := by rw [g1.2 6 (by omega)]; exact hx
    rw [hst 2 (by omega) (by omega), nI_le' (by omega) (by omega)]
    refine ⟨fun q => absurd q (by omega), fun _ => M_madeAt hH hI hL hx' (by omega) (M_awayFrom hH hI hL hx' (by omega) ?_)⟩
    have v49 : ∀ (n : Nat) (ω : PI), n = nf t hb i → (∀ j, j < 70 → ω 280 j = τ 280 j) → FM σ ω → ω 276 17 = nI (bm (ud t hb) (i + 1)) → w_X5_oneDay_149 K Q (nI i) (nI n) (nI 6 + nI i) ω := by
      intro n ω hn e1 e2 e3
      unfold w_X5_oneDay_149
      rw [nI_add, nI_add, nI_cl (a := 6 + i) (by omega)]
      refine ⟨vpN (by omega) (by omega), fun υ eu => hK υ ⟨by rw [eu]; exact e2.s, by rw [eu, up_ne (by omega), e3], fun j hj => ?_⟩⟩
      rw [eu]
      by_cases q : j = 6 + i
      · subst q
        rw [up_s, if_pos (by omega), show 6 + i - 6 = i by omega, hn]
      · rw [up_k q, e1 j hj, g3 j hj]
        by_cases q2 : 6 ≤ j ∧ j < 6 + i
        · rw [if_pos q2, if_pos (by omega)]
        · rw [if_neg q2, if_neg (by omega)]
    -- clamp of x, used bit u
    have v114 : ∀ (x : Int32) (u : Bool), ud t hb i = u → (x.toInt < 0 → nf t hb i = 0) → (99 < x.toInt → nf t hb i = 99) → (0 ≤ x.toInt → x.toInt ≤ 99 → x = nI (nf t hb i)) → w_X5_oneDay_114 K Q (nI i) x (if u then nI (2 ^ i) else nI 0) (τ 276 17) τ := by
      intro x u hu c1 c2 c3
      unfold w_X5_oneDay_114
      intro ω ew
      have hω1 : ∀ j, j < 70 → ω 280 j = τ 280 j := fun j hj => by rw [ew, up_ne (by omega)]
      have hω2 : FM σ ω := by rw [ew]; exact g1.u
      have hω3 : ω 276 17 = nI (bm (ud t hb) (i + 1)) := by
        rw [ew, up_s, g2]
        show _ = nI (bm (ud t hb) i + if ud t hb i then 2 ^ i else 0)
        rw [hu]
        cases u
        · exact Int32.or_zero
        · exact nI_or hlt
      have z0 : nI 0 ≤ x ↔ 0 ≤ x.toInt := by rw [Int32.le_iff_toInt_le]; rfl
      have z9 : x ≤ nI 99 ↔ x.toInt ≤ 99 := by rw [Int32.le_iff_toInt_le]; rfl
      rw [z0, z9]
      refine ⟨fun q => ⟨fun q2 => ?_, fun q2 => v49 99 ω (c2 (by omega)).symm hω1 hω2 hω3⟩, fun q => v49 0 ω (c1 (by omega)).symm hω1 hω2 hω3⟩
      rw [c3 q q2]
      exact v49 _ ω rfl hω1 hω2 hω3
    have v94 : ∀ (y : Int32) (u : Bool), ud t hb i = u → ((nI (t (6 + i)) + y).toInt < 0 → nf t hb i = 0) → (99 < (nI (t (6 + i)) + y).toInt → nf t hb i = 99) → (0 ≤ (nI (t (6 + i)) + y).toInt → (nI (t (6 + i)) + y).toInt ≤ 99 → nI (t (6 + i)) + y = nI (nf t hb i)) → w_X5_oneDay_94 K Q (nI i) (if u then nI 1 else nI 0) y (nI (t (6 + i))) τ := by
      intro y u hu c1 c2 c3
      unfold w_X5_oneDay_94
      intro x hx
      rw [← hx] at c1 c2 c3
      have := v114 x u hu c1 c2 c3
      rw [nI_shl (by omega)]
      cases u
      · exact ⟨fun _ => this, fun q => absurd rfl q⟩
      · exact ⟨fun q => absurd q b_ne, fun _ => this⟩
    unfold w_X5_oneDay_36 w_X5_oneDay_58 w_X5_oneDay_59
    rw [nI_inj (a := aw t hb i (t 3)) (b := 0) (by omega) (by omega), nI_add 11 i, nI_cl (a := 11 + i) (by omega), hst (11 + i) (by omega) (by omega), nI_add 6 i, nI_cl (a := 6 + i) (by omega), hst (6 + i) (by omega) (by omega), hst 0 (by omega) (by omega), nI_lt' (by omega) (by omega)]
    have hv6 : vp_in (nI (6 + i)) 70 := vpN (by omega) (by omega)
    have hv11 : vp_in (nI (11 + i)) 70 := vpN (by omega) (by omega)
    have neg : ∀ b : Nat, b ≤ 99 → nI (t (6 + i)) + -nI b = nI (t (6 + i)) - nI b := fun b _ => (Int32.sub_eq_add_neg _ _).symm
    have clp : ∀ b : Nat, b ≤ 99 → nf t hb i = t (6 + i) - b → ((nI (t (6 + i)) - nI b).toInt < 0 → nf t hb i = 0) ∧ (99 < (nI (t (6 + i)) - nI b).toInt → nf t hb i = 99) ∧ (0 ≤ (nI (t (6 + i)) - nI b).toInt → (nI (t (6 + i)) - nI b).toInt ≤ 99 → nI (t (6 + i)) - nI b = nI (nf t hb i)) := by
      intro b hb9 hn
      rw [clampv b1 hb9]
      refine ⟨fun _ => by omega, fun _ => by omega, fun _ _ => ?_⟩
      rw [hn, nI_sub (by omega)]
    refine ⟨fun qa => ⟨fun q => absurd rfl q, fun _ => ⟨hv11, fun q => ⟨hv6, fun _ => ⟨fun _ => ?_, fun q => absurd rfl q⟩, fun q => absurd rfl q⟩, fun q => ⟨hv6, fun _ => ⟨fun q => absurd q b_ne, fun _ => ?_⟩, fun q => absurd rfl q⟩⟩⟩, fun qa => ⟨fun _ => ⟨hv6, fun q => absurd q b_ne, fun _ => ?_⟩, fun q => absurd q b_ne⟩⟩
    · have hn : nf t hb i = if t (6 + i) + md t hb i (t 3) < 99 then t (6 + i) + md t hb i (t 3) else 99 := by
        unfold nf; rw [if_neg qa, if_pos q]
      refine v94 (nI (md t hb i (t 3))) false (by simp [ud, qa, q]) ?_ ?_ ?_
      all_goals rw [nI_add, show (nI (t (6 + i) + md t hb i (t 3))).toInt = ((t (6 + i) + md t hb i (t 3) : Nat) : Int) from nI_toInt (by omega)]
      · intro z; omega
      · intro z; rw [hn, if_neg (by omega)]
      · intro z1 z2
        rw [hn]
        split
        · rfl
        · rw [show t (6 + i) + md t hb i (t 3) = 99 by omega]
    · have hn : nf t hb i = t (6 + i) - t 0 := by unfold nf; rw [if_neg qa, if_neg q]
      obtain ⟨c1, c2, c3⟩ := clp (t 0) (by omega) hn
      have := v94 (-nI (t 0)) true (by simp [ud, qa, q])
      rw [neg _ (by omega)] at this
      exact this c1 c2 c3
    · have hn : nf t hb i = t (6 + i) - 1 := by unfold nf; rw [if_pos qa]
      obtain ⟨c1, c2, c3⟩ := clp 1 (by omega) hn
      have := v94 (-nI 1) false (by simp [ud, qa])
      rw [neg _ (by omega)] at this
      exact this c1 c2 c3
theorem M_goOn {Q : PI → Prop} {n : Nat} (hA : MA (σ 280) t) (hI : Iv N t) (hx : HB (σ 276 6) hb) (hn : N + n ≤ 3000)
    (h : ∀ τ, MA (τ 280) (dys t hb n) → FM σ τ → Q τ) : wp_X5_goOn (nI n) σ Q := by
  unfold wp_X5_goOn w_X5_goOn_2
  refine for_h2 n (fun _ => nI n) (fun i => nI i) (fun i τ => MA (τ 280) (dys t hb i) ∧ FM σ τ) ?_ ?_ 0 _ (Nat.zero_le _) ⟨hA, FM.rf⟩
  · rintro K τ ⟨g1, g2⟩
    show B_X5_goOn_2 K Q (nI n) (nI n) τ
    unfold B_X5_goOn_2
    exact ⟨fun _ => h τ g1 g2, fun q => absurd (Int32.le_refl _) q⟩
  · rintro K i τ hi ⟨g1, g2⟩ hK
    show B_X5_goOn_2 K Q (nI n) (nI i) τ
    unfold B_X5_goOn_2
    rw [nI_le' (by omega) (by omega), nI_add]
    refine ⟨fun q => absurd q (by omega), fun _ => M_oneDay g1 (dys_iv hI i (by omega)) (by rw [g2.2 6 (by omega)]; exact hx) (fun υ f1 f2 f3 => ?_)⟩
    exact hK υ ⟨f1, g2.tr f3⟩
theorem M_sendTo {Q : PI → Prop} {h0 : Nat} (hA : MA (σ 280) t) (hl : l < 6) (h : ∀ τ, MA (τ 280) (snd t l h0) → (∀ c, c ≠ 280 → τ c = σ c) → Q τ) : wp_X5_sendTo (nI l) (nI h0) σ Q := by
  unfold wp_X5_sendTo w_X5_sendTo_12
  rw [nI_add, nI_cl (a := 22 + l) (by omega)]
  refine ⟨vpN (by omega) (by omega), fun τ e => ?_⟩
  refine for_h2 5 (fun _ => nI l) (fun i => nI i) (fun i υ => (∀ c, c ≠ 280 → υ c = σ c) ∧ (∀ j, j < 70 → υ 280 j = if 40 + 5 * l ≤ j ∧ j < 40 + 5 * l + i then nI 0 else if j = 22 + l then nI h0 else nI (t j))) ?_ ?_ 0 _ (Nat.zero_le _) ⟨fun c hc => by rw [e, up_ne hc], fun j hj => ?_⟩
  · rintro K υ ⟨g1, g2⟩
    show B_X5_sendTo_12 K Q (nI l) (nI 5) υ
    unfold B_X5_sendTo_12
    refine ⟨fun _ => h υ (fun j hj => ?_) g1, fun q => absurd (Int32.le_refl _) q⟩
    rw [g2 j hj]
    unfold snd
    by_cases q : j = 22 + l
    · rw [if_neg (by omega), if_pos q, if_pos q]
    · by_cases q2 : 40 + 5 * l ≤ j ∧ j < 40 + 5 * l + 5
      · rw [if_pos q2, if_neg q, if_pos (by omega)]
      · rw [if_neg q2, if_neg q, if_neg q, if_neg (by omega)]
  · rintro K i υ hi ⟨g1, g2⟩ hK
    show B_X5_sendTo_12 K Q (nI l) (nI i) υ
    unfold B_X5_sendTo_12
    rw [nI_le' (by omega) (by omega), pk_mul, nI_add, nI_add, nI_cl (a := 40 + 5 * l + i) (by omega), nI_add]
    refine ⟨fun q => absurd q (by omega), fun _ => ⟨vpN (by omega) (by omega), fun ω e2 => ?_⟩⟩
    refine hK ω ⟨fun c hc => by rw [e2, up_ne hc]; exact g1 c hc, fun j hj => ?_⟩
    rw [e2]
    by_cases q : j = 40 + 5 * l + i
    · subst q; rw [up_s, if_pos (by omega)]
    · rw [up_k q, g2 j hj]
      by_cases q2 : 40 + 5 * l ≤ j ∧ j < 40 + 5 * l + i
      · rw [if_pos q2, if_pos (by omega)]
      · rw [if_neg q2, if_neg (show ¬ (40 + 5 * l ≤ j ∧ j < 40 + 5 * l + (i + 1)) by omega)]
  · rw [if_neg (by omega), e]
    by_cases q : j = 22 + l
    · subst q; rw [up_s, if_pos rfl]
    · rw [up_k q, if_neg q, hA j hj]
theorem M_putAside {Q : PI → Prop} (h : ∀ τ, (∀ j, j < 70 → τ 285 j = σ 280 j) → (∀ c, c ≠ 285 → τ c = σ c) → Q τ) : wp_X5_putAside σ Q := by
  unfold wp_X5_putAside w_X5_putAside_2
  refine for_h1 70 (fun i => nI i) (fun i τ => (∀ j, j < i → τ 285 j = σ 280 j) ∧ (∀ c, c ≠ 285 → τ c = σ c)) ?_ ?_ 0 _ (Nat.zero_le _) ⟨fun j hj => absurd hj (Nat.not_lt_zero j), fun _ _ => rfl⟩
  · rintro K τ ⟨g1, g2⟩
    show B_X5_putAside_2 K Q (nI 70) τ
    unfold B_X5_putAside_2
    exact ⟨fun _ => h τ g1 g2, fun q => absurd (Int32.le_refl _) q⟩
  · rintro K i τ hi ⟨g1, g2⟩ hK
    show B_X5_putAside_2 K Q (nI i) τ
    unfold B_X5_putAside_2
    rw [nI_le' (by omega) (by omega), nI_cl (a := i) (by omega), nI_add]
    refine ⟨fun q => absurd q (by omega), fun _ => ⟨vpN (by omega) (by omega), vpN (by omega) (by omega), fun υ e => hK υ ⟨fun j hj => ?_, fun c hc => by rw [e, up_ne hc]; exact g2 c hc⟩⟩⟩
    rw [e]
    by_cases q : j = i
    · subst q; rw [up_s, g2 280 (by omega)]
    · rw [up_k q]; exact g1 j (by omega)
theorem M_takeBack {Q : PI → Prop} (h : ∀ τ, (∀ j, j < 70 → τ 280 j = σ 285 j) → (∀ c, c ≠ 280 → τ c = σ c) → Q τ) : wp_X5_takeBack σ Q := by
  unfold wp_X5_takeBack w_X5_takeBack_2
  refine for_h1 70 (fun i => nI i) (fun i τ => (∀ j, j < i → τ 280 j = σ 285 j) ∧ (∀ c, c ≠ 280 → τ c = σ c)) ?_ ?_ 0 _ (Nat.zero_le _) ⟨fun j hj => absurd hj (Nat.not_lt_zero j), fun _ _ => rfl⟩
  · rintro K τ ⟨g1, g2⟩
    show B_X5_takeBack_2 K Q (nI 70) τ
    unfold B_X5_takeBack_2
    exact ⟨fun _ => h τ g1 g2, fun q => absurd (Int32.le_refl _) q⟩
  · rintro K i τ hi ⟨g1, g2⟩ hK
    show B_X5_takeBack_2 K Q (nI i) τ
    unfold B_X5_takeBack_2
    rw [nI_le' (by omega) (by omega), nI_cl (a := i) (by omega), nI_add]
    refine ⟨fun q => absurd q (by omega), fun _ => ⟨vpN (by omega) (by omega), vpN (by omega) (by omega), fun υ e => hK υ ⟨fun j hj => ?_, fun c hc => by rw [e, up_ne hc]; exact g2 c hc⟩⟩⟩
    rw [e]
    by_cases q : j = i
    · subst q; rw [up_s, g2 285 (by omega)]
    · rw [up_k q]; exact g1 j (by omega)
end MD
