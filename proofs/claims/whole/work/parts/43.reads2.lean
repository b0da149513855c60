/-! ===== more reads ===== -/
theorem Lp_s {α : Type} {F : (α → Prop) → α → Prop} {n : Nat} {a : α} (h : F (Lp F n) a) : Lp F (n + 1) a := h
section RE
variable {σ : PI} {t : Nat → Nat}
theorem eq_count {a0 : Int32} (h : Rel σ) : wp_X4_count a0 σ (fun r τ => wp_X5_count a0 τ (fun r' τ' => r = r' ∧ Rel τ')) := by
  obtain ⟨t, ht⟩ := h.2.2.2.2.2.1
  obtain ⟨b2, b3, b4⟩ := ht.b
  obtain ⟨n7, hn7, c7, d7, -⟩ := h.2.2.2.1
  obtain ⟨n6, A6, hn6, ⟨o6, -, -, c6, -⟩, ⟨d6, -⟩, -⟩ := h.2.2.2.2.2.2.1
  have hrow : ∀ r, r < 8 → (σ (rc r 0) 1 = nI 0 ∧ σ 278 r < nI 0) ∨ (¬ σ (rc r 0) 1 = nI 0 ∧ ¬ σ 278 r < nI 0) := by
    intro r hr
    rcases h.1 r hr with ⟨g1, ln, sz, g2, g3, g4, g5, g6, g7, g8⟩ | ⟨g1, g2⟩
    · right
      rw [g1, g7, nI_lt' (by omega) (by omega)]
      exact ⟨b_ne, by omega⟩
    · left
      rw [g1, g2]
      exact ⟨rfl, by decide⟩
  have mdl : ∀ (Q : Int32 → PI → Prop), ((a0 = (nI 0) → Q (nI (sm (fun r => if σ (rc r 0) 1 = nI 0 then 0 else 1) 8)) σ) ∧ (a0 = (nI 1) → Q (σ 280 2) σ) ∧ (a0 = (nI 2) → Q (σ 280 3) σ) ∧ (a0 = (nI 3) → Q (σ 280 4) σ) ∧ (a0 = (nI 4) → wp_X5_allFeel σ (fun r8 τ7 => (Q r8 τ7))) ∧ (a0 = (nI 5) → Q (σ 280 5) σ) ∧ (a0 = (nI 6) → Q (σ 276 19) σ) ∧ (a0 = (nI 7) → Q (σ 276 9) σ) ∧ ((a0 : Int32).toInt < 0 ∨ 7 < (a0 : Int32).toInt → Q (-1000001) σ)) → wp_X5_count a0 σ Q := by
    intro Q hQ
    unfold wp_X5_count w_X5_count_4
    refine for_det 8 (fun i => (a0, nI (sm (fun r => if σ (rc r 0) 1 = nI 0 then 0 else 1) i), nI i, σ)) (fun K => ?_) (fun K i hi hK => ?_) 0 (Nat.zero_le _)
    · exact ⟨fun _ => hQ, fun q => absurd (Int32.le_refl _) q⟩
    · show B_X5_count_4 K Q a0 (nI (sm _ i)) (nI i) σ
      unfold B_X5_count_4 w_X5_count_25
      rw [nI_le' (by omega) (by omega), nI_cl (a := i) (by omega)]
      replace hK : K (a0, nI (sm (fun r => if σ (rc r 0) 1 = nI 0 then 0 else 1) i + if σ (rc i 0) 1 = nI 0 then 0 else 1), nI (i + 1), σ) := hK
      refine ⟨fun q => absurd q (by omega), fun _ => ⟨vpN (by omega) (by omega), fun q x hx => ?_, fun q x hx => ?_⟩⟩
      · rcases hrow i hi with ⟨g1, g2⟩ | ⟨g1, g2⟩
        · rw [if_pos g1] at hK
          rw [hx, nI_add, nI_add]; exact hK
        · exact absurd q g2
      · rcases hrow i hi with ⟨g1, g2⟩ | ⟨g1, g2⟩
        · exact absurd g2 q
        · rw [if_neg g1] at hK
          rw [hx, nI_add, nI_add]; exact hK
  have cls : ∀ Q : Int32 → PI → Prop, Q (nI (sm (fun r => if σ (rc r 0) 1 = nI 0 then 0 else 1) 8)) σ → wp_X4_rowsThere σ Q := by
    intro Q hQ
    unfold wp_X4_rowsThere w_X4_rowsThere_4
    refine for_det 8 (fun i => (nI (sm (fun r => if σ (rc r 0) 1 = nI 0 then 0 else 1) i), nI i, σ)) (fun K => ?_) (fun K i hi hK => ?_) 0 (Nat.zero_le _)
    · exact ⟨fun _ => hQ, fun q => absurd (Int32.le_refl _) q⟩
    · show B_X4_rowsThere_4 K Q (nI (sm _ i)) (nI i) σ
      unfold B_X4_rowsThere_4 w_X4_rowsThere_25
      rw [nI_le' (by omega) (by omega), nI_cl (a := i) (by omega)]
      replace hK : K (nI (sm (fun r => if σ (rc r 0) 1 = nI 0 then 0 else 1) i + if σ (rc i 0) 1 = nI 0 then 0 else 1), nI (i + 1), σ) := hK
      refine ⟨fun q => absurd q (by omega), fun _ => ⟨vpN (by omega) (by omega), fun q => ?_, fun q => ?_⟩⟩
      · rw [if_pos q] at hK
        rw [nI_add]; exact hK
      · rw [if_neg q] at hK
        rw [nI_add, nI_add]; exact hK
  unfold wp_X4_count
  obtain ⟨x8, x9, x10, x11, x12, x13⟩ := ht.1.1
  rw [x8, x9, x12, x13, c6, c7]
  have e2 := ht.2.1 2 (by omega)
  have e3 := ht.2.1 3 (by omega)
  have e4 := ht.2.1 4 (by omega)
  have e5 := ht.2.1 5 (by omega)
  by_cases hw0 : ¬ ∃ w, w < 8 ∧ a0 = nI w
  · have hn : ∀ w, w < 8 → ¬ a0 = nI w := fun w hw e => hw0 ⟨w, hw, e⟩
    exact ⟨fun q => absurd q (hn 0 (by omega)), fun q => absurd q (hn 1 (by omega)), fun q => absurd q (hn 2 (by omega)), fun q => absurd q (hn 3 (by omega)), fun q => absurd q (hn 4 (by omega)), fun q => absurd q (hn 5 (by omega)), fun q => absurd q (hn 6 (by omega)), fun q => absurd q (hn 7 (by omega)), fun _ => mdl _ ⟨fun q => absurd q (hn 0 (by omega)), fun q => absurd q (hn 1 (by omega)), fun q => absurd q (hn 2 (by omega)), fun q => absurd q (hn 3 (by omega)), fun q => absurd q (hn 4 (by omega)), fun q => absurd q (hn 5 (by omega)), fun q => absurd q (hn 6 (by omega)), fun q => absurd q (hn 7 (by omega)), fun _ => ⟨rfl, h⟩⟩⟩
  obtain ⟨w, hw, rfl⟩ := Classical.not_not.mp hw0
  have hni : ∀ v, v < 8 → ¬ v = w → ∀ {P : Prop}, nI w = nI v → P := fun v hv hvw P e => absurd ((nI_inj (by omega) (by omega)).mp e).symm hvw
  have hin := sw_in (a := w) (n := 8) (by omega) hw
  have md2 : ∀ (x : Int32) (hx : ((nI w = (nI 0) → x = (nI (sm (fun r => if σ (rc r 0) 1 = nI 0 then 0 else 1) 8))) ∧ (nI w = (nI 1) → x = nI (t 2)) ∧ (nI w = (nI 2) → x = nI (t 3)) ∧ (nI w = (nI 3) → x = nI (t 4)) ∧ (nI w = (nI 4) → x = nI (sm (fun i => t (6 + i)) (t 2))) ∧ (nI w = (nI 5) → x = nI (t 5)) ∧ (nI w = (nI 6) → x = nI n6) ∧ (nI w = (nI 7) → x = nI n7))), wp_X5_count (nI w) σ (fun r' τ' => x = r' ∧ Rel τ') := by
    intro x hx
    obtain ⟨x0, x1, x2, x3, x4, x5, x6, x7⟩ := hx
    refine mdl _ ⟨fun q => ⟨x0 q, h⟩, fun q => ⟨(x1 q).trans e2.symm, h⟩, fun q => ⟨(x2 q).trans e3.symm, h⟩, fun q => ⟨(x3 q).trans e4.symm, h⟩, fun q => M_allFeel ht.2.1 b2 ⟨x4 q, h⟩, fun q => ⟨(x5 q).trans e5.symm, h⟩, fun q => ⟨(x6 q).trans d6.symm, h⟩, fun q => ⟨(x7 q).trans d7.symm, h⟩, fun q => absurd q hin⟩
  have no : ∀ a b : Nat, a < 8 → b < 8 → a ≠ b → ∀ {P : Prop}, nI w = nI a → nI w = nI b → P := by
    intro a b ha hb hab P e1 e2
    have := (nI_inj (by omega) (by omega)).mp (e1.symm.trans e2)
    exact absurd this hab
  refine ⟨fun q => cls _ (md2 _ ⟨fun _ => rfl, no 0 1 (by omega) (by omega) (by omega) q, no 0 2 (by omega) (by omega) (by omega) q, no 0 3 (by omega) (by omega) (by omega) q, no 0 4 (by omega) (by omega) (by omega) q, no 0 5 (by omega) (by omega) (by omega) q, no 0 6 (by omega) (by omega) (by omega) q, no 0 7 (by omega) (by omega) (by omega) q⟩), fun q => md2 _ ⟨no 1 0 (by omega) (by omega) (by omega) q, fun _ => rfl, no 1 2 (by omega) (by omega) (by omega) q, no 1 3 (by omega) (by omega) (by omega) q, no 1 4 (by omega) (by omega) (by omega) q, no 1 5 (by omega) (by omega) (by omega) q, no 1 6 (by omega) (by omega) (by omega) q, no 1 7 (by omega) (by omega) (by omega) q⟩, fun q => md2 _ ⟨no 2 0 (by omega) (by omega) (by omega) q, no 2 1 (by omega) (by omega) (by omega) q, fun _ => rfl, no 2 3 (by omega) (by omega) (by omega) q, no 2 4 (by omega) (by omega) (by omega) q, no 2 5 (by omega) (by omega) (by omega) q, no 2 6 (by omega) (by omega) (by omega) q, no 2 7 (by omega) (by omega) (by omega) q⟩, fun q => md2 _ ⟨no 3 0 (by omega) (by omega) (by omega) q, no 3 1 (by omega) (by omega) (by omega) q, no 3 2 (by omega) (by omega) (by omega) q, fun _ => rfl, no 3 4 (by omega) (by omega) (by omega) q, no 3 5 (by omega) (by omega) (by omega) q, no 3 6 (by omega) (by omega) (by omega) q, no 3 7 (by omega) (by omega) (by omega) q⟩, fun q => T_felt ht.1 b2 (md2 _ ⟨no 4 0 (by omega) (by omega) (by omega) q, no 4 1 (by omega) (by omega) (by omega) q, no 4 2 (by omega) (by omega) (by omega) q, no 4 3 (by omega) (by omega) (by omega) q, fun _ => rfl, no 4 5 (by omega) (by omega) (by omega) q, no 4 6 (by omega) (by omega) (by omega) q, no 4 7 (by omega) (by omega) (by omega) q⟩), fun q => md2 _ ⟨no 5 0 (by omega) (by omega) (by omega) q, no 5 1 (by omega) (by omega) (by omega) q, no 5 2 (by omega) (by omega) (by omega) q, no 5 3 (by omega) (by omega) (by omega) q, no 5 4 (by omega) (by omega) (by omega) q, fun _ => rfl, no 5 6 (by omega) (by omega) (by omega) q, no 5 7 (by omega) (by omega) (by omega) q⟩, fun q => md2 _ ⟨no 6 0 (by omega) (by omega) (by omega) q, no 6 1 (by omega) (by omega) (by omega) q, no 6 2 (by omega) (by omega) (by omega) q, no 6 3 (by omega) (by omega) (by omega) q, no 6 4 (by omega) (by omega) (by omega) q, no 6 5 (by omega) (by omega) (by omega) q, fun _ => rfl, no 6 7 (by omega) (by omega) (by omega) q⟩, fun q => md2 _ ⟨no 7 0 (by omega) (by omega) (by omega) q, no 7 1 (by omega) (by omega) (by omega) q, no 7 2 (by omega) (by omega) (by omega) q, no 7 3 (by omega) (by omega) (by omega) q, no 7 4 (by omega) (by omega) (by omega) q, no 7 5 (by omega) (by omega) (by omega) q, no 7 6 (by omega) (by omega) (by omega) q, fun _ => rfl⟩, fun q => absurd q hin⟩
theorem bitset {b m : Nat} : b / 2 ^ m % 2 = if b.testBit m then 1 else 0 := by
  rw [Nat.testBit_eq_decide_div_mod_eq]
  rcases (show b / 2 ^ m % 2 = 0 ∨ b / 2 ^ m % 2 = 1 by omega) with e | e <;> simp [e]
/-- is nobody barred from x on to y, of the first n -/
def tk (b x y : Nat) : Nat → Bool
  | 0 => true
  | n + 1 => tk b x y n && !(decide (x ≤ n) && decide (n ≤ y) && b.testBit n)
theorem tk_cut {b x y : Nat} : ∀ n, tk b x y n = true ↔ ∀ i, i < n → x ≤ i → i ≤ y → b.testBit i = false
  | 0 => by simp [tk]
  | n + 1 => by
    have ih := tk_cut (b := b) (x := x) (y := y) n
    simp only [tk, Bool.and_eq_true, ih, Bool.not_eq_true', Bool.and_eq_false_iff, decide_eq_false_iff_not]
    constructor
    · rintro ⟨h1, h2⟩ i hi hx hy
      by_cases e : i = n
      · subst e
        rcases h2 with (h2 | h2) | h2
        · exact absurd hx h2
        · exact absurd hy h2
        · exact h2
      · exact h1 i (by omega) hx hy
    · intro h
      refine ⟨fun i hi => h i (by omega), ?_⟩
      by_cases h1 : x ≤ n
      · by_cases h2 : n ≤ y
        · exact Or.inr (h n (by omega) h1 h2)
        · exact Or.inl (Or.inr h2)
      · exact Or.inl (Or.inl h1)
theorem M_inII {Q : Int32 → PI → Prop} {a x y : Nat} (ha : a < 2147483648) (hx : x < 2147483648) (hy : y < 2147483648) (h : Q (if x ≤ a ∧ a ≤ y then nI 1 else nI 0) σ) : wp_X5_in (nI a).toInt64 (nI x).toInt64 (nI y).toInt64 σ Q := by
  unfold wp_X5_in
  rw [lgc_lt, lgc_gt, Int64.lt_iff_toInt_lt, Int64.lt_iff_toInt_lt, w64, w64, w64, nI_toInt ha, nI_toInt hx, nI_toInt hy]
  by_cases q : x ≤ a ∧ a ≤ y
  · rw [if_pos q] at h
    exact ⟨fun z => absurd z (by omega), fun _ => ⟨fun z => absurd z (by omega), fun _ => h⟩⟩
  · rw [if_neg q] at h
    exact ⟨fun _ => h, fun z => ⟨fun _ => h, fun z2 => absurd (show x ≤ a ∧ a ≤ y by omega) q⟩⟩
theorem eq_talk {a0 a1 : Int32} (h : Rel σ) : wp_X4_talk a0 a1 σ (fun r τ => wp_X5_talk a0 a1 τ (fun r' τ' => r = r' ∧ Rel τ')) := by
  unfold wp_X4_talk
  obtain ⟨t, ht⟩ := h.2.2.2.2.2.1
  obtain ⟨b2, b3, b4⟩ := ht.b
  have m2 := ht.2.1 2 (by omega)
  by_cases hr0 : ¬ ∃ a, a < t 2 ∧ a0 = nI a
  · exact C_manF ht.1.1.1 (by omega) hr0 (z_t (M_manF m2 (by omega) hr0 (z_t ⟨rfl, h⟩)))
  obtain ⟨a, ha, rfl⟩ := Classical.not_not.mp hr0
  refine C_manT ht.1.1.1 (by omega) ha (o_t ?_)
  by_cases hs0 : ¬ ∃ a, a < t 2 ∧ a1 = nI a
  · exact C_manF ht.1.1.1 (by omega) hs0 (z_t (M_manT m2 (by omega) ha (o_t (M_manF m2 (by omega) hs0 (z_t ⟨rfl, h⟩)))))
  obtain ⟨c, hc, rfl⟩ := Classical.not_not.mp hs0
  refine C_manT ht.1.1.1 (by omega) hc (o_t ?_)
  obtain ⟨hI, hth⟩ := b4 (by omega)
  obtain ⟨i1, i2, i3, i4, i5, i6, i7, i8, i9⟩ := hI.1.b
  rw [nI_inj (by omega) (by omega)]
  refine ⟨fun q => ?_, fun q => M_manT m2 (by omega) ha (o_t (M_manT m2 (by omega) hc (o_t ⟨fun z => absurd ((nI_inj (by omega) (by omega)).mpr q) z, fun _ => ⟨rfl, h⟩⟩)))⟩
  rw [nI_min (by omega) (by omega)]
  intro x8 e8
  obtain ⟨x, ex⟩ : ∃ x, x = if c < a then c else a := ⟨_, rfl⟩
  obtain ⟨y, ey⟩ : ∃ y, y = if a < c then c else a := ⟨_, rfl⟩
  have hxy : x < y ∧ y < t 2 := by
    rw [ex, ey]
    split <;> split <;> omega
  have hmax : (if nI a < nI c then nI c else nI a) = nI y := by
    rw [ey]
    by_cases z : a < c
    · rw [if_pos ((nI_lt' (by omega) (by omega)).mpr z), if_pos z]
    · rw [if_neg (fun w => z ((nI_lt' (by omega) (by omega)).mp w)), if_neg z]
  rw [e8, ← ex]
  have key : ∀ Q : Int32 → PI → Prop, Q (if tk (t 5) x y (t 2) then nI 1 else nI 0) σ → w_X4_talk_30 Q (nI a) (nI c) (nI x) σ := by
    intro Q hQ
    unfold w_X4_talk_30
    refine for_up (α := Int32 × Int32 × Int32 × PI) (y + 1) (fun i s => x ≤ i ∧ s = (nI a, nI c, nI i, σ) ∧ ∀ j, x ≤ j → j < i → (t 5).testBit j = false) ?_ ?_ x _ (by omega) ⟨Nat.le_refl _, rfl, fun j h1 h2 => by omega⟩
    · rintro K s ⟨h1, rfl, h3⟩
      show B_X4_talk_30 K Q (nI a) (nI c) (nI (y + 1)) σ
      unfold B_X4_talk_30
      rw [hmax, nI_lt' (by omega) (by omega)]
      refine ⟨fun _ => ?_, fun z => absurd (show y < y + 1 by omega) z⟩
      rw [if_pos ((tk_cut _).mpr (fun i hi hx hy => h3 i hx (by omega)))] at hQ
      exact hQ
    · rintro K i s hi ⟨h1, rfl, h3⟩ hK
      show B_X4_talk_30 K Q (nI a) (nI c) (nI i) σ
      unfold B_X4_talk_30
      rw [hmax, nI_lt' (by omega) (by omega), ht.1.1.2.2.2.2.2]
      refine ⟨fun z => absurd z (by omega), fun _ => C_bit i9 (by omega) ?_⟩
      rw [bitset]
      cases hbt : (t 5).testBit i
      · refine ⟨fun _ => ?_, fun z => absurd z.symm b_ne⟩
        rw [nI_add]
        exact hK _ ⟨by omega, rfl, fun j hj1 hj2 => by
          by_cases e : j = i
          · subst e; exact hbt
          · exact h3 j hj1 (by omega)⟩
      · refine ⟨fun z => absurd rfl z, fun _ => ?_⟩
        rw [if_neg (fun z => by
          have := (tk_cut _).mp z i (by omega) h1 (by omega)
          rw [hbt] at this; cases this)] at hQ
        exact hQ
  refine key _ (M_manT m2 (by omega) ha (o_t (M_manT m2 (by omega) hc (o_t ⟨fun _ => ?_, fun z => absurd ((nI_inj (by omega) (by omega)).mp z) q⟩))))
  unfold w_X5_talk_29
  refine for_det (t 2) (fun i => (nI a, nI c, (if tk (t 5) x y i then nI 1 else nI 0), nI i, σ)) (fun K => ?_) (fun K i hi hK => ?_) 0 (Nat.zero_le _)
  · show B_X5_talk_29 K _ (nI a) (nI c) (if tk (t 5) x y (t 2) then nI 1 else nI 0) (nI (t 2)) σ
    unfold B_X5_talk_29
    rw [m2]
    exact ⟨fun _ => ⟨rfl, h⟩, fun z => absurd (Int32.le_refl _) z⟩
  · show B_X5_talk_29 K _ (nI a) (nI c) (if tk (t 5) x y i then nI 1 else nI 0) (nI i) σ
    unfold B_X5_talk_29 w_X5_talk_66 w_X5_talk_71 w_X5_talk_96 w_X5_talk_97
    rw [m2, nI_le' (by omega) (by omega), nI_add]
    replace hK : K (nI a, nI c, (if tk (t 5) x y i && !(decide (x ≤ i) && decide (i ≤ y) && (t 5).testBit i) then nI 1 else nI 0), nI (i + 1), σ) := hK
    have inn : (x ≤ i ∧ i ≤ y) ↔ (a ≤ i ∧ i ≤ c) ∨ (c ≤ i ∧ i ≤ a) := by
      rw [ex, ey]
      split <;> split <;> omega
    have one : (x ≤ i ∧ i ≤ y) → (nI 1 = nI 0 → K (nI a, nI c, (if tk (t 5) x y i then nI 1 else nI 0), nI (i + 1), σ)) ∧ (¬ nI 1 = nI 0 → wp_X5_has (σ 280 5) (nI i) σ (fun r17 τ16 => (r17 = nI 0 → K (nI a, nI c, (if tk (t 5) x y i then nI 1 else nI 0), nI (i + 1), τ16)) ∧ (¬ r17 = nI 0 → K (nI a, nI c, nI 0, nI (i + 1), τ16)))) := by
      rintro ⟨hx, hy⟩
      refine o_t ?_
      rw [ht.2.1 5 (by omega)]
      refine M_bit i9 (by omega) ?_
      rw [bitset]
      cases hbt : (t 5).testBit i
      · refine z_t ?_
        simpa [hx, hy, hbt] using hK
      · refine o_t ?_
        simpa [hx, hy, hbt] using hK
    refine ⟨fun z => absurd z (by omega), fun _ => M_inII (by omega) (by omega) (by omega) ?_⟩
    by_cases q1 : a ≤ i ∧ i ≤ c
    · rw [if_pos q1]
      exact o_t' (one (inn.mpr (Or.inl q1)))
    · rw [if_neg q1]
      refine z_t' (M_inII (by omega) (by omega) (by omega) ?_)
      by_cases q2 : c ≤ i ∧ i ≤ a
      · rw [if_pos q2]
        exact o_t (one (inn.mpr (Or.inr q2)))
      · rw [if_neg q2]
        refine z_t (z_t ?_)
        have nn : ¬ (x ≤ i ∧ i ≤ y) := fun z => (inn.mp z).elim q1 q2
        have : (decide (x ≤ i) && decide (i ≤ y) && (t 5).testBit i) = false := by
          by_cases w : x ≤ i
          · simp [show ¬ i ≤ y from fun w2 => nn ⟨w, w2⟩]
          · simp [w]
        simpa [this] using hK
/-! ===== greets, alone ===== -/
def fre (t : Nat → Nat) (m : Nat) : Bool := !(t 5).testBit m && decide (aw t nob m (t 3) = 0)
theorem C_free {Q : Int32 → PI → Prop} {m : Nat} (ht : RTn σ t) (hI : Iv 999 t) (hm : m < t 2) (h : Q (if fre t m then nI 1 else nI 0) σ) : wp_X4_isFree (nI m) σ Q := by
  obtain ⟨i1, i2, i3, i4, i5, i6, i7, i8, i9⟩ := hI.1.b
  unfold wp_X4_isFree
  rw [ht.1.1.2.2.2.2.2]
  have haw : aw t nob m (t 3) < 2 ^ 6 := bm_le _ i4
  refine C_bit i9 (by omega) ?_
  rw [bitset]
  unfold fre at h
  cases hbt : (t 5).testBit m
  · rw [hbt] at h
    refine z_t' (T_awayFrom ht.1 hI ht.hc (by omega) ?_)
    rw [nI_inj (by omega) (by omega)]
    by_cases q : aw t nob m (t 3) = 0
    · simp only [q, decide_true, Bool.not_false, Bool.and_true, if_true] at h
      exact ⟨fun z => absurd q z, fun _ => h⟩
    · simp only [q, decide_false, Bool.and_false, Bool.false_eq_true, if_false] at h
      exact ⟨fun _ => h, fun z => absurd z q⟩
  · rw [hbt] at h
    exact o_t' h
theorem M_free {Q : Int32 → PI → Prop} {m : Nat} (ht : RTn σ t) (hI : Iv 999 t) (hm : m < t 2) (h : Q (if fre t m then nI 1 else nI 0) σ) : wp_X5_isFree (nI m) σ Q := by
  obtain ⟨i1, i2, i3, i4, i5, i6, i7, i8, i9⟩ := hI.1.b
  unfold wp_X5_isFree
  rw [ht.2.1 5 (by omega)]
  have haw : aw t nob m (t 3) < 2 ^ 6 := bm_le _ i4
  refine M_bit i9 (by omega) ?_
  rw [bitset]
  unfold fre at h
  cases hbt : (t 5).testBit m
  · rw [hbt] at h
    refine z_t' (M_awayFrom ht.2.1.h hI (fun l hl => ht.2.1.l (by omega)) ht.hm (by omega) ?_)
    rw [nI_inj (by omega) (by omega)]
    by_cases q : aw t nob m (t 3) = 0
    · simp only [q, decide_true, Bool.not_false, Bool.and_true, if_true] at h
      exact ⟨fun z => absurd q z, fun _ => h⟩
    · simp only [q, decide_false, Bool.and_false, Bool.false_eq_true, if_false] at h
      exact ⟨fun _ => h, fun z => absurd z q⟩
  · rw [hbt] at h
    exact o_t' h
/-- pairs from m on below n: how many, and the first -/
def gp (t : Nat → Nat) (m : Nat) : Bool := fre t m && fre t (m + 1)
def gn (t : Nat → Nat) (m : Nat) : Nat → Nat
  | 0 => 0
  | d + 1 => gn t (m + 1) d + if gp t m then 1 else 0
def gf (t : Nat → Nat) (m : Nat) : Nat → Int32
  | 0 => -1000000
  | d + 1 => if gp t m then nI (11 * m + 1) else gf t (m + 1) d
theorem gn_le (t : Nat → Nat) : ∀ d m, gn t m d ≤ d
  | 0, m => by simp [gn]
  | d + 1, m => by
    have := gn_le t d (m + 1)
    simp only [gn]
    split <;> omega
theorem eq_greets {a0 : Int32} (h : Rel σ) : wp_X4_greets a0 σ (fun r τ => wp_X5_greets a0 τ (fun r' τ' => r = r' ∧ Rel τ')) := by
  unfold wp_X4_greets
  obtain ⟨t, ht⟩ := h.2.2.2.2.2.1
  refine C_town ht (fun hI hth => o_t' ?_) (fun h2 h0 => z_t' ⟨fun q => absurd h0 q, fun _ => ⟨rfl, h⟩⟩)
  obtain ⟨i1, i2, i3, i4, i5, i6, i7, i8, i9⟩ := hI.1.b
  have nth : ¬ σ 276 4 = nI 0 := by rw [hth]; exact b_ne
  by_cases hr0 : ¬ ∃ a, a < 2 ∧ a0 = nI a
  · exact C_bitF hr0 (z_t' ⟨fun _ => M_whF hr0 (z_t' ⟨rfl, h⟩), fun q => absurd q nth⟩)
  obtain ⟨a, ha, rfl⟩ := Classical.not_not.mp hr0
  refine C_bitT ha (o_t' ?_)
  have key : ∀ Q : Int32 → PI → Prop, Q (if a = 0 then nI (gn t 0 (t 2 - 1)) else gf t 0 (t 2 - 1)) σ → w_X4_greets_28 Q (nI a) (nI 0) (-1000000) (nI 0) σ := by
    intro Q hQ
    unfold w_X4_greets_28
    refine for_up (α := Int32 × Int32 × Int32 × Int32 × PI) (t 2 - 1) (fun i s => ∃ n x, s = (nI a, nI n, x, nI i, σ) ∧ n ≤ i ∧ (x = -1000000 ∨ ∃ m, m < 5 ∧ x = nI (11 * m + 1)) ∧ gn t 0 (t 2 - 1) = n + gn t i (t 2 - 1 - i) ∧ gf t 0 (t 2 - 1) = if x = -1000000 then gf t i (t 2 - 1 - i) else x) ?_ ?_ 0 _ (Nat.zero_le _) ⟨0, -1000000, rfl, Nat.le_refl _, Or.inl rfl, by simp, by simp⟩
    · rintro K s ⟨n, x, rfl, hn, hx, e1, e2⟩
      show B_X4_greets_28 K Q (nI a) (nI n) x (nI (t 2 - 1)) σ
      unfold B_X4_greets_28
      rw [nI_add, ht.1.1.1, nI_le' (by omega) (by omega), nI_inj (by omega) (by omega)]
      rw [Nat.sub_self] at e1 e2
      refine ⟨fun _ => ⟨fun q => ?_, fun q => ?_⟩, fun q => absurd (show t 2 ≤ t 2 - 1 + 1 by omega) q⟩
      · rw [if_neg q, e2] at hQ
        by_cases qx : x = -1000000
        · rw [if_pos qx] at hQ; rw [qx]; exact hQ
        · rw [if_neg qx] at hQ; exact hQ
      · rw [if_pos q, e1] at hQ; exact hQ
    · rintro K i s hi ⟨n, x, rfl, hn, hx, e1, e2⟩ hK
      show B_X4_greets_28 K Q (nI a) (nI n) x (nI i) σ
      unfold B_X4_greets_28 w_X4_greets_82
      rw [nI_add i 1, ht.1.1.1, nI_le' (by omega) (by omega), pk_mul, nI_add, nI_add, nI_add]
      rw [show t 2 - 1 - i = (t 2 - 1 - (i + 1)) + 1 by omega] at e1 e2
      have no : gp t i = false → K (nI a, nI n, x, nI (i + 1), σ) := fun hg => hK _ ⟨n, x, rfl, by omega, hx, by rw [e1]; simp [gn, hg], by rw [e2]; simp [gf, hg]⟩
      refine ⟨fun q => absurd q (by omega), fun _ => C_free ht hI (by omega) ?_⟩
      cases f1 : fre t i
      · exact z_t (no (by simp [gp, f1]))
      · refine o_t (C_free ht hI (by omega) ?_)
        cases f2 : fre t (i + 1)
        · exact z_t (no (by simp [gp, f2]))
        · have hg : gp t i = true := by simp [gp, f1, f2]
          refine o_t ⟨fun q => ?_, fun q y hy => ?_⟩
          · refine hK _ ⟨n + 1, x, rfl, by omega, hx, by rw [e1]; simp [gn, hg]; omega, ?_⟩
            rw [e2, if_neg q, if_neg q]
          · refine hK _ ⟨n + 1, y, rfl, by omega, Or.inr ⟨i, by omega, ?_⟩, by rw [e1]; simp [gn, hg]; omega, ?_⟩
            · rw [hy]; congr 1; omega
            · have : ¬ y = -1000000 := by
                rw [hy]
                intro z
                have := congrArg Int32.toInt z
                rw [nI_toInt (by omega)] at this
                have e : (-1000000 : Int32).toInt = -1000000 := by decide
                omega
              rw [e2, if_pos q, if_neg this, hy]
              simp only [gf, hg, if_true]
              congr 1; omega
  refine key _ ⟨fun _ => M_whT ha (o_t' ?_), fun q => absurd q nth⟩
  intro x5 e5
  rw [ht.2.1 2 (by omega)] at e5
  unfold w_X5_greets_35
  -- from the last pair down: d pairs are left
  have down : ∀ d, d ≤ t 2 - 1 → ∀ z : Int32, z.toInt = (d : Int) - 1 → ∃ m, Lp (fun K s => B_X5_greets_35 K (fun r' τ' => (if a = 0 then nI (gn t 0 (t 2 - 1)) else gf t 0 (t 2 - 1)) = r' ∧ Rel τ') s.1 s.2.1 s.2.2.1 s.2.2.2.1 s.2.2.2.2) m (nI a, nI (gn t d (t 2 - 1 - d)), gf t d (t 2 - 1 - d), z, σ) := by
    intro d
    induction d with
    | zero =>
      intro hd z hz
      refine ⟨1, Lp_s ?_⟩
      show B_X5_greets_35 _ _ (nI a) (nI (gn t 0 (t 2 - 1 - 0))) (gf t 0 (t 2 - 1 - 0)) z σ
      unfold B_X5_greets_35
      rw [Int32.lt_iff_toInt_lt, hz, nI_toInt (by omega), nI_inj (by omega) (by omega), Nat.sub_zero]
      refine ⟨fun _ => ⟨fun q => ⟨by rw [if_neg q], h⟩, fun q => ⟨by rw [if_pos q], h⟩⟩, fun q => absurd (by omega) q⟩
    | succ d ih =>
      intro hd z hz
      have ez : z = nI d := by
        apply Int32.toInt_inj.mp
        rw [nI_toInt (by omega)]
        omega
      subst ez
      obtain ⟨m, hm⟩ := ih (by omega) (nI d + (-1)) (by
        rw [show nI d + (-1 : Int32) = nI d - nI 1 from (Int32.sub_eq_add_neg _ _).symm, nI_m1 (by omega)])
      rw [show t 2 - 1 - d = (t 2 - 1 - (d + 1)) + 1 by omega] at hm
      have hgn := gn_le t (t 2 - 1 - (d + 1)) (d + 1)
      have step : ∀ (K : Int32 × Int32 × Int32 × Int32 × PI → Prop) (Q : Int32 → PI → Prop), K (nI a, nI (gn t d (t 2 - 1 - (d + 1) + 1)), gf t d (t 2 - 1 - (d + 1) + 1), nI d + (-1), σ) → B_X5_greets_35 K Q (nI a) (nI (gn t (d + 1) (t 2 - 1 - (d + 1)))) (gf t (d + 1) (t 2 - 1 - (d + 1))) (nI d) σ := by
        intro K Q hm
        unfold B_X5_greets_35 w_X5_greets_71
        rw [nI_lt' (by omega) (by omega), nI_add d 1, pk_mul, nI_add, nI_add]
        refine ⟨fun q => absurd q (by omega), fun _ => M_free ht hI (by omega) ?_⟩
        cases f1 : fre t d
        · refine z_t ?_
          have hg : gp t d = false := by simp [gp, f1]
          simpa [gn, gf, hg] using hm
        · refine o_t (M_free ht hI (by omega) ?_)
          cases f2 : fre t (d + 1)
          · refine z_t ?_
            have hg : gp t d = false := by simp [gp, f2]
            simpa [gn, gf, hg] using hm
          · refine o_t (fun x hx => ?_)
            have hg : gp t d = true := by simp [gp, f1, f2]
            rw [hx]
            simpa [gn, gf, hg] using hm
      exact ⟨m + 1, Lp_s (step _ _ hm)⟩
  have hb := down (t 2 - 1) (Nat.le_refl _) x5 (by
    rw [e5, pk_sub_toInt (by omega) (by omega)]; omega)
  rw [Nat.sub_self] at hb
  exact hb
theorem eq_alone (h : Rel σ) : wp_X4_alone σ (fun r τ => wp_X5_alone τ (fun r' τ' => r = r' ∧ Rel τ')) := by
  unfold wp_X4_alone
  obtain ⟨t, ht⟩ := h.2.2.2.2.2.1
  refine C_town ht (fun hI hth => o_t' ?_) (fun h2 h0 => z_t' ⟨fun q => absurd h0 q, fun _ => ⟨rfl, h⟩⟩)
  obtain ⟨i1, i2, i3, i4, i5, i6, i7, i8, i9⟩ := hI.1.b
  have nth : ¬ σ 276 4 = nI 0 := by rw [hth]; exact b_ne
  -- the most of the first n (n > 0), and who
  obtain ⟨mx, hmx⟩ : ∃ mx : Nat → Nat, mx = fun n => Nat.rec 0 (fun i r => if r < t (6 + i) then t (6 + i) else r) n := ⟨_, rfl⟩
  have mx0 : mx 0 = 0 := by rw [hmx]; rfl
  have mxs : ∀ i, mx (i + 1) = if mx i < t (6 + i) then t (6 + i) else mx i := by intro i; rw [hmx]
  have mxle : ∀ i, i ≤ t 2 → mx i ≤ 99 := by
    intro i
    induction i with
    | zero => intro _; rw [mx0]; omega
    | succ i ih =>
      intro hi
      have := ih (by omega)
      have hf := (hI.2.1 i (by omega)).1
      rw [mxs]; split <;> omega
  obtain ⟨P, hP⟩ : ∃ P : Nat → Nat → Bool, P = fun n i => decide (t (6 + i) = mx n) := ⟨_, rfl⟩
  have mxge : ∀ n i, i < n → t (6 + i) ≤ mx n := by
    intro n
    induction n with
    | zero => intro i hi; omega
    | succ n ih =>
      intro i hi
      rw [mxs]
      by_cases e : i = n
      · subst e; split <;> omega
      · have := ih i (by omega)
        split <;> omega
  have stp : ∀ n, mx n < t (6 + n) → bm (P (n + 1)) (n + 1) = 2 ^ n := by
    intro n hn
    have e : mx (n + 1) = t (6 + n) := by rw [mxs, if_pos hn]
    have z : bm (P (n + 1)) n = 0 := (bm_zero _ _).mpr (fun l hl => by
      have := mxge n l hl
      rw [hP]
      simp only [decide_eq_false_iff_not, e]
      omega)
    rw [bm, z, hP]
    simp [e]
  have sts : ∀ n, ¬ mx n < t (6 + n) → bm (P (n + 1)) (n + 1) = bm (P n) n + if t (6 + n) = mx n then 2 ^ n else 0 := by
    intro n hn
    have e : mx (n + 1) = mx n := by rw [mxs, if_neg hn]
    rw [bm, hP]
    simp only [e, decide_eq_true_eq]
  have key : ∀ Q : Int32 → PI → Prop, Q (nI (bm (P (t 2)) (t 2))) σ → w_X4_alone_16 Q (nI 0) (nI 0) (nI 0) σ := by
    intro Q hQ
    unfold w_X4_alone_16
    refine for_up (α := Int32 × Int32 × Int32 × PI) (t 2) (fun i s => s = (nI (mx i), nI (bm (P i) i), nI i, σ)) ?_ ?_ 0 _ (Nat.zero_le _) (by rw [mx0]; rfl)
    · rintro K s rfl
      show B_X4_alone_16 K Q (nI (mx (t 2))) (nI (bm (P (t 2)) (t 2))) (nI (t 2)) σ
      unfold B_X4_alone_16
      rw [ht.1.1.1]
      exact ⟨fun _ => hQ, fun q => absurd (Int32.le_refl _) q⟩
    · rintro K i s hi rfl hK
      show B_X4_alone_16 K Q (nI (mx i)) (nI (bm (P i) i)) (nI i) σ
      unfold B_X4_alone_16 w_X4_alone_52 w_X4_alone_71
      have hf := (hI.2.1 i hi).1
      have hm := mxle i (by omega)
      have hlt := bm_lt (P i) i
      have hv : vp_in (nI i) 5 := vpN (by omega) (by omega)
      rw [ht.1.1.1, nI_le' (by omega) (by omega), nI_cl (a := i) (by omega), (ht.1.2.1 i hi).1, nI_le' (by omega) (by omega), nI_shl (by omega), nI_add]
      refine ⟨fun q => absurd q (by omega), fun _ => ⟨hv, fun q => ⟨hv, fun q2 => ?_, fun q2 x hx => ?_⟩, fun q => ⟨hv, fun x hx => ⟨hv, fun q2 => absurd hx.symm q2, fun _ y hy => ?_⟩⟩⟩⟩
      · rw [nI_inj (by omega) (by omega)] at q2
        refine hK _ ?_
        rw [sts i (by omega), if_neg q2, mxs, if_neg (by omega)]
        rfl
      · rw [nI_inj (by omega) (by omega)] at q2
        refine hK _ ?_
        rw [hx, nI_or hlt, sts i (by omega), if_pos q2, mxs, if_neg (by omega)]
      · refine hK _ ?_
        have h0 : nI 0 ||| nI (2 ^ i) = nI (2 ^ i) := Int32.zero_or
        rw [hy, hx, h0, stp i (by omega), mxs, if_pos (by omega)]
  refine key _ ⟨fun _ => ?_, fun q => absurd q nth⟩
  unfold w_X5_alone_16
  refine for_up (α := Int32 × Int32 × Int32 × PI) (t 2) (fun i s => s = (nI (bm (P i) i), (if i = 0 then -1 else nI (mx i)), nI i, σ)) ?_ ?_ 0 _ (Nat.zero_le _) rfl
  · rintro K s rfl
    show B_X5_alone_16 K _ (nI (bm (P (t 2)) (t 2))) (if t 2 = 0 then -1 else nI (mx (t 2))) (nI (t 2)) σ
    unfold B_X5_alone_16
    rw [ht.2.1 2 (by omega)]
    exact ⟨fun _ => ⟨rfl, h⟩, fun q => absurd (Int32.le_refl _) q⟩
  · rintro K i s hi rfl hK
    show B_X5_alone_16 K _ (nI (bm (P i) i)) (if i = 0 then -1 else nI (mx i)) (nI i) σ
    unfold B_X5_alone_16 w_X5_alone_64 w_X5_alone_77
    have hf := (hI.2.1 i hi).1
    have hm := mxle i (by omega)
    have hlt := bm_lt (P i) i
    rw [ht.2.1 2 (by omega), nI_le' (by omega) (by omega), nI_add 6 i, nI_cl (a := 6 + i) (by omega), ht.2.1 _ (by omega), nI_shl (by omega), nI_or hlt, nI_add i 1]
    refine ⟨fun q => absurd q (by omega), fun _ => ⟨vpN (by omega) (by omega), fun x hx => ?_⟩⟩
    have hs : ∀ z y : Int32, z = nI (bm (P (i + 1)) (i + 1)) → y = nI (mx (i + 1)) → K (z, y, nI (i + 1), σ) := by
      intro z y e1 e2
      refine hK _ ?_
      rw [e1, e2, if_neg (by omega)]
    subst hx
    by_cases h0 : i = 0
    · subst h0
      rw [if_pos rfl]
      have n1 : ¬ nI (t (6 + 0)) ≤ -1 := by
        rw [Int32.le_iff_toInt_le, nI_toInt (by omega)]
        have e : (-1 : Int32).toInt = -1 := by decide
        omega
      have b1 : bm (P 1) 1 = 1 := by
        by_cases q : mx 0 < t (6 + 0)
        · exact stp 0 q
        · rw [sts 0 q, mx0] at *
          rw [if_pos (by omega)]; rfl
      have m1 : mx 1 = t (6 + 0) := by
        rw [mxs, mx0]; split <;> omega
      refine ⟨fun q => absurd q n1, fun _ => ⟨fun q => absurd q n1, fun _ => hs _ _ (by rw [b1]) (by rw [m1])⟩⟩
    · rw [if_neg h0, nI_le' (by omega) (by omega), nI_inj (by omega) (by omega)]
      refine ⟨fun q => ⟨fun q2 => ⟨fun _ => hs _ _ ?_ ?_, fun z => absurd q z⟩, fun q2 => ⟨fun _ => hs _ _ ?_ ?_, fun z => absurd q z⟩⟩, fun q => ⟨fun z => absurd z q, fun _ => hs _ _ ?_ ?_⟩⟩
      · rw [sts i (by omega), if_neg q2]; rfl
      · rw [mxs, if_neg (by omega)]
      · rw [sts i (by omega), if_pos q2]
      · rw [mxs, if_neg (by omega)]
      · rw [stp i (by omega)]
      · rw [mxs, if_pos (by omega)]
end RE
