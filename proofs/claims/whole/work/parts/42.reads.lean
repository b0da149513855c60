/-! ===== reads ===== -/
def nob : Nat → Bool := fun _ => false
section RD
variable {σ : PI} {t : Nat → Nat}
theorem RTn.b (h : RTn σ t) : t 2 ≤ 5 ∧ t 3 ≤ 6 ∧ (1 ≤ t 2 ∨ 1 ≤ t 3 → Iv 999 t ∧ σ 276 4 = nI 1) := by
  rcases h.2.2.2.2 with ⟨h1, h2⟩ | ⟨h1, h2⟩
  · obtain ⟨i1, i2, i3, i4, i5, i6, i7, i8, i9⟩ := h2.1.b
    exact ⟨i2, i4, fun _ => ⟨h2, h1⟩⟩
  · have a := h2 2 (by omega)
    have b := h2 3 (by omega)
    exact ⟨by omega, by omega, fun q => by omega⟩
theorem RTn.hc (h : RTn σ t) : HB (σ (tc 0 0) 14) nob := by rw [h.2.2.1]; exact HB_0
theorem RTn.hm (h : RTn σ t) : HB (σ 276 6) nob := by rw [h.2.2.2.1]; exact HB_0
theorem C_town {Q : Int32 → PI → Prop} (h : RTn σ t) (h1 : Iv 999 t → σ 276 4 = nI 1 → Q (nI 1) σ) (h0 : t 2 = 0 → σ 276 4 = nI 0 → Q (nI 0) σ) : wp_X4_hasTown σ Q := by
  unfold wp_X4_hasTown
  rw [h.1.1.1]
  rcases h.2.2.2.2 with ⟨g1, g2⟩ | ⟨g1, g2⟩
  · obtain ⟨i1, i2, i3, i4, i5, i6, i7, i8, i9⟩ := g2.1.b
    rw [nI_le' (by omega) (by omega)]
    exact ⟨fun q => absurd q (by omega), fun _ => h1 g2 g1⟩
  · have a := g2 2 (by omega)
    rw [a]
    exact ⟨fun _ => h0 a g1, fun q => absurd (Int32.le_refl _) q⟩
theorem eq_trace {a0 : Int32} (h : Rel σ) : wp_X4_trace a0 σ (fun r τ => wp_X5_trace a0 τ (fun r' τ' => r = r' ∧ Rel τ')) := by
  unfold wp_X4_trace wp_X5_trace
  obtain ⟨n, hn, e1, e2, e3⟩ := h.2.2.2.2.1
  rw [e1]
  by_cases hr0 : ¬ ∃ a, a < n ∧ a0 = nI a
  · refine C_nf (by omega) hr0 (z_t ?_)
    dsimp only
    rw [e2]
    exact M_nf (by omega) hr0 (z_t ⟨rfl, h⟩)
  obtain ⟨a, ha, rfl⟩ := Classical.not_not.mp hr0
  refine C_nt ha (by omega) (o_t ⟨vpN (by omega) (by omega), ?_⟩)
  dsimp only
  rw [e2]
  refine M_nt ha (by omega) (o_t ⟨vpN (by omega) (by omega), ?_, h⟩)
  rw [nI_cl (a := a) (by omega)]
  exact e3 a ha
theorem eq_kind {a0 : Int32} (h : Rel σ) : wp_X4_kind a0 σ (fun r τ => wp_X5_kind a0 τ (fun r' τ' => r = r' ∧ Rel τ')) := by
  unfold wp_X4_kind wp_X5_kind
  obtain ⟨t, ht⟩ := h.2.2.2.2.2.1
  obtain ⟨b2, b3, b4⟩ := ht.b
  have m3 := ht.2.1 3 (by omega)
  by_cases hr0 : ¬ ∃ a, a < t 3 ∧ a0 = nI a
  · exact C_lvF ht.1.1.2.1 (by omega) hr0 (z_t (M_lvF m3 (by omega) hr0 (z_t ⟨rfl, h⟩)))
  obtain ⟨a, ha, rfl⟩ := Classical.not_not.mp hr0
  refine C_lvT ht.1.1.2.1 (by omega) ha (o_t ⟨vpN (by omega) (by omega), M_lvT m3 (by omega) ha (o_t ?_)⟩)
  rw [nI_add, nI_cl (a := 16 + a) (by omega), nI_cl (a := a) (by omega), (ht.1.2.2 a ha).1, ht.2.1 _ (by omega)]
  exact ⟨vpN (by omega) (by omega), rfl, h⟩
/-- the cases of a switch from 0 on -/
theorem sw_out {x : Int32} {n : Nat} (hn : n < 2147483648) (h : ¬ ∃ a, a < n ∧ x = nI a) : x.toInt < 0 ∨ (n : Int) - 1 < x.toInt := by
  by_cases q : x.toInt < 0
  · exact Or.inl q
  · right
    by_cases q2 : x.toInt < n
    · exfalso
      apply h
      refine ⟨x.toInt.toNat, by omega, ?_⟩
      apply Int32.toInt_inj.mp
      rw [nI_toInt (by omega)]
      omega
    · omega
theorem sw_in {a n : Nat} (hn : n < 2147483648) (h : a < n) : ¬ ((nI a).toInt < 0 ∨ (n : Int) - 1 < (nI a).toInt) := by
  rw [nI_toInt (by omega)]
  omega
theorem M_bit {b m : Nat} {Q : Int32 → PI → Prop} (hb : b < 32) (hm : m < 5) (h : Q (nI (b / 2 ^ m % 2)) σ) : wp_X5_has (nI b) (nI m) σ Q := by
  unfold wp_X5_has
  rw [nI_bit (by omega) (by omega), show (nI 1 : Int32) = nI 1 from rfl, nI_inj (by omega) (by omega)]
  rcases (show b / 2 ^ m % 2 = 0 ∨ b / 2 ^ m % 2 = 1 by omega) with e | e
  · rw [e] at h ⊢
    exact ⟨fun _ => h, fun q => absurd q (by omega)⟩
  · rw [e] at h ⊢
    exact ⟨fun q => absurd rfl q, fun _ => h⟩
theorem C_bit {b m : Nat} {Q : Int32 → PI → Prop} (hb : b < 32) (hm : m < 5) (h : Q (nI (b / 2 ^ m % 2)) σ) : wp_X4_bit (nI b) (nI m) σ Q := by
  unfold wp_X4_bit
  rw [nI_bit (by omega) (by omega)]
  exact h
theorem eq_man {a0 a1 : Int32} (h : Rel σ) : wp_X4_man a0 a1 σ (fun r τ => wp_X5_man a0 a1 τ (fun r' τ' => r = r' ∧ Rel τ')) := by
  unfold wp_X4_man
  obtain ⟨t, ht⟩ := h.2.2.2.2.2.1
  obtain ⟨b2, b3, b4⟩ := ht.b
  have m2 := ht.2.1 2 (by omega)
  by_cases hr0 : ¬ ∃ a, a < t 2 ∧ a0 = nI a
  · exact C_manF ht.1.1.1 (by omega) hr0 (z_t' (M_manF m2 (by omega) hr0 (z_t' ⟨rfl, h⟩)))
  obtain ⟨a, ha, rfl⟩ := Classical.not_not.mp hr0
  obtain ⟨hI, hth⟩ := b4 (by omega)
  obtain ⟨i1, i2, i3, i4, i5, i6, i7, i8, i9⟩ := hI.1.b
  refine C_manT ht.1.1.1 (by omega) ha (o_t' ?_)
  have hv5 : vp_in (nI a) 5 := vpN (by omega) (by omega)
  have fin : ∀ (x : Int32), (∀ Q : Int32 → PI → Prop, Q x σ → ((a1 = (nI 0) → vp_in ((nI 6) + nI a) 70 ∧ (Q (σ 280 (((nI 6) + nI a) : Int32).toNatClampNeg) σ)) ∧ (a1 = (nI 1) → vp_in ((nI 11) + nI a) 70 ∧ (Q (σ 280 (((nI 11) + nI a) : Int32).toNatClampNeg) σ)) ∧ (a1 = (nI 2) → wp_X5_has (σ 280 5) (nI a) σ (fun r10 τ9 => ((r10 = (nI 0) → Q (nI 0) τ9) ∧ (¬ r10 = (nI 0) → Q (nI 1) τ9)))) ∧ (a1 = (nI 3) → wp_X5_awayFrom (nI a) σ (fun r14 τ13 => (Q r14 τ13))) ∧ (a1 = (nI 4) → wp_X5_madeAt (nI a) σ (fun r17 τ16 => (Q r17 τ16))) ∧ ((a1 : Int32).toInt < 0 ∨ 4 < (a1 : Int32).toInt → Q (-1000001) σ))) → wp_X5_man (nI a) a1 σ (fun r' τ' => x = r' ∧ Rel τ') := by
    intro x hx
    exact M_manT m2 (by omega) ha (o_t' (hx (fun r' τ' => x = r' ∧ Rel τ') ⟨rfl, h⟩))
  by_cases hw0 : ¬ ∃ w, w < 5 ∧ a1 = nI w
  · have hn : ∀ w, w < 5 → ¬ a1 = nI w := fun w hw e => hw0 ⟨w, hw, e⟩
    have ho := sw_out (n := 5) (by omega) hw0
    exact ⟨fun q => absurd q (hn 0 (by omega)), fun q => absurd q (hn 1 (by omega)), fun q => absurd q (hn 2 (by omega)), fun q => absurd q (hn 3 (by omega)), fun q => absurd q (hn 4 (by omega)), fun _ => fin _ (fun Q hQ => ⟨fun q => absurd q (hn 0 (by omega)), fun q => absurd q (hn 1 (by omega)), fun q => absurd q (hn 2 (by omega)), fun q => absurd q (hn 3 (by omega)), fun q => absurd q (hn 4 (by omega)), fun _ => hQ⟩)⟩
  obtain ⟨w, hw, rfl⟩ := Classical.not_not.mp hw0
  have hni : ∀ v, v < 5 → v ≠ w → ¬ nI w = nI v := fun v hv hvw e => hvw ((nI_inj (by omega) (by omega)).mp e).symm
  have hin := sw_in (a := w) (n := 5) (by omega) hw
  have c6 : (nI 6 + nI a).toNatClampNeg = 6 + a := by rw [nI_add, nI_cl (by omega)]
  have c11 : (nI 11 + nI a).toNatClampNeg = 11 + a := by rw [nI_add, nI_cl (by omega)]
  have v6 : vp_in (nI 6 + nI a) 70 := by rw [nI_add]; exact vpN (by omega) (by omega)
  have v11 : vp_in (nI 11 + nI a) 70 := by rw [nI_add]; exact vpN (by omega) (by omega)
  have e6 : σ 280 (6 + a) = σ (tc 0 1) a := by rw [ht.2.1 _ (by omega), (ht.1.2.1 a ha).1]
  have e11 : σ 280 (11 + a) = σ (tc 0 2) a := by rw [ht.2.1 _ (by omega), (ht.1.2.1 a ha).2]
  rw [nI_cl (a := a) (by omega), ht.1.1.2.2.2.2.2]
  rcases (show w = 0 ∨ w = 1 ∨ w = 2 ∨ w = 3 ∨ w = 4 by omega) with rfl | rfl | rfl | rfl | rfl
  · exact ⟨fun _ => ⟨hv5, fin _ (fun Q hQ => ⟨fun _ => ⟨v6, by rw [c6, e6]; exact hQ⟩, fun q => absurd q (hni 1 (by omega) (by omega)), fun q => absurd q (hni 2 (by omega) (by omega)), fun q => absurd q (hni 3 (by omega) (by omega)), fun q => absurd q (hni 4 (by omega) (by omega)), fun q => absurd q hin⟩)⟩, fun q => absurd q (hni 1 (by omega) (by omega)), fun q => absurd q (hni 2 (by omega) (by omega)), fun q => absurd q (hni 3 (by omega) (by omega)), fun q => absurd q (hni 4 (by omega) (by omega)), fun q => absurd q hin⟩
  · exact ⟨fun q => absurd q (hni 0 (by omega) (by omega)), fun _ => ⟨hv5, fin _ (fun Q hQ => ⟨fun q => absurd q (hni 0 (by omega) (by omega)), fun _ => ⟨v11, by rw [c11, e11]; exact hQ⟩, fun q => absurd q (hni 2 (by omega) (by omega)), fun q => absurd q (hni 3 (by omega) (by omega)), fun q => absurd q (hni 4 (by omega) (by omega)), fun q => absurd q hin⟩)⟩, fun q => absurd q (hni 2 (by omega) (by omega)), fun q => absurd q (hni 3 (by omega) (by omega)), fun q => absurd q (hni 4 (by omega) (by omega)), fun q => absurd q hin⟩
  · refine ⟨fun q => absurd q (hni 0 (by omega) (by omega)), fun q => absurd q (hni 1 (by omega) (by omega)), fun _ => C_bit i9 (by omega) (fin _ (fun Q hQ => ⟨fun q => absurd q (hni 0 (by omega) (by omega)), fun q => absurd q (hni 1 (by omega) (by omega)), fun _ => ?_, fun q => absurd q (hni 3 (by omega) (by omega)), fun q => absurd q (hni 4 (by omega) (by omega)), fun q => absurd q hin⟩)), fun q => absurd q (hni 3 (by omega) (by omega)), fun q => absurd q (hni 4 (by omega) (by omega)), fun q => absurd q hin⟩
    rw [ht.2.1 5 (by omega)]
    refine M_bit i9 (by omega) ?_
    rcases (show t 5 / 2 ^ a % 2 = 0 ∨ t 5 / 2 ^ a % 2 = 1 by omega) with e | e
    · rw [e] at hQ ⊢; exact z_t hQ
    · rw [e] at hQ ⊢; exact o_t hQ
  · exact ⟨fun q => absurd q (hni 0 (by omega) (by omega)), fun q => absurd q (hni 1 (by omega) (by omega)), fun q => absurd q (hni 2 (by omega) (by omega)), fun _ => T_awayFrom ht.1 hI ht.hc (by omega) (fin _ (fun Q hQ => ⟨fun q => absurd q (hni 0 (by omega) (by omega)), fun q => absurd q (hni 1 (by omega) (by omega)), fun q => absurd q (hni 2 (by omega) (by omega)), fun _ => M_awayFrom ht.2.1.h hI (fun l hl => ht.2.1.l (by omega)) ht.hm (by omega) hQ, fun q => absurd q (hni 4 (by omega) (by omega)), fun q => absurd q hin⟩)), fun q => absurd q (hni 4 (by omega) (by omega)), fun q => absurd q hin⟩
  · exact ⟨fun q => absurd q (hni 0 (by omega) (by omega)), fun q => absurd q (hni 1 (by omega) (by omega)), fun q => absurd q (hni 2 (by omega) (by omega)), fun q => absurd q (hni 3 (by omega) (by omega)), fun _ => T_madeAt ht.1 hI ht.hc (by omega) (fin _ (fun Q hQ => ⟨fun q => absurd q (hni 0 (by omega) (by omega)), fun q => absurd q (hni 1 (by omega) (by omega)), fun q => absurd q (hni 2 (by omega) (by omega)), fun q => absurd q (hni 3 (by omega) (by omega)), fun _ => M_madeAt ht.2.1.h hI (fun l hl => ht.2.1.l (by omega)) ht.hm (by omega) hQ, fun q => absurd q hin⟩)), fun q => absurd q hin⟩
theorem eq_leaver {a0 a1 : Int32} (h : Rel σ) : wp_X4_leaver a0 a1 σ (fun r τ => wp_X5_leaver a0 a1 τ (fun r' τ' => r = r' ∧ Rel τ')) := by
  unfold wp_X4_leaver
  obtain ⟨t, ht⟩ := h.2.2.2.2.2.1
  obtain ⟨b2, b3, b4⟩ := ht.b
  have m2 := ht.2.1 3 (by omega)
  by_cases hr0 : ¬ ∃ a, a < t 3 ∧ a0 = nI a
  · exact C_lvF ht.1.1.2.1 (by omega) hr0 (z_t' (M_lvF m2 (by omega) hr0 (z_t' ⟨rfl, h⟩)))
  obtain ⟨a, ha, rfl⟩ := Classical.not_not.mp hr0
  obtain ⟨hI, hth⟩ := b4 (by omega)
  obtain ⟨i1, i2, i3, i4, i5, i6, i7, i8, i9⟩ := hI.1.b
  have hL := ht.1.2.2 a ha
  have iL := hI.2.2 a ha
  have mH := ht.2.1.h
  have mL := ht.2.1.l (l := a) (by omega)
  have hh := hT_lt hI.1 a
  refine C_lvT ht.1.1.2.1 (by omega) ha (o_t' ?_)
  have hv6 : vp_in (nI a) 6 := vpN (by omega) (by omega)
  have vx : ∀ b, b ≤ 34 → vp_in (nI b + nI a) 70 := fun b hb => by rw [nI_add]; exact vpN (by omega) (by omega)
  have ex : ∀ b, b ≤ 34 → σ 280 (nI b + nI a).toNatClampNeg = nI (t (b + a)) := fun b hb => by rw [nI_add, nI_cl (by omega), ht.2.1 _ (by omega)]
  rw [nI_cl (a := a) (by omega), hL.2.1, hL.2.2.1, hL.2.2.2.1]
  by_cases hw0 : ¬ ∃ w, w < 6 ∧ a1 = nI w
  · have hn : ∀ w, w < 6 → ¬ a1 = nI w := fun w hw e => hw0 ⟨w, hw, e⟩
    have ho := sw_out (n := 6) (by omega) hw0
    exact ⟨fun q => absurd q (hn 0 (by omega)), fun q => absurd q (hn 1 (by omega)), fun q => absurd q (hn 2 (by omega)), fun q => absurd q (hn 3 (by omega)), fun q => absurd q (hn 4 (by omega)), fun q => absurd q (hn 5 (by omega)), fun _ => M_lvT m2 (by omega) ha (o_t' ⟨fun q => absurd q (hn 0 (by omega)), fun q => absurd q (hn 1 (by omega)), fun q => absurd q (hn 2 (by omega)), fun q => absurd q (hn 3 (by omega)), fun q => absurd q (hn 4 (by omega)), fun q => absurd q (hn 5 (by omega)), fun _ => ⟨rfl, h⟩⟩)⟩
  obtain ⟨w, hw, rfl⟩ := Classical.not_not.mp hw0
  have hni : ∀ v, v < 6 → v ≠ w → ¬ nI w = nI v := fun v hv hvw e => hvw ((nI_inj (by omega) (by omega)).mp e).symm
  have hin := sw_in (a := w) (n := 6) (by omega) hw
  rcases (show w = 0 ∨ w = 1 ∨ w = 2 ∨ w = 3 ∨ w = 4 ∨ w = 5 by omega) with rfl | rfl | rfl | rfl | rfl | rfl
  · exact ⟨fun _ => ⟨hv6, M_lvT m2 (by omega) ha (o_t' ⟨fun _ => ⟨vx 22 (by omega), (ex 22 (by omega)).symm, h⟩, fun q => absurd q (hni 1 (by omega) (by omega)), fun q => absurd q (hni 2 (by omega) (by omega)), fun q => absurd q (hni 3 (by omega) (by omega)), fun q => absurd q (hni 4 (by omega) (by omega)), fun q => absurd q (hni 5 (by omega) (by omega)), fun q => absurd q hin⟩)⟩, fun q => absurd q (hni 1 (by omega) (by omega)), fun q => absurd q (hni 2 (by omega) (by omega)), fun q => absurd q (hni 3 (by omega) (by omega)), fun q => absurd q (hni 4 (by omega) (by omega)), fun q => absurd q (hni 5 (by omega) (by omega)), fun q => absurd q hin⟩
  · exact ⟨fun q => absurd q (hni 0 (by omega) (by omega)), fun _ => ⟨hv6, M_lvT m2 (by omega) ha (o_t' ⟨fun q => absurd q (hni 0 (by omega) (by omega)), fun _ => ⟨vx 28 (by omega), (ex 28 (by omega)).symm, h⟩, fun q => absurd q (hni 2 (by omega) (by omega)), fun q => absurd q (hni 3 (by omega) (by omega)), fun q => absurd q (hni 4 (by omega) (by omega)), fun q => absurd q (hni 5 (by omega) (by omega)), fun q => absurd q hin⟩)⟩, fun q => absurd q (hni 2 (by omega) (by omega)), fun q => absurd q (hni 3 (by omega) (by omega)), fun q => absurd q (hni 4 (by omega) (by omega)), fun q => absurd q (hni 5 (by omega) (by omega)), fun q => absurd q hin⟩
  · exact ⟨fun q => absurd q (hni 0 (by omega) (by omega)), fun q => absurd q (hni 1 (by omega) (by omega)), fun _ => ⟨hv6, M_lvT m2 (by omega) ha (o_t' ⟨fun q => absurd q (hni 0 (by omega) (by omega)), fun q => absurd q (hni 1 (by omega) (by omega)), fun _ => ⟨vx 34 (by omega), (ex 34 (by omega)).symm, h⟩, fun q => absurd q (hni 3 (by omega) (by omega)), fun q => absurd q (hni 4 (by omega) (by omega)), fun q => absurd q (hni 5 (by omega) (by omega)), fun q => absurd q hin⟩)⟩, fun q => absurd q (hni 3 (by omega) (by omega)), fun q => absurd q (hni 4 (by omega) (by omega)), fun q => absurd q (hni 5 (by omega) (by omega)), fun q => absurd q hin⟩
  · exact ⟨fun q => absurd q (hni 0 (by omega) (by omega)), fun q => absurd q (hni 1 (by omega) (by omega)), fun q => absurd q (hni 2 (by omega) (by omega)), fun _ => T_house ht.1.1 hI.1 hL iL (by omega) (M_lvT m2 (by omega) ha (o_t' ⟨fun q => absurd q (hni 0 (by omega) (by omega)), fun q => absurd q (hni 1 (by omega) (by omega)), fun q => absurd q (hni 2 (by omega) (by omega)), fun _ => M_house mH hI.1 mL iL (by omega) ⟨rfl, h⟩, fun q => absurd q (hni 4 (by omega) (by omega)), fun q => absurd q (hni 5 (by omega) (by omega)), fun q => absurd q hin⟩)), fun q => absurd q (hni 4 (by omega) (by omega)), fun q => absurd q (hni 5 (by omega) (by omega)), fun q => absurd q hin⟩
  · exact ⟨fun q => absurd q (hni 0 (by omega) (by omega)), fun q => absurd q (hni 1 (by omega) (by omega)), fun q => absurd q (hni 2 (by omega) (by omega)), fun q => absurd q (hni 3 (by omega) (by omega)), fun _ => T_makes ht.1.1 hI.1 hL iL (by omega) (M_lvT m2 (by omega) ha (o_t' ⟨fun q => absurd q (hni 0 (by omega) (by omega)), fun q => absurd q (hni 1 (by omega) (by omega)), fun q => absurd q (hni 2 (by omega) (by omega)), fun q => absurd q (hni 3 (by omega) (by omega)), fun _ => M_makes mH hI.1 mL iL (by omega) ⟨rfl, h⟩, fun q => absurd q (hni 5 (by omega) (by omega)), fun q => absurd q hin⟩)), fun q => absurd q (hni 5 (by omega) (by omega)), fun q => absurd q hin⟩
  · exact ⟨fun q => absurd q (hni 0 (by omega) (by omega)), fun q => absurd q (hni 1 (by omega) (by omega)), fun q => absurd q (hni 2 (by omega) (by omega)), fun q => absurd q (hni 3 (by omega) (by omega)), fun q => absurd q (hni 4 (by omega) (by omega)), fun _ => T_house ht.1.1 hI.1 hL iL (by omega) (T_times hL (by omega) (by omega) (M_lvT m2 (by omega) ha (o_t' ⟨fun q => absurd q (hni 0 (by omega) (by omega)), fun q => absurd q (hni 1 (by omega) (by omega)), fun q => absurd q (hni 2 (by omega) (by omega)), fun q => absurd q (hni 3 (by omega) (by omega)), fun q => absurd q (hni 4 (by omega) (by omega)), fun _ => M_times mH hI.1 mL iL (by omega) ⟨rfl, h⟩, fun q => absurd q hin⟩))), fun q => absurd q hin⟩
end RD
