section AD
variable {σ : PI} {t : Nat → Nat} {n : Nat} {A : Nat → Nat → Nat}
theorem TA.up5 {τ : PI} {l v : Nat} (h : TA τ 0 t) (h2 : t 2 ≤ 5) (h3 : t 3 ≤ 6) (hl : l < 6) : TA (up τ (tc 0 5) l (nI v)) 0 (fun j => if j = 28 + l then v else t j) := by
  obtain ⟨hH, hM, hL⟩ := h
  have e0 : ∀ j, j ≠ 28 + l → (fun j => if j = 28 + l then v else t j) j = t j := fun j hj => by simp [hj]
  have c0 : ∀ j, j < 9 → j ≠ 5 → up τ (tc 0 5) l (nI v) (tc 0 j) = τ (tc 0 j) := fun j hj h5 => up_ne (by rw [Ne, tc_iff hj (by omega)]; omega)
  refine ⟨?_, fun m hm => ?_, fun l' hl' => ?_⟩
  · unfold TH at hH ⊢
    rw [c0 0 (by omega) (by omega), e0 2 (by omega), e0 3 (by omega), e0 0 (by omega), e0 1 (by omega), e0 4 (by omega), e0 5 (by omega)]
    exact hH
  · rw [e0 2 (by omega)] at hm
    have := hM m hm
    unfold TM at this ⊢
    rw [c0 1 (by omega) (by omega), c0 2 (by omega) (by omega), e0 (6 + m) (by omega), e0 (11 + m) (by omega)]
    exact this
  · rw [e0 3 (by omega)] at hl'
    obtain ⟨w3, w4, w5, w6, w7⟩ := hL l' hl'
    refine ⟨by rw [c0 3 (by omega) (by omega), e0 _ (by omega)]; exact w3, by rw [c0 4 (by omega) (by omega), e0 _ (by omega)]; exact w4, ?_, by rw [c0 6 (by omega) (by omega), e0 _ (by omega)]; exact w6, fun m hm => by rw [c0 7 (by omega) (by omega), e0 _ (by omega)]; exact w7 m hm⟩
    by_cases q : l' = l
    · subst q; rw [up_s]; simp
    · rw [up_k q, e0 _ (by omega)]; exact w5
theorem TA.up2 {τ : PI} {m v : Nat} (h : TA τ 0 t) (h2 : t 2 ≤ 5) (h3 : t 3 ≤ 6) (hm : m < 5) : TA (up τ (tc 0 2) m (nI v)) 0 (fun j => if j = 11 + m then v else t j) := by
  obtain ⟨hH, hM, hL⟩ := h
  have e0 : ∀ j, j ≠ 11 + m → (fun j => if j = 11 + m then v else t j) j = t j := fun j hj => by simp [hj]
  have c0 : ∀ j, j < 9 → j ≠ 2 → up τ (tc 0 2) m (nI v) (tc 0 j) = τ (tc 0 j) := fun j hj h5 => up_ne (by rw [Ne, tc_iff hj (by omega)]; omega)
  refine ⟨?_, fun i hi => ?_, fun l' hl' => ?_⟩
  · unfold TH at hH ⊢
    rw [c0 0 (by omega) (by omega), e0 2 (by omega), e0 3 (by omega), e0 0 (by omega), e0 1 (by omega), e0 4 (by omega), e0 5 (by omega)]
    exact hH
  · rw [e0 2 (by omega)] at hi
    have := hM i hi
    unfold TM at this ⊢
    rw [c0 1 (by omega) (by omega), e0 (6 + i) (by omega)]
    refine ⟨this.1, ?_⟩
    by_cases q : i = m
    · subst q; rw [up_s]; simp
    · rw [up_k q, e0 _ (by omega)]; exact this.2
  · rw [e0 3 (by omega)] at hl'
    obtain ⟨w3, w4, w5, w6, w7⟩ := hL l' hl'
    exact ⟨by rw [c0 3 (by omega) (by omega), e0 _ (by omega)]; exact w3, by rw [c0 4 (by omega) (by omega), e0 _ (by omega)]; exact w4, by rw [c0 5 (by omega) (by omega), e0 _ (by omega)]; exact w5, by rw [c0 6 (by omega) (by omega), e0 _ (by omega)]; exact w6, fun m hm => by rw [c0 7 (by omega) (by omega), e0 _ (by omega)]; exact w7 m hm⟩
theorem TA.up0 {τ : PI} {v : Nat} (h : TA τ 0 t) : TA (up τ (tc 0 0) 13 (nI v)) 0 (fun j => if j = 5 then v else t j) := by
  obtain ⟨hH, hM, hL⟩ := h
  have e0 : ∀ j, j ≠ 5 → (fun j => if j = 5 then v else t j) j = t j := fun j hj => by simp [hj]
  have c0 : ∀ j, j < 9 → j ≠ 0 → up τ (tc 0 0) 13 (nI v) (tc 0 j) = τ (tc 0 j) := fun j hj h5 => up_ne (by rw [Ne, tc_iff hj (by omega)]; omega)
  refine ⟨?_, fun i hi => ?_, fun l' hl' => ?_⟩
  · obtain ⟨a8, a9, a10, a11, a12, a13⟩ := hH
    refine ⟨?_, ?_, ?_, ?_, ?_, ?_⟩
    · rw [up_k (by omega), e0 2 (by omega)]; exact a8
    · rw [up_k (by omega), e0 3 (by omega)]; exact a9
    · rw [up_k (by omega), e0 0 (by omega)]; exact a10
    · rw [up_k (by omega), e0 1 (by omega)]; exact a11
    · rw [up_k (by omega), e0 4 (by omega)]; exact a12
    · rw [up_s]; simp
  · rw [e0 2 (by omega)] at hi
    have := hM i hi
    unfold TM at this ⊢
    rw [c0 1 (by omega) (by omega), c0 2 (by omega) (by omega), e0 (6 + i) (by omega), e0 (11 + i) (by omega)]
    exact this
  · rw [e0 3 (by omega)] at hl'
    obtain ⟨w3, w4, w5, w6, w7⟩ := hL l' hl'
    exact ⟨by rw [c0 3 (by omega) (by omega), e0 _ (by omega)]; exact w3, by rw [c0 4 (by omega) (by omega), e0 _ (by omega)]; exact w4, by rw [c0 5 (by omega) (by omega), e0 _ (by omega)]; exact w5, by rw [c0 6 (by omega) (by omega), e0 _ (by omega)]; exact w6, fun m hm => by rw [c0 7 (by omega) (by omega), e0 _ (by omega)]; exact w7 m hm⟩
theorem MA.up {f : Nat → Int32} {i v : Nat} (h : MA f t) : MA (upd f i (nI v)) (fun j => if j = i then v else t j) := by
  intro j hj
  by_cases q : j = i
  · subst q; rw [upd_s]; simp
  · rw [upd_n q]; simp only [q, if_false]; exact h j hj
/-- the model's half of an act that sets place i to v -/
theorem M_set {Q : PI → Prop} {υ : PI} {i v : Nat} (h : Rel σ) (ht : RTn σ t) (hI : Iv 999 t) (hth : σ 276 4 = nI 1) (hn : n ≤ 24) (hMN : MN σ n A) (hIA : ∀ j, j < n → Iv 999 (A j))
    (u2 : ∀ c, (9 ≤ c ∧ c < 36) ∨ (252 ≤ c ∧ c ≠ 256) → υ c = σ c) (uA : CA υ (pn n) (pA n A t)) (hA : TA υ 0 (fun j => if j = i then v else t j)) (hh : υ (tc 0 0) 14 = nI 0) (hi : i < 70) (hI' : Iv 999 (fun j => if j = i then v else t j))
    (hQ : ∀ ω, ω 280 = υ 280 → (∀ χ, χ = up ω 280 i (nI v) → Rel χ) → Q ω) : wp_X5_note υ Q := by
  refine M_note (n := n) (A := A) (t := t) ⟨by rw [u2 276 (by omega)]; exact hMN.1, fun j hj => by rw [u2 284 (by omega)]; exact hMN.2 j hj⟩ hn (by rw [u2 280 (by omega)]; exact ht.2.1) (fun ω w1 w2 => ?_)
  refine hQ ω (w2.1 280 (by omega) (by omega)) (fun χ ex => ?_)
  have x2 : ∀ c, c ≠ 280 → χ c = ω c := fun c hc => by rw [ex, up_ne hc]
  have xc : ∀ c, c ≠ 280 → c ≠ 276 → c ≠ 284 → χ c = υ c := fun c h1 h2 h3 => by rw [x2 c h1, w2.1 c h3 h2]
  have wM : MA (ω 280) t := by rw [w2.1 280 (by omega) (by omega), u2 280 (by omega)]; exact ht.2.1
  refine h.act hth (fun c hc => ?_) (fun f q1 q2 => ?_) (n' := pn n) (A' := pA n A t) (hA.cells (fun j hj => xc _ (by unfold tc; omega) (by unfold tc; omega) (by unfold tc; omega))) (by rw [ex, up_self]; exact wM.up) hI' ?_ (pn_le hn).1 (uA.cells (fun c hc => xc c (by omega) (by omega) (by omega))) (w1.cells (by rw [x2 284 (by omega)]) (by rw [x2 276 (by omega)])) (pA_iv hn hIA hI)
  · rw [xc c (by omega) (by omega) (by omega), u2 c (by omega)]
  · rw [x2 276 (by omega), w2.2 f q1, u2 276 (by omega)]
  · rw [xc _ (by unfold tc; omega) (by unfold tc; omega) (by unfold tc; omega)]; exact hh
theorem eq_weight {a0 a1 : Int32} (h : Rel σ) : wp_X4_weight a0 a1 σ (fun r τ => wp_X5_weight a0 a1 τ (fun r' τ' => r = r' ∧ Rel τ')) := by
  unfold wp_X4_weight
  obtain ⟨t, ht⟩ := h.2.2.2.2.2.1
  obtain ⟨b2, b3, b4⟩ := ht.b
  have m3 := ht.2.1 3 (by omega)
  by_cases hr0 : ¬ ∃ a, a < t 3 ∧ a0 = nI a
  · exact C_lvF ht.1.1.2.1 (by omega) hr0 (z_t (M_lvF m3 (by omega) hr0 (z_t ⟨rfl, h⟩)))
  obtain ⟨a, ha, rfl⟩ := Classical.not_not.mp hr0
  refine C_lvT ht.1.1.2.1 (by omega) ha (o_t ?_)
  by_cases hs0 : ¬ ∃ a, 1 ≤ a ∧ a ≤ 9 ∧ a1 = nI a
  · exact C_wf (by omega) (by omega) hs0 (z_t' (M_lvT m3 (by omega) ha (o_t (M_if (by omega) (by omega) hs0 (z_t' ⟨rfl, h⟩)))))
  obtain ⟨v, hv1, hv9, rfl⟩ := Classical.not_not.mp hs0
  obtain ⟨hI, hth⟩ := b4 (by omega)
  obtain ⟨n, A, hn, hCA, hMN, hz, hIA⟩ := h.2.2.2.2.2.2.1
  have hv6 : vp_in (nI a) 6 := vpN (by omega) (by omega)
  rw [nI_cl (a := a) (by omega)]
  refine C_wt hv1 hv9 (by omega) (o_t' ⟨hv6, fun x ex => C_keep hCA hn ht.1 ht.2.2.1 b2 b3 (fun τ k1 k2 => ⟨hv6, fun υ eu => ?_⟩)⟩)
  have hA1 : TA τ 0 t := ht.1.cells (fun j hj => k2 _ (by unfold tc; omega) (by unfold tc; omega))
  have uc : ∀ c, c ≠ tc 0 5 → υ c = τ c := fun c hc => by rw [eu, up_ne hc]
  have u2 : ∀ c, (9 ≤ c ∧ c < 36) ∨ (252 ≤ c ∧ c ≠ 256) → υ c = σ c := fun c hc => by rw [uc c (by unfold tc; omega), k2 c (by omega) (by omega)]
  refine M_lvT (n := t 3) (by rw [u2 280 (by omega)]; exact m3) (by omega) ha (o_t (M_it hv1 hv9 (by omega) (o_t' ?_)))
  have v70 : vp_in (nI 28 + nI a) 70 := by rw [nI_add]; exact vpN (by omega) (by omega)
  refine M_set (i := 28 + a) (v := v) h ht hI hth hn hMN hIA u2 (k1.cells (fun c hc => uc c (by unfold tc; omega))) (by rw [eu]; exact hA1.up5 b2 b3 (by omega)) (by rw [uc _ (by unfold tc; omega), k2 _ (by unfold tc; omega) (by unfold tc; omega)]; exact ht.2.2.1) (by omega) (upt_iv hI (by omega)) (fun ω w1 w2 => ⟨v70, fun y ey => ⟨v70, fun χ ech => ⟨?_, ?_⟩⟩⟩)
  · rw [ex, ey, (ht.1.2.2 a ha).2.2.1, w1, nI_add, nI_cl (a := 28 + a) (by omega), u2 280 (by omega), ht.2.1 _ (by omega)]
  · rw [nI_add, nI_cl (a := 28 + a) (by omega)] at ech
    exact w2 χ ech
theorem eq_patience {a0 a1 : Int32} (h : Rel σ) : wp_X4_patience a0 a1 σ (fun r τ => wp_X5_patience a0 a1 τ (fun r' τ' => r = r' ∧ Rel τ')) := by
  unfold wp_X4_patience
  obtain ⟨t, ht⟩ := h.2.2.2.2.2.1
  obtain ⟨b2, b3, b4⟩ := ht.b
  have m3 := ht.2.1 2 (by omega)
  by_cases hr0 : ¬ ∃ a, a < t 2 ∧ a0 = nI a
  · exact C_manF ht.1.1.1 (by omega) hr0 (z_t (M_manF m3 (by omega) hr0 (z_t ⟨rfl, h⟩)))
  obtain ⟨a, ha, rfl⟩ := Classical.not_not.mp hr0
  refine C_manT ht.1.1.1 (by omega) ha (o_t ?_)
  by_cases hs0 : ¬ ∃ a, 0 ≤ a ∧ a ≤ 9 ∧ a1 = nI a
  · exact C_wf (by omega) (by omega) hs0 (z_t' (M_manT m3 (by omega) ha (o_t (M_if (by omega) (by omega) hs0 (z_t' ⟨rfl, h⟩)))))
  obtain ⟨v, hv1, hv9, rfl⟩ := Classical.not_not.mp hs0
  obtain ⟨hI, hth⟩ := b4 (by omega)
  obtain ⟨n, A, hn, hCA, hMN, hz, hIA⟩ := h.2.2.2.2.2.2.1
  have hv6 : vp_in (nI a) 5 := vpN (by omega) (by omega)
  rw [nI_cl (a := a) (by omega)]
  refine C_wt hv1 hv9 (by omega) (o_t' ⟨hv6, fun x ex => C_keep hCA hn ht.1 ht.2.2.1 b2 b3 (fun τ k1 k2 => ⟨hv6, fun υ eu => ?_⟩)⟩)
  have hA1 : TA τ 0 t := ht.1.cells (fun j hj => k2 _ (by unfold tc; omega) (by unfold tc; omega))
  have uc : ∀ c, c ≠ tc 0 2 → υ c = τ c := fun c hc => by rw [eu, up_ne hc]
  have u2 : ∀ c, (9 ≤ c ∧ c < 36) ∨ (252 ≤ c ∧ c ≠ 256) → υ c = σ c := fun c hc => by rw [uc c (by unfold tc; omega), k2 c (by omega) (by omega)]
  refine M_manT (n := t 2) (by rw [u2 280 (by omega)]; exact m3) (by omega) ha (o_t (M_it hv1 hv9 (by omega) (o_t' ?_)))
  have v70 : vp_in (nI 11 + nI a) 70 := by rw [nI_add]; exact vpN (by omega) (by omega)
  refine M_set (i := 11 + a) (v := v) h ht hI hth hn hMN hIA u2 (k1.cells (fun c hc => uc c (by unfold tc; omega))) (by rw [eu]; exact hA1.up2 b2 b3 (by omega)) (by rw [uc _ (by unfold tc; omega), k2 _ (by unfold tc; omega) (by unfold tc; omega)]; exact ht.2.2.1) (by omega) (upt_iv hI (by omega)) (fun ω w1 w2 => ⟨v70, fun y ey => ⟨v70, fun χ ech => ⟨?_, ?_⟩⟩⟩)
  · rw [ex, ey, (ht.1.2.1 a ha).2, w1, nI_add, nI_cl (a := 11 + a) (by omega), u2 280 (by omega), ht.2.1 _ (by omega)]
  · rw [nI_add, nI_cl (a := 11 + a) (by omega)] at ech
    exact w2 χ ech
theorem eq_bar {a0 a1 : Int32} (h : Rel σ) : wp_X4_bar a0 a1 σ (fun r τ => wp_X5_bar a0 a1 τ (fun r' τ' => r = r' ∧ Rel τ')) := by
  unfold wp_X4_bar
  obtain ⟨t, ht⟩ := h.2.2.2.2.2.1
  obtain ⟨b2, b3, b4⟩ := ht.b
  have m3 := ht.2.1 2 (by omega)
  by_cases hr0 : ¬ ∃ a, a < t 2 ∧ a0 = nI a
  · exact C_manF ht.1.1.1 (by omega) hr0 (z_t (M_manF m3 (by omega) hr0 (z_t ⟨rfl, h⟩)))
  obtain ⟨a, ha, rfl⟩ := Classical.not_not.mp hr0
  refine C_manT ht.1.1.1 (by omega) ha (o_t ?_)
  by_cases hs0 : ¬ ∃ a, a < 2 ∧ a1 = nI a
  · exact C_bitF hs0 (z_t' (M_manT m3 (by omega) ha (o_t (M_if (by omega) (by omega) (fun ⟨b, _, q2, q3⟩ => hs0 ⟨b, by omega, q3⟩) (z_t' ⟨rfl, h⟩)))))
  obtain ⟨v, hv, rfl⟩ := Classical.not_not.mp hs0
  obtain ⟨hI, hth⟩ := b4 (by omega)
  obtain ⟨i1, i2, i3, i4, i5, i6, i7, i8, i9⟩ := hI.1.b
  obtain ⟨n, A, hn, hCA, hMN, hz, hIA⟩ := h.2.2.2.2.2.2.1
  have i10 : t 5 < 2 ^ t 2 := hI.1.2.2.2.2.2.2.2.2.1
  have hx : t 5 ^^^ 2 ^ a < 2 ^ t 2 := Nat.xor_lt_two_pow i10 (Nat.pow_lt_pow_right (by omega) ha)
  have hp : 2 ^ t 2 ≤ 2 ^ 5 := Nat.pow_le_pow_right (by omega) i2
  have xor : nI (t 5) ^^^ nI (2 ^ a) = nI (t 5 ^^^ 2 ^ a) := by
    apply Int32.toBitVec_inj.1
    show BitVec.ofNat 32 (t 5) ^^^ BitVec.ofNat 32 (2 ^ a) = BitVec.ofNat 32 (t 5 ^^^ 2 ^ a)
    apply BitVec.eq_of_getLsbD_eq
    intro i hi
    simp [hi]
  refine C_bitT hv (o_t' ?_)
  rw [ht.1.1.2.2.2.2.2]
  refine C_bit i9 (by omega) ?_
  have hb2 : t 5 / 2 ^ a % 2 < 2 := Nat.mod_lt _ (by omega)
  rw [nI_inj (by omega) (by omega)]
  -- the model's test
  have tst : ∀ (ω : PI) (Q : Int32 → PI → Prop), ω 280 5 = nI (t 5) → (t 5 / 2 ^ a % 2 = v → Q (-1000002) ω) → (¬ t 5 / 2 ^ a % 2 = v → wp_X5_note ω (fun τ11 => ∀ τ12 : PI, τ12 = up τ11 280 5 ((τ11 280 5) ^^^ ((nI 1) <<< (nI a &&& 31))) → Q (τ12 280 5) τ12)) → wp_X5_has (ω 280 5) (nI a) ω (fun r8 τ7 => ((¬ nI v = (nI 1) → w_X5_bar_41 Q (nI a) (nI 0) r8 τ7) ∧ (nI v = (nI 1) → w_X5_bar_41 Q (nI a) (nI 1) r8 τ7))) := by
    intro ω Q h5 q1 q2
    rw [h5]
    refine M_bit i9 (by omega) ?_
    have go : ∀ w, w = v → w_X5_bar_41 Q (nI a) (nI w) (nI (t 5 / 2 ^ a % 2)) ω := by
      intro w hw
      unfold w_X5_bar_41
      rw [nI_inj (by omega) (by omega), hw]
      exact ⟨q2, q1⟩
    rw [nI_inj (by omega) (by omega)]
    exact ⟨fun q => go 0 (by omega), fun q => go 1 (by omega)⟩
  refine ⟨fun q => C_keep hCA hn ht.1 ht.2.2.1 b2 b3 (fun τ k1 k2 => fun υ eu => ?_), fun q => M_manT m3 (by omega) ha (o_t (M_it (by omega) (show v ≤ 1 by omega) (by omega) (o_t' (tst σ _ (ht.2.1 5 (by omega)) (fun _ => ⟨rfl, h⟩) (fun z => absurd q z)))))⟩
  have hA1 : TA τ 0 t := ht.1.cells (fun j hj => k2 _ (by unfold tc; omega) (by unfold tc; omega))
  rw [hA1.1.2.2.2.2.2, nI_shl (by omega), xor] at eu
  have uc : ∀ c, c ≠ tc 0 0 → υ c = τ c := fun c hc => by rw [eu, up_ne hc]
  have u2 : ∀ c, (9 ≤ c ∧ c < 36) ∨ (252 ≤ c ∧ c ≠ 256) → υ c = σ c := fun c hc => by rw [uc c (by unfold tc; omega), k2 c (by omega) (by omega)]
  refine M_manT (n := t 2) (by rw [u2 280 (by omega)]; exact m3) (by omega) ha (o_t (M_it (by omega) (show v ≤ 1 by omega) (by omega) (o_t' (tst υ _ (by rw [u2 280 (by omega)]; exact ht.2.1 5 (by omega)) (fun z => absurd z q) (fun _ => ?_)))))
  refine M_set (i := 5) (v := t 5 ^^^ 2 ^ a) h ht hI hth hn hMN hIA u2 (k1.cells (fun c hc => uc c (by unfold tc; omega))) (by rw [eu]; exact hA1.up0) (by rw [eu, up_k (by omega), k2 _ (by unfold tc; omega) (by unfold tc; omega)]; exact ht.2.2.1) (by omega) (upt_iv hI (by omega)) (fun ω w1 w2 χ ech => ?_)
  rw [w1, u2 280 (by omega), ht.2.1 5 (by omega), nI_shl (by omega), xor] at ech
  refine ⟨?_, w2 χ ech⟩
  rw [eu, up_s, ech, up_s]
end AD
