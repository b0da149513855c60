section AE
variable {σ : PI} {t : Nat → Nat} {n : Nat} {A : Nat → Nat → Nat}
/-- acts behind i days -/
def pd (t : Nat → Nat) (n : Nat) (A : Nat → Nat → Nat) : Nat → Nat × (Nat → Nat → Nat)
  | 0 => (n, A)
  | i + 1 => (pn (pd t n A i).1, pA (pd t n A i).1 (pd t n A i).2 (dys t nob i))
theorem pd_le (hn : n ≤ 24) : ∀ i, (pd t n A i).1 ≤ 24
  | 0 => hn
  | i + 1 => (pn_le (pd_le hn i)).1
theorem dys_4 {hb : Nat → Bool} : ∀ i, dys t hb i 4 = t 4 + i
  | 0 => rfl
  | i + 1 => by rw [dys, dy_4, dys_4 i]; omega
theorem Iv.le {M N : Nat} (h : Iv N t) (h4 : t 4 ≤ M) (hM : M ≤ 3000) : Iv M t := by
  obtain ⟨⟨h1, h2, h3, h4', h5, h6, h7, h8, h9, h10⟩, hm, hl⟩ := h
  exact ⟨⟨h1, h2, h3, h4', h5, h6, h7, h4, h9, hM⟩, hm, hl⟩
theorem pd_iv (hn : n ≤ 24) (hIA : ∀ j, j < n → Iv 999 (A j)) (hI : Iv 999 t) : ∀ i, t 4 + i ≤ 1000 → ∀ j, j < (pd t n A i).1 → Iv 999 ((pd t n A i).2 j)
  | 0, _ => hIA
  | i + 1, h => pA_iv (pd_le hn i) (pd_iv hn hIA hI i (by omega)) ((dys_iv hI i (by omega)).le (by rw [dys_4]; omega) (by omega))
theorem eq_days {a0 : Int32} (h : Rel σ) : wp_X4_days a0 σ (fun r τ => wp_X5_days a0 τ (fun r' τ' => r = r' ∧ Rel τ')) := by
  unfold wp_X4_days
  obtain ⟨t, ht⟩ := h.2.2.2.2.2.1
  refine C_town ht (fun hI hth => o_t' ?_) (fun h2 h0 => z_t' ⟨fun q => absurd h0 q, fun _ => ⟨rfl, h⟩⟩)
  obtain ⟨i1, i2, i3, i4, i5, i6, i7, i8, i9⟩ := hI.1.b
  have nth : ¬ σ 276 4 = nI 0 := by rw [hth]; exact b_ne
  by_cases hr0 : ¬ ∃ a, 1 ≤ a ∧ a ≤ 24 ∧ a0 = nI a
  · exact C_wf (by omega) (by omega) hr0 (z_t' ⟨fun _ => M_if (by omega) (by omega) hr0 (z_t' ⟨rfl, h⟩), fun q => absurd q nth⟩)
  obtain ⟨d, hd1, hd, rfl⟩ := Classical.not_not.mp hr0
  obtain ⟨n, A, hn, hCA, hMN, hz, hIA⟩ := h.2.2.2.2.2.2.1
  refine C_wt hd1 hd (by omega) (o_t' ?_)
  rw [ht.1.1.2.2.2.2.1, nI_add, nI_le' (by omega) (by omega)]
  have e4 := ht.2.1 4 (by omega)
  refine ⟨fun q => ?_, fun q => ⟨fun _ => M_it hd1 hd (by omega) (o_t' (by
    rw [e4, nI_add, nI_le' (by omega) (by omega)]
    exact ⟨fun z => absurd z q, fun _ => ⟨rfl, h⟩⟩)), fun z => absurd z nth⟩⟩
  unfold w_X4_days_43
  refine for_h2 d (fun _ => nI d) (fun i => nI i) (fun i τ => TA τ 0 (dys t nob i) ∧ τ (tc 0 0) 14 = nI 0 ∧ CA τ (pd t n A i).1 (pd t n A i).2 ∧ (∀ c, (9 ≤ c ∧ c < 36) ∨ (252 ≤ c ∧ c ≠ 256) → τ c = σ c)) ?_ ?_ 0 _ (Nat.zero_le _) ⟨ht.1, ht.2.2.1, hCA, fun _ _ => rfl⟩
  · rintro K τ ⟨g1, g2, g3, g4⟩
    show B_X4_days_43 K _ (nI d) (nI d) τ
    unfold B_X4_days_43
    have hId : Iv 999 (dys t nob d) := (dys_iv hI d (by omega)).le (by rw [dys_4]; omega) (by omega)
    refine ⟨fun _ => T_felt g1 (by rw [dys_2]; exact i2) ?_, fun z => absurd (Int32.le_refl _) z⟩
    have hm276 := g4 276 (by omega)
    refine ⟨fun _ => M_it hd1 hd (by omega) (o_t' ?_), fun z => absurd (by rw [hm276] at z; exact z) nth⟩
    rw [g4 280 (by omega), e4, nI_add, nI_le' (by omega) (by omega)]
    refine ⟨fun _ => ?_, fun z => absurd q z⟩
    unfold w_X5_days_44
    refine for_h2 d (fun _ => nI d) (fun i => nI i) (fun i υ => MA (υ 280) (dys t nob i) ∧ MN υ (pd t n A i).1 (pd t n A i).2 ∧ (∀ c, c ≠ 280 → c ≠ 276 → c ≠ 284 → υ c = τ c) ∧ (∀ f, f ≠ 19 → f ≠ 17 → υ 276 f = σ 276 f)) ?_ ?_ 0 _ (Nat.zero_le _) ⟨by rw [g4 280 (by omega)]; exact ht.2.1, ⟨by rw [hm276]; exact hMN.1, by rw [g4 284 (by omega)]; exact hMN.2⟩, fun _ _ _ _ => rfl, fun f _ _ => by rw [hm276]⟩
    · rintro K2 υ ⟨k1, k2, k3, k4⟩
      show B_X5_days_44 K2 _ (nI d) (nI d) υ
      unfold B_X5_days_44
      refine ⟨fun _ => M_allFeel k1 (by rw [dys_2]; exact i2) ⟨rfl, ?_⟩, fun z => absurd (Int32.le_refl _) z⟩
      refine h.act hth (fun c hc => ?_) k4 (g1.cells (fun j hj => k3 _ (by unfold tc; omega) (by unfold tc; omega) (by unfold tc; omega))) k1 hId ?_ (pd_le hn d) (g3.cells (fun c hc => k3 c (by omega) (by omega) (by omega))) k2 (pd_iv hn hIA hI d (by omega))
      · rw [k3 c (by omega) (by omega) (by omega), g4 c (by omega)]
      · rw [k3 _ (by unfold tc; omega) (by unfold tc; omega) (by unfold tc; omega)]; exact g2
    · rintro K2 i υ hi ⟨k1, k2, k3, k4⟩ hK
      show B_X5_days_44 K2 _ (nI d) (nI i) υ
      unfold B_X5_days_44
      rw [nI_le' (by omega) (by omega), nI_add]
      refine ⟨fun z => absurd z (by omega), fun _ => M_note k2 (pd_le hn i) k1 (fun ω w1 w2 => ?_)⟩
      refine M_oneDay (hb := nob) (t := dys t nob i) (N := 999 + i) (by rw [w2.1 280 (by omega) (by omega)]; exact k1) (dys_iv hI i (by omega)) (by rw [w2.2 6 (by omega), k4 6 (by omega) (by omega), ht.2.2.2.1]; exact HB_0) (fun χ x1 x2 x3 => ?_)
      refine hK χ ⟨x1, w1.cells (x3.1 284 (by omega) (by omega)) (x3.2 19 (by omega)), fun c h1 h2 h3 => by rw [x3.1 c h1 h2, w2.1 c h3 h2, k3 c h1 h2 h3], fun f h1 h2 => by rw [x3.2 f h2, w2.2 f h1, k4 f h1 h2]⟩
  · rintro K i τ hi ⟨g1, g2, g3, g4⟩ hK
    show B_X4_days_43 K _ (nI d) (nI i) τ
    unfold B_X4_days_43
    rw [nI_le' (by omega) (by omega), nI_add]
    refine ⟨fun z => absurd z (by omega), fun _ => C_keep g3 (pd_le hn i) g1 g2 (by rw [dys_2]; exact i2) (by rw [dys_3]; exact i4) (fun υ k1 k2 => ?_)⟩
    have u0 : ∀ j, j < 9 → υ (tc 0 j) = τ (tc 0 j) := fun j hj => k2 _ (by unfold tc; omega) (by unfold tc; omega)
    refine T_passDay (hb := nob) (g1.cells u0) (dys_iv hI i (by omega)) (by rw [u0 0 (by omega), g2]; exact HB_0) (fun ω w1 w2 w3 => ?_)
    refine hK ω ⟨w1, by rw [w2, u0 0 (by omega)]; exact g2, k1.cells (fun c hc => w3 c (fun j hj => by unfold tc; omega)), fun c hc => by rw [w3 c (fun j hj => by unfold tc; omega), k2 c (by omega) (by omega), g4 c hc]⟩
theorem eq_undo (h : Rel σ) : wp_X4_undo σ (fun r τ => wp_X5_undo τ (fun r' τ' => r = r' ∧ Rel τ')) := by
  unfold wp_X4_undo wp_X0_takeBack
  obtain ⟨t, ht⟩ := h.2.2.2.2.2.1
  obtain ⟨n, A, hn, ⟨o, ho, c1, c2, c3⟩, hMN, hz, hIA⟩ := h.2.2.2.2.2.2.1
  rw [c2, nI_inj (by omega) (by omega)]
  refine ⟨fun q τ1 e1 => ?_, fun q => z_t ?_⟩
  · have hth := hz (by omega)
    rw [nI_sub (by omega)] at e1
    have a1 : τ1 256 1 = nI o := by rw [e1, up_k (by omega), c1]
    have a2 : τ1 256 2 = nI (n - 1) := by rw [e1, up_s]
    have hlt := Nat.mod_lt (o + (n - 1)) (show 24 > 0 by omega)
    rw [a1, a2, nI_add, nI_rem (by omega) (by omega) (by omega), nI_cl (a := (o + (n - 1)) % 24) (by omega)]
    refine ⟨vpN hlt (by omega), T_copy (by omega) (fun τ hc => o_t ?_)⟩
    have hf := hc.2.2.2.2
    have tc1 : ∀ k j, k < 28 → j < 9 → τ1 (tc k j) = σ (tc k j) := fun k j hk hj => by rw [e1, up_ne (tc_hi hk hj (by omega))]
    obtain ⟨hTA, hhm⟩ := c3 (n - 1) (by omega)
    have hI' := hIA (n - 1) (by omega)
    obtain ⟨i1, i2, i3, i4, i5, i6, i7, i8, i9⟩ := hI'.1.b
    have hA' : TA τ 0 (A (n - 1)) := hc.ta (hTA.cells (fun j hj => tc1 _ j (by omega) hj)) i2 i4
    have hh' : τ (tc 0 0) 14 = nI 0 := by rw [hc.1 14 (by omega) (by omega), tc1 _ _ (by omega) (by omega)]; exact hhm
    have tb : ∀ c, 9 ≤ c → c ≠ 256 → τ c = σ c := fun c h1 h2 => by rw [hf c (fun j hj => by unfold tc; omega), e1, up_ne h2]
    have t256 : τ 256 = τ1 256 := hf 256 (fun j hj => by unfold tc; omega)
    rw [t256, a2]
    unfold wp_X5_undo
    dsimp only
    rw [tb 276 (by omega) (by omega), hMN.1, nI_inj (by omega) (by omega)]
    refine ⟨fun _ υ eu => ?_, fun z => absurd z q⟩
    rw [nI_sub (by omega)] at eu
    unfold w_X5_undo_22
    refine for_h1 70 (fun i => nI i) (fun i ω => (∀ c, c ≠ 280 → ω c = υ c) ∧ (∀ j, j < 70 → ω 280 j = if j < i then nI (A (n - 1) j) else υ 280 j)) ?_ ?_ 0 _ (Nat.zero_le _) ⟨fun _ _ => rfl, fun j _ => by rw [if_neg (by omega)]⟩
    · rintro K ω ⟨w1, w2⟩
      show B_X5_undo_22 K _ (nI 70) ω
      unfold B_X5_undo_22
      refine ⟨fun _ => ⟨?_, ?_⟩, fun z => absurd (Int32.le_refl _) z⟩
      · rw [w1 276 (by omega), eu, up_s]
      · have wc : ∀ c, 9 ≤ c → c ≠ 256 → c ≠ 276 → c ≠ 280 → ω c = σ c := fun c h1 h2 h3 h4 => by rw [w1 c h4, eu, up_ne h3, tb c h1 h2]
        have wt : ∀ c, c < 9 → ω c = τ c := fun c h1 => by rw [w1 c (by omega), eu, up_ne (by omega)]
        refine h.act hth (fun c hc => wc c (by omega) (by omega) (by omega) (by omega)) (fun f q1 q2 => ?_) (t' := A (n - 1)) (n' := n - 1) (A' := A) (hA'.cells (fun j hj => wt _ (by unfold tc; omega))) (fun j hj => by rw [w2 j hj, if_pos hj]) hI' (by rw [wt _ (by unfold tc; omega)]; exact hh') (by omega) ⟨o, ho, ?_, ?_, fun j hj => ⟨(c3 j (by omega)).1.cells (fun i hi => wc _ (by unfold tc; omega) (by unfold tc; omega) (by unfold tc; omega) (by unfold tc; omega)), by rw [wc _ (by unfold tc; omega) (by unfold tc; omega) (by unfold tc; omega) (by unfold tc; omega)]; exact (c3 j (by omega)).2⟩⟩ ⟨?_, fun j hj => by rw [wc 284 (by omega) (by omega) (by omega) (by omega)]; exact hMN.2 j (by omega)⟩ (fun j hj => hIA j (by omega))
        · rw [w1 276 (by omega), eu, up_k q1, tb 276 (by omega) (by omega)]
        · rw [w1 256 (by omega), eu, up_ne (by omega), t256, a1]
        · rw [w1 256 (by omega), eu, up_ne (by omega), t256, a2]
        · rw [w1 276 (by omega), eu, up_s]
    · rintro K i ω hi ⟨w1, w2⟩ hK
      show B_X5_undo_22 K _ (nI i) ω
      unfold B_X5_undo_22
      have w19 : ω 276 19 = nI (n - 1) := by rw [w1 276 (by omega), eu, up_s]
      rw [nI_le' (by omega) (by omega), w19, pk_mul, nI_add, nI_cl (a := 70 * (n - 1) + i) (by omega), nI_cl (a := i) (by omega), nI_add]
      refine ⟨fun z => absurd z (by omega), fun _ => ⟨vpN (by omega) (by omega), vpN (by omega) (by omega), fun χ e => hK χ ⟨fun c hc => by rw [e, up_ne hc]; exact w1 c hc, fun j hj => ?_⟩⟩⟩
      rw [e]
      by_cases z : j = i
      · subst z
        rw [up_s, if_pos (by omega), w1 284 (by omega), eu, up_ne (by omega), tb 284 (by omega) (by omega)]
        exact hMN.2 (n - 1) (by omega) j hj
      · rw [up_k z, w2 j hj]
        by_cases z2 : j < i
        · rw [if_pos z2, if_pos (by omega)]
        · rw [if_neg z2, if_neg (by omega)]
  · unfold wp_X5_undo
    dsimp only
    rw [hMN.1, nI_inj (by omega) (by omega)]
    exact ⟨fun z => absurd q z, fun _ => ⟨rfl, h⟩⟩
theorem eq_image {a0 : Int32} (h : Rel σ) : wp_X4_image a0 σ (fun r τ => wp_X5_image a0 τ (fun r' τ' => r = r' ∧ Rel τ')) := by
  unfold wp_X4_image
  obtain ⟨t, ht⟩ := h.2.2.2.2.2.1
  by_cases hr0 : ¬ ∃ a, 0 ≤ a ∧ a ≤ 1 ∧ a0 = nI a
  · exact C_wf (by omega) (by omega) hr0 (z_t' (M_if (by omega) (by omega) hr0 (z_t' ⟨rfl, h⟩)))
  obtain ⟨k, -, hk, rfl⟩ := Classical.not_not.mp hr0
  refine C_wt (by omega) hk (by omega) (o_t' ?_)
  refine C_town ht (fun hI hth => o_t' ?_) (fun h2 h0 => z_t' (M_it (by omega) hk (by omega) (o_t' ⟨fun q => absurd h0 q, fun _ => ⟨rfl, h⟩⟩)))
  obtain ⟨i1, i2, i3, i4, i5, i6, i7, i8, i9⟩ := hI.1.b
  have nth : ¬ σ 276 4 = nI 0 := by rw [hth]; exact b_ne
  rw [nI_cl (a := k) (by omega)]
  refine ⟨vpN (by omega) (by omega), T_copy (by omega) (fun τ hc => ?_)⟩
  have hf := hc.2.2.2.2
  have hA' := hc.ta ht.1 i2 i4
  have hh' : τ (tc (2 + k) 0) 14 = nI 0 := by rw [hc.1 14 (by omega) (by omega), ht.2.2.1]
  have tb : ∀ c, (∀ j, j < 9 → c ≠ tc (2 + k) j) → τ c = σ c := hf
  have thi : ∀ c, 252 ≤ c → τ c = σ c := fun c hc => hf.hi (by omega) hc
  refine M_it (by omega) hk (by omega) (o_t' ?_)
  rw [thi 276 (by omega)]
  refine ⟨fun _ => ?_, fun z => absurd z nth⟩
  unfold w_X5_image_25
  refine for_h2 70 (fun _ => nI k) (fun i => nI i) (fun i ω => (∀ c, c ≠ 287 → ω c = τ c) ∧ (∀ j, ω 287 j = if 70 * k ≤ j ∧ j < 70 * k + i then nI (t (j - 70 * k)) else σ 287 j)) ?_ ?_ 0 _ (Nat.zero_le _) ⟨fun _ _ => rfl, fun j => by rw [if_neg (by omega), thi 287 (by omega)]⟩
  · rintro K ω ⟨w1, w2⟩
    show B_X5_image_25 K _ (nI k) (nI 70) ω
    unfold B_X5_image_25
    rw [nI_cl (a := k) (by omega)]
    refine ⟨fun _ => ⟨vpN (by omega) (by omega), fun χ e => ⟨rfl, ?_⟩⟩, fun z => absurd (Int32.le_refl _) z⟩
    have xc : ∀ c, c ≠ 286 → c ≠ 287 → χ c = τ c := fun c h1 h2 => by rw [e, up_ne h1, w1 c h2]
    have xs : ∀ c, c ≠ 286 → c ≠ 287 → (∀ j, j < 9 → c ≠ tc (2 + k) j) → χ c = σ c := fun c h1 h2 h3 => by rw [xc c h1 h2, tb c h3]
    have xh : ∀ c, 252 ≤ c → c ≠ 286 → c ≠ 287 → χ c = σ c := fun c h0 h1 h2 => by rw [xc c h1 h2, thi c h0]
    obtain ⟨r1, r2, r3, r4, r5, ⟨t0, r6⟩, ⟨n, A, hn, hCA, hMN, hz, hIA⟩, r8⟩ := h
    refine ⟨fun r hr => (r1 r hr).k hr (fun c hcc => xh c (by unfold rwc at hcc; omega) (by unfold rwc at hcc; omega) (by unfold rwc at hcc; omega)), by rw [xh 252 (by omega) (by omega) (by omega), xh 276 (by omega) (by omega) (by omega)]; exact r2, by rw [xh 252 (by omega) (by omega) (by omega), xh 276 (by omega) (by omega) (by omega)]; exact r3, ?_, ?_, ⟨t, ?_⟩, ⟨n, A, hn, hCA.cells (fun c hcc => xs c (by omega) (by omega) (fun j hj => by unfold tc; omega)), hMN.cells (xh 284 (by omega) (by omega) (by omega)) (by rw [xh 276 (by omega) (by omega) (by omega)]), by rw [xh 276 (by omega) (by omega) (by omega)]; exact hz, hIA⟩, fun k' hk' => ?_⟩
    · unfold RTp at r4 ⊢
      rw [xh 257 (by omega) (by omega) (by omega), xh 276 (by omega) (by omega) (by omega), xh 258 (by omega) (by omega) (by omega), xh 282 (by omega) (by omega) (by omega)]; exact r4
    · unfold RTr at r5 ⊢
      rw [xh 252 (by omega) (by omega) (by omega), xh 276 (by omega) (by omega) (by omega), xh 259 (by omega) (by omega) (by omega), xh 288 (by omega) (by omega) (by omega)]; exact r5
    · obtain ⟨q1, q2, q3, q4, q5⟩ := ht
      refine ⟨q1.cells (fun j hj => xs _ (by unfold tc; omega) (by unfold tc; omega) (fun i hi => by unfold tc; omega)), by rw [xh 280 (by omega) (by omega) (by omega)]; exact q2, by rw [xs _ (by unfold tc; omega) (by unfold tc; omega) (fun i hi => by unfold tc; omega)]; exact q3, by rw [xh 276 (by omega) (by omega) (by omega)]; exact q4, by rw [xh 276 (by omega) (by omega) (by omega)]; exact q5⟩
    · by_cases q : k' = k
      · subst q
        refine Or.inl ⟨by rw [e, up_s], by rw [xh 276 (by omega) (by omega) (by omega)]; exact hth, t, hI, hA'.cells (fun j hj => xc _ (by unfold tc; omega) (by unfold tc; omega)), by rw [xc _ (by unfold tc; omega) (by unfold tc; omega)]; exact hh', fun i hi => ?_⟩
        show χ 287 (70 * k' + i) = _
        rw [e, up_ne (by omega), w2, if_pos (by omega), show 70 * k' + i - 70 * k' = i by omega]
      · have c286 : χ 286 k' = σ 286 k' := by rw [e, up_k q, w1 286 (by omega), thi 286 (by omega)]
        have ct : ∀ j, j < 9 → χ (tc (2 + k') j) = σ (tc (2 + k') j) := fun j hj => xs _ (by unfold tc; omega) (by unfold tc; omega) (fun i hi => tc_ne hj hi (Or.inl (by omega)))
        rw [c286, xh 276 (by omega) (by omega) (by omega), ct 0 (by omega)]
        rcases r8 k' hk' with ⟨k1, k2, t1, k3, k4, k5, k6⟩ | k1
        · refine Or.inl ⟨k1, k2, t1, k3, k4.cells ct, k5, fun i hi => ?_⟩
          show χ 287 (70 * k' + i) = _
          rw [e, up_ne (by omega), w2, if_neg (by omega)]
          exact k6 i hi
        · exact Or.inr k1
  · rintro K i ω hi ⟨w1, w2⟩ hK
    show B_X5_image_25 K _ (nI k) (nI i) ω
    unfold B_X5_image_25
    rw [nI_le' (by omega) (by omega), pk_mul, nI_add, nI_cl (a := 70 * k + i) (by omega), nI_cl (a := i) (by omega), nI_add]
    refine ⟨fun z => absurd z (by omega), fun _ => ⟨vpN (by omega) (by omega), vpN (by omega) (by omega), fun χ e => hK χ ⟨fun c hc => by rw [e, up_ne hc]; exact w1 c hc, fun j => ?_⟩⟩⟩
    rw [e]
    by_cases z : j = 70 * k + i
    · subst z
      rw [up_s, if_pos (by omega), w1 280 (by omega), thi 280 (by omega), show 70 * k + i - 70 * k = i by omega]
      exact ht.2.1 i hi
    · rw [up_k z, w2]
      by_cases z2 : 70 * k ≤ j ∧ j < 70 * k + i
      · rw [if_pos z2, if_pos (by omega)]
      · rw [if_neg z2, if_neg (by omega)]
theorem eq_restore {a0 : Int32} (h : Rel σ) : wp_X4_restore a0 σ (fun r τ => wp_X5_restore a0 τ (fun r' τ' => r = r' ∧ Rel τ')) := by
  unfold wp_X4_restore
  obtain ⟨t, ht⟩ := h.2.2.2.2.2.1
  by_cases hr0 : ¬ ∃ a, 0 ≤ a ∧ a ≤ 1 ∧ a0 = nI a
  · exact C_wf (by omega) (by omega) hr0 (z_t' (M_if (by omega) (by omega) hr0 (z_t' ⟨rfl, h⟩)))
  obtain ⟨k, -, hk, rfl⟩ := Classical.not_not.mp hr0
  refine C_wt (by omega) hk (by omega) (o_t' ?_)
  have hv : vp_in (nI k) 2 := vpN (by omega) (by omega)
  rw [nI_cl (a := k) (by omega)]
  rcases h.2.2.2.2.2.2.2 k (by omega) with ⟨k1, hth, t', hI, k4, k5, k6⟩ | ⟨k1, k2⟩
  · obtain ⟨i1, i2, i3, i4, i5, i6, i7, i8, i9⟩ := hI.1.b
    rw [k4.1.1, nI_inj (by omega) (by omega)]
    refine ⟨hv, fun _ => ⟨hv, T_copy (by omega) (fun τ hc => fun υ eu => ?_)⟩, fun z => absurd z (by omega)⟩
    have hf := hc.2.2.2.2
    have hA' := hc.ta k4 i2 i4
    have hh' : τ (tc 0 0) 14 = nI 0 := by rw [hc.1 14 (by omega) (by omega), k5]
    have uc : ∀ c, c ≠ 256 → υ c = τ c := fun c hc => by rw [eu, up_ne hc]
    have us : ∀ c, 9 ≤ c → c ≠ 256 → υ c = σ c := fun c h1 h2 => by rw [uc c h2, hf c (fun j hj => by unfold tc; omega)]
    refine M_it (by omega) hk (by omega) (o_t' ?_)
    rw [nI_cl (a := k) (by omega), us 286 (by omega) (by omega), k1]
    refine ⟨hv, fun _ => ?_, fun z => absurd z b_ne⟩
    unfold w_X5_restore_27
    refine for_h2 70 (fun _ => nI k) (fun i => nI i) (fun i ω => (∀ c, c ≠ 280 → ω c = υ c) ∧ (∀ j, j < 70 → ω 280 j = if j < i then nI (t' j) else υ 280 j)) ?_ ?_ 0 _ (Nat.zero_le _) ⟨fun _ _ => rfl, fun j _ => by rw [if_neg (by omega)]⟩
    · rintro K ω ⟨w1, w2⟩
      show B_X5_restore_27 K _ (nI k) (nI 70) ω
      unfold B_X5_restore_27
      refine ⟨fun _ χ e => ⟨rfl, ?_⟩, fun z => absurd (Int32.le_refl _) z⟩
      have xc : ∀ c, c ≠ 276 → c ≠ 280 → χ c = υ c := fun c h1 h2 => by rw [e, up_ne h1, w1 c h2]
      obtain ⟨n, A, hn, ⟨o, ho, c1, c2, c3⟩, hMN, hz, hIA⟩ := h.2.2.2.2.2.2.1
      refine h.act hth (fun c hc => ?_) (fun f q1 q2 => ?_) (t' := t') (n' := 0) (A' := A) (hA'.cells (fun j hj => by rw [xc _ (by unfold tc; omega) (by unfold tc; omega), uc _ (by unfold tc; omega)])) (fun j hj => by rw [e, up_ne (by omega), w2 j hj, if_pos hj]) hI (by rw [xc _ (by unfold tc; omega) (by unfold tc; omega), uc _ (by unfold tc; omega)]; exact hh') (by omega) ⟨o, ho, ?_, ?_, fun j hj => absurd hj (Nat.not_lt_zero j)⟩ ⟨by rw [e, up_s], fun j hj => absurd hj (Nat.not_lt_zero j)⟩ (fun j hj => absurd hj (Nat.not_lt_zero j))
      · rw [xc c (by omega) (by omega), us c (by omega) (by omega)]
      · rw [e, up_k q1, w1 276 (by omega), us 276 (by omega) (by omega)]
      · rw [xc 256 (by omega) (by omega), eu, up_k (by omega), hf 256 (fun j hj => by unfold tc; omega), c1]
      · rw [xc 256 (by omega) (by omega), eu, up_s]
    · rintro K i ω hi ⟨w1, w2⟩ hK
      show B_X5_restore_27 K _ (nI k) (nI i) ω
      unfold B_X5_restore_27
      rw [nI_le' (by omega) (by omega), pk_mul, nI_add, nI_cl (a := 70 * k + i) (by omega), nI_cl (a := i) (by omega), nI_add]
      refine ⟨fun z => absurd z (by omega), fun _ => ⟨vpN (by omega) (by omega), vpN (by omega) (by omega), fun χ e => hK χ ⟨fun c hc => by rw [e, up_ne hc]; exact w1 c hc, fun j hj => ?_⟩⟩⟩
      rw [e]
      by_cases z : j = i
      · subst z
        rw [up_s, if_pos (by omega), w1 287 (by omega), us 287 (by omega) (by omega)]
        exact k6 j hj
      · rw [up_k z, w2 j hj]
        by_cases z2 : j < i
        · rw [if_pos z2, if_pos (by omega)]
        · rw [if_neg z2, if_neg (by omega)]
  · rw [k2]
    refine ⟨hv, fun z => absurd rfl z, fun _ => M_it (by omega) hk (by omega) (o_t' ?_)⟩
    rw [nI_cl (a := k) (by omega), k1]
    exact ⟨hv, fun z => absurd rfl z, fun _ => ⟨rfl, h⟩⟩
end AE
