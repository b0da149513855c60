/-! ===== rows ===== -/
theorem RRow.p {σ τ : PI} {r : Nat} (h : RRow σ r) (h0 : τ (rc r 0) = σ (rc r 0)) (h1 : τ (rc r 1) = σ (rc r 1)) (h7 : τ 277 r = σ 277 r) (h8 : τ 278 r = σ 278 r) (h9 : ∀ i, i < 40 → τ 279 (40 * r + i) = σ 279 (40 * r + i)) : RRow τ r := by
  unfold RRow at *
  rw [h0, h1, h7, h8]
  rcases h with ⟨g1, ln, sz, g2, g3, g4, g5, g6, g7, g8⟩ | h
  · exact Or.inl ⟨g1, ln, sz, g2, g3, g4, g5, g6, g7, fun i hi => (h9 i hi).trans (g8 i hi)⟩
  · exact Or.inr h
theorem KR.of {σ τ : PI} (h : ∀ c, c ≠ 252 → c ≠ 276 → ¬ rwc c → c ≠ 281 → τ c = σ c) (h2 : ∀ s, s ≠ 9 → τ 252 s = σ 252 s) (h6 : ∀ s, s ≠ 3 → τ 276 s = σ 276 s) : KR σ τ :=
  ⟨fun c hc => h c (by unfold oc at hc; omega) (by unfold oc at hc; omega) (by unfold oc at hc; unfold rwc; omega) (by unfold oc at hc; omega), h2 7 (by omega), h2 8 (by omega), by rw [h 257 (by omega) (by omega) (by unfold rwc; omega) (by omega)], ⟨h6 4 (by omega), h6 6 (by omega), h6 9 (by omega), h6 10 (by omega), h6 19 (by omega), h6 24 (by omega)⟩, fun j hj => by rw [h 280 (by omega) (by omega) (by unfold rwc; omega) (by omega)]⟩
theorem Rel.find {σ : PI} {v : Int32} (h : Rel σ) : Rel (up (up σ 252 9 v) 276 3 v) := by
  refine ⟨fun r hr => (h.1 r hr).k hr (fun c hc => by rw [up_ne (by unfold rwc at hc; omega), up_ne (by unfold rwc at hc; omega)]), ?_, h.2.2.k (KR.of (fun c h1 h2 _ _ => by rw [up_ne h2, up_ne h1]) (fun s hs => by rw [up_ne (by omega), up_k hs]) (fun s hs => by rw [up_k hs, up_ne (by omega)]))⟩
  rw [up_s, up_ne (by omega), up_s]
theorem up_252 {σ : PI} {v : Int32} {c s : Nat} (h : c ≠ 252) : up σ 252 9 v c s = σ c s := by rw [up_ne h]
section RW
variable {σ : PI}
theorem rc_ne {r r' j j' : Nat} (hj : j < 2) (hj' : j' < 2) (h : r ≠ r' ∨ j ≠ j') : rc r j ≠ rc r' j' := by unfold rc; omega
theorem C_make {r : Nat} {x y : Int32} {Q : PI → Prop} (h : ∀ τ, (∀ i, i < 40 → τ (rc r 1) i = nI 0) → τ (rc r 0) 1 = nI 1 → τ (rc r 0) 2 = x → τ (rc r 0) 3 = y → (∀ c, c ≠ rc r 0 → c ≠ rc r 1 → τ c = σ c) → Q τ) : wp_X2_make r x y σ Q := by
  unfold wp_X2_make w_X2_make_2
  have hne : rc r 1 ≠ rc r 0 := rc_ne (by omega) (by omega) (by omega)
  refine for_h3 40 (fun _ => x) (fun _ => y) (fun i => nI i) (fun i τ => (∀ j, j < i → τ (rc r 1) j = nI 0) ∧ (∀ c, c ≠ rc r 1 → τ c = σ c)) ?_ ?_ 0 _ (Nat.zero_le _) ⟨fun j hj => absurd hj (Nat.not_lt_zero j), fun _ _ => rfl⟩
  · rintro K τ ⟨g1, g2⟩
    show B_X2_make_2 r K Q x y (nI 40) τ
    unfold B_X2_make_2
    refine ⟨fun _ τ2 e2 τ3 e3 τ4 e4 => ?_, fun q => absurd (Int32.le_refl _) q⟩
    subst e2 e3 e4
    refine h _ (fun i hi => ?_) ?_ ?_ ?_ (fun c h0 h1 => ?_)
    · rw [up_ne hne, up_ne hne, up_ne hne]; exact g1 i hi
    · rw [up_k (by omega), up_k (by omega), up_s]
    · rw [up_k (by omega), up_s]
    · rw [up_s]
    · rw [up_ne h0, up_ne h0, up_ne h0]; exact g2 c h1
  · rintro K i τ hi ⟨g1, g2⟩ hK
    show B_X2_make_2 r K Q x y (nI i) τ
    unfold B_X2_make_2
    rw [nI_le' (by omega) (by omega), nI_cl (a := i) (by omega), nI_add]
    refine ⟨fun q => absurd q (by omega), fun _ => ⟨vpN (by omega) (by omega), fun υ e => hK υ ⟨fun j hj => ?_, fun c hc => by rw [e, up_ne hc]; exact g2 c hc⟩⟩⟩
    rw [e]
    by_cases q : j = i
    · subst q; rw [up_s]
    · rw [up_k q]; exact g1 j (by omega)
theorem eq_row {a0 a1 a2 : Int32} (h : Rel σ) : wp_X4_row a0 a1 a2 σ (fun r τ => wp_X5_row a0 a1 a2 τ (fun r' τ' => r = r' ∧ Rel τ')) := by
  unfold wp_X4_row
  by_cases hr0 : ¬ ∃ r, r < 8 ∧ a0 = nI r
  · exact C_rowF hr0 (z_t (M_rowF hr0 (z_t ⟨rfl, h⟩)))
  obtain ⟨r, hr, rfl⟩ := Classical.not_not.mp hr0
  refine C_rowT hr (o_t ?_)
  by_cases hl0 : ¬ ∃ a, 0 ≤ a ∧ a ≤ 2 ∧ a1 = nI a
  · exact C_wf (by omega) (by omega) hl0 (z_t (M_rowT hr (o_t (M_if (by omega) (by omega) hl0 (z_t ⟨rfl, h⟩)))))
  obtain ⟨ln, -, hl, rfl⟩ := Classical.not_not.mp hl0
  refine C_wt (by omega) (by omega) (by omega) (o_t ?_)
  refine ⟨fun q40 => ⟨fun q0 => ?_, fun q0 => ?_⟩, fun q40 => M_rowT hr (o_t (M_it (by omega) (by omega) (by omega) (o_t ⟨fun z => absurd z q40, fun _ => ⟨rfl, h⟩⟩)))⟩
  · obtain ⟨n, -, hn, rfl⟩ := nI_mid (x := a2) (lo := 0) (hi := 40) (by omega) (by omega) (fun z => by rw [Int32.lt_iff_toInt_lt] at z; rw [Int32.le_iff_toInt_le] at q0; omega) (fun z => by rw [Int32.lt_iff_toInt_lt] at z; rw [Int32.le_iff_toInt_le] at q40; omega)
    rw [nI_cl (a := r) (by omega)]
    refine ⟨vpN hr (by omega), C_make (fun τ f1 f2 f3 f4 f5 => fun τ1 e1 => ?_)⟩
    refine M_rowT hr (o_t (M_it (by omega) (by omega) (by omega) (o_t ⟨fun _ => ⟨fun _ => ⟨vpN hr (by omega), fun τ2 e2 => ⟨vpN hr (by omega), fun τ3 e3 => ?_⟩⟩, fun z => absurd q0 z⟩, fun z => absurd q40 z⟩)))
    unfold w_X5_row_55
    refine for_h3 40 (fun _ => nI r) (fun _ => nI n) (fun i => nI i) (fun i υ => (∀ c, c ≠ 279 → υ c = τ3 c) ∧ (∀ j, υ 279 j = if 40 * r ≤ j ∧ j < 40 * r + i then nI 0 else σ 279 j)) ?_ ?_ 0 _ (Nat.zero_le _) ⟨fun _ _ => rfl, fun j => ?_⟩
    · rintro K υ ⟨g1, g2⟩
      show B_X5_row_55 K _ (nI r) (nI n) (nI 40) υ
      unfold B_X5_row_55 wp_X5_well
      refine ⟨fun _ ω ew => ⟨rfl, ?_⟩, fun q => absurd (Int32.le_refl _) q⟩
      subst e1 e2 e3 ew
      have n0 := rc_hi (r := r) (j := 0)
      have n1 := rc_hi (r := r) (j := 1)
      have hb0 : rc r 0 < 276 := by unfold rc; omega
      have hb1 : rc r 1 < 276 := by unfold rc; omega
      refine ⟨fun r' hr' => ?_, ?_, h.2.2.k (KR.of (fun c h1 h2 h3 h4 => ?_) (fun s hs => ?_) (fun s hs => ?_))⟩
      · by_cases q : r' = r
        · subst q
          refine Or.inl ⟨?_, ln, n, hl, hn, ?_, ?_, ?_, ?_, fun i hi => ?_⟩
          · rw [up_ne (by omega), g1 _ (by omega), up_ne (by omega), up_ne (by omega), up_ne (by omega), f2]
          · rw [up_ne (by omega), g1 _ (by omega), up_ne (by omega), up_ne (by omega), up_ne (by omega), f3]
          · rw [up_ne (by omega), g1 _ (by omega), up_ne (by omega), nI_cl (a := r') (by omega), up_s]
          · rw [up_ne (by omega), g1 _ (by omega), up_ne (by omega), up_ne (by omega), up_ne (by omega), f4]
          · rw [up_ne (by omega), g1 _ (by omega), nI_cl (a := r') (by omega), up_s]
          · rw [up_ne (by omega), g2, if_pos (by omega), up_ne (by omega), g1 _ (by omega), up_ne (by omega), up_ne (by omega), up_ne (by omega), f1 i hi]
        · have m0 := rc_hi (r := r') (j := 0)
          have m1 := rc_hi (r := r') (j := 1)
          have mb0 : rc r' 0 < 276 := by unfold rc; omega
          have mb1 : rc r' 1 < 276 := by unfold rc; omega
          refine (h.1 r' hr').p ?_ ?_ ?_ ?_ (fun i hi => ?_)
          · rw [up_ne (by omega), g1 _ (by omega), up_ne (by omega), up_ne (by omega), up_ne (by omega), f5 _ (rc_ne (by omega) (by omega) (Or.inl q)) (rc_ne (by omega) (by omega) (Or.inl q))]
          · rw [up_ne (by omega), g1 _ (by omega), up_ne (by omega), up_ne (by omega), up_ne (by omega), f5 _ (rc_ne (by omega) (by omega) (Or.inl q)) (rc_ne (by omega) (by omega) (Or.inl q))]
          · rw [up_ne (by omega), g1 _ (by omega), up_ne (by omega), nI_cl (a := r) (by omega), up_k q, up_ne (by omega), f5 _ (by omega) (by omega)]
          · rw [up_ne (by omega), g1 _ (by omega), nI_cl (a := r) (by omega), up_k q, up_ne (by omega), up_ne (by omega), f5 _ (by omega) (by omega)]
          · rw [up_ne (by omega), g2, if_neg (by omega)]
      · rw [up_s, up_ne (by omega), g1 _ (by omega), up_ne (by omega), up_ne (by omega), up_s]
      · unfold rwc at h3
        rw [up_ne h2, g1 c (by omega), up_ne (by omega), up_ne (by omega), up_ne h1, f5 c (by omega) (by omega)]
      · rw [up_ne (by omega), g1 _ (by omega), up_ne (by omega), up_ne (by omega), up_k hs, f5 _ (by omega) (by omega)]
      · rw [up_k hs, g1 _ (by omega), up_ne (by omega), up_ne (by omega), up_ne (by omega), f5 _ (by omega) (by omega)]
    · rintro K i υ hi ⟨g1, g2⟩ hK
      show B_X5_row_55 K _ (nI r) (nI n) (nI i) υ
      unfold B_X5_row_55
      rw [nI_le' (by omega) (by omega), pk_mul, nI_add, nI_cl (a := 40 * r + i) (by omega), nI_add]
      refine ⟨fun q => absurd q (by omega), fun _ => ⟨vpN (by omega) (by omega), fun ω e => hK ω ⟨fun c hc => by rw [e, up_ne hc]; exact g1 c hc, fun j => ?_⟩⟩⟩
      rw [e]
      by_cases q : j = 40 * r + i
      · subst q; rw [up_s, if_pos (by omega)]
      · rw [up_k q, g2]
        by_cases q2 : 40 * r ≤ j ∧ j < 40 * r + i
        · rw [if_pos q2, if_pos (by omega)]
        · rw [if_neg q2, if_neg (by omega)]
    · have n0 := rc_hi (r := r) (j := 0)
      have hb0 : rc r 1 < 276 := by unfold rc; omega
      have hb1 : rc r 0 < 276 := by unfold rc; omega
      rw [if_neg (by omega), e3, up_ne (by omega), e2, up_ne (by omega), e1, up_ne (by omega), f5 _ (by omega) (by omega)]
  · intro τ1 e1
    refine M_rowT hr (o_t (M_it (by omega) (by omega) (by omega) (o_t ⟨fun _ => ⟨fun z => absurd z q0, fun _ τ2 e2 => ⟨rfl, ?_⟩⟩, fun z => absurd q40 z⟩)))
    rw [e2, e1]
    exact h.find
theorem eq_drop {a0 : Int32} (h : Rel σ) : wp_X4_drop a0 σ (fun r τ => wp_X5_drop a0 τ (fun r' τ' => r = r' ∧ Rel τ')) := by
  unfold wp_X4_drop
  by_cases hr0 : ¬ ∃ r, r < 8 ∧ a0 = nI r
  · exact C_rowF hr0 (z_t' (M_rowF hr0 (z_t' ⟨rfl, h⟩)))
  obtain ⟨r, hr, rfl⟩ := Classical.not_not.mp hr0
  refine C_rowT hr (o_t' ?_)
  have hv : vp_in (nI r) 8 := vpN hr (by omega)
  have n0 := rc_hi (r := r) (j := 0)
  have hb0 : rc r 0 < 276 := by unfold rc; omega
  rw [nI_cl (a := r) (by omega)]
  rcases h.1 r hr with ⟨g1, ln, sz, g2, g3, g4, g5, g6, g7, g8⟩ | ⟨g1, g2⟩
  · rw [g1]
    refine ⟨hv, fun _ => ⟨hv, fun τ1 e1 => ⟨hv, fun τ2 e2 => ?_⟩⟩, fun q => absurd q b_ne⟩
    refine M_rowT hr (o_t' ?_)
    have e8 : τ2 278 r = nI sz := by rw [e2, up_ne (by omega), e1, up_ne (by omega), g7]
    rw [nI_cl (a := r) (by omega), e8, nI_le' (by omega) (by omega)]
    refine ⟨hv, fun _ => ⟨hv, fun x ex => ⟨hv, fun τ3 e3 τ4 e4 => ⟨?_, ?_⟩⟩⟩, fun q => absurd (Nat.zero_le _) q⟩
    · rw [ex, e1, up_k (by omega), g6]
    · subst e1 e2 e3 e4
      refine ⟨fun r' hr' => ?_, ?_, h.2.2.k (KR.of (fun c h1 h2 h3 h4 => ?_) (fun s hs => ?_) (fun s hs => ?_))⟩
      · have m0 := rc_hi (r := r') (j := 0)
        have m1 := rc_hi (r := r') (j := 1)
        have mb0 : rc r' 0 < 276 := by unfold rc; omega
        have mb1 : rc r' 1 < 276 := by unfold rc; omega
        by_cases q : r' = r
        · subst q
          refine Or.inr ⟨?_, ?_⟩
          · rw [up_ne (by omega), up_ne (by omega), up_ne (by omega), up_s]
          · rw [up_ne (by omega), up_s]
        · refine (h.1 r' hr').p ?_ ?_ ?_ ?_ (fun i hi => ?_)
          · rw [up_ne (by omega), up_ne (by omega), up_ne (by omega), up_ne (rc_ne (by omega) (by omega) (Or.inl q))]
          · rw [up_ne (by omega), up_ne (by omega), up_ne (by omega), up_ne (rc_ne (by omega) (by omega) (Or.inl q))]
          · rw [up_ne (by omega), up_ne (by omega), up_ne (by omega), up_ne (by omega)]
          · rw [up_ne (by omega), up_k q, up_ne (by omega), up_ne (by omega)]
          · rw [up_ne (by omega), up_ne (by omega), up_ne (by omega), up_ne (by omega)]
      · rw [up_s, up_ne (by omega), up_ne (by omega), up_s]
      · unfold rwc at h3
        rw [up_ne h2, up_ne (by omega), up_ne h1, up_ne (by omega)]
      · rw [up_ne (by omega), up_ne (by omega), up_k hs, up_ne (by omega)]
      · rw [up_k hs, up_ne (by omega), up_ne (by omega), up_ne (by omega)]
  · rw [g1]
    refine ⟨hv, fun q => absurd rfl q, fun _ τ1 e1 => M_rowT hr (o_t' ?_)⟩
    rw [nI_cl (a := r) (by omega), e1, up_252 (by omega), g2]
    refine ⟨hv, fun q => absurd q (by decide), fun _ τ2 e2 => ⟨rfl, ?_⟩⟩
    rw [e2]
    exact h.find
theorem eq_fault (h : Rel σ) : wp_X4_fault σ (fun r τ => wp_X5_fault τ (fun r' τ' => r = r' ∧ Rel τ')) := by
  unfold wp_X4_fault wp_X5_fault
  exact ⟨h.2.2.1, h⟩
theorem eq_status (h : Rel σ) : wp_X4_status σ (fun r τ => wp_X5_status τ (fun r' τ' => r = r' ∧ Rel τ')) := by
  unfold wp_X4_status wp_X5_status
  exact ⟨h.2.1, h⟩
theorem eq_feed {a0 : Int32} (h : Rel σ) : wp_X4_feed a0 σ (fun r τ => wp_X5_feed a0 τ (fun r' τ' => r = r' ∧ Rel τ')) := by
  unfold wp_X4_feed
  by_cases hb0 : ¬ ∃ a, 0 ≤ a ∧ a ≤ 255 ∧ a0 = nI a
  · exact C_wf (by omega) (by omega) hb0 (z_t' (M_if (by omega) (by omega) hb0 (z_t' ⟨rfl, h⟩)))
  obtain ⟨b, -, hb, rfl⟩ := Classical.not_not.mp hb0
  obtain ⟨h1, h2, h3, ⟨n, hn, e1, e2, e3⟩, h4⟩ := id h
  refine C_wt (by omega) (by omega) (by omega) (o_t' ?_)
  unfold wp_X1_add
  rw [e1, nI_lt' (by omega) (by omega), nI_cl (a := n) (by omega)]
  by_cases hf : n < 120
  · refine ⟨fun _ => ⟨vpN hf (by omega), fun τ1 f1 τ2 f2 => o_t ?_⟩, fun q => absurd hf q⟩
    refine M_it (by omega) (by omega) (by omega) (o_t' ?_)
    have g9 : τ2 276 9 = nI n := by rw [f2, up_ne (by omega), f1, up_ne (by omega), e2]
    have g1 : τ2 257 1 = nI (n + 1) := by rw [f2, up_s, f1, up_ne (by omega), e1, nI_add]
    rw [g9, nI_inj (by omega) (by omega), nI_cl (a := n) (by omega), g1]
    refine ⟨fun _ => ⟨vpN hf (by omega), fun τ3 f3 τ4 f4 => ⟨?_, ?_⟩⟩, fun q => absurd q (by omega)⟩
    · rw [f4, up_s, f3, up_ne (by omega), g9, nI_add]
    · have e276 : ∀ s, s ≠ 9 → τ4 276 s = σ 276 s := fun s hs => by rw [f4, up_k hs, f3, up_ne (by omega), f2, up_ne (by omega), f1, up_ne (by omega)]
      have ec : ∀ c, c ≠ 257 → c ≠ 258 → c ≠ 276 → c ≠ 282 → τ4 c = σ c := fun c q1 q2 q3 q4 => by rw [f4, up_ne q3, f3, up_ne q4, f2, up_ne q1, f1, up_ne q2]
      have e257 : τ4 257 1 = nI (n + 1) := by rw [f4, up_ne (by omega), f3, up_ne (by omega), g1]
      obtain ⟨h5, ⟨t, h6⟩, ⟨m, A, j1, ⟨o, j2, j3, j4, j7⟩, ⟨j5, j8⟩, j6, j9⟩, h8⟩ := h4
      refine ⟨fun r hr => (h1 r hr).k hr (fun c hc => ec c (by unfold rwc at hc; omega) (by unfold rwc at hc; omega) (by unfold rwc at hc; omega) (by unfold rwc at hc; omega)), by rw [ec 252 (by omega) (by omega) (by omega) (by omega), e276 3 (by omega)]; exact h2, ?_, ?_, ?_, ⟨t, ?_⟩, ?_, ?_⟩
      · rw [ec 252 (by omega) (by omega) (by omega) (by omega), e276 10 (by omega)]; exact h3
      · refine ⟨n + 1, by omega, e257, by rw [f4, up_s, f3, up_ne (by omega), g9, nI_add], fun i hi => ?_⟩
        by_cases q : i = n
        · subst q
          refine ⟨b, by omega, ?_, ?_⟩
          · rw [f4, up_ne (by omega), f3, up_ne (by omega), f2, up_ne (by omega), f1, up_s]
          · rw [f4, up_ne (by omega), f3, up_s]
        · obtain ⟨b', k1, k2, k3⟩ := e3 i (by omega)
          refine ⟨b', k1, ?_, ?_⟩
          · rw [f4, up_ne (by omega), f3, up_ne (by omega), f2, up_ne (by omega), f1, up_k q, k2]
          · rw [f4, up_ne (by omega), f3, up_k q, f2, up_ne (by omega), f1, up_ne (by omega), k3]
      · unfold RTr at h5 ⊢
        rw [ec 252 (by omega) (by omega) (by omega) (by omega), e276 24 (by omega), ec 259 (by omega) (by omega) (by omega) (by omega), ec 288 (by omega) (by omega) (by omega) (by omega)]
        exact h5
      · obtain ⟨k1, k2, k3, k4, k5⟩ := h6
        exact ⟨k1.cells (fun j hj => ec _ (by unfold tc; omega) (by unfold tc; omega) (by unfold tc; omega) (by unfold tc; omega)), by rw [ec 280 (by omega) (by omega) (by omega) (by omega)]; exact k2, by rw [ec _ (by unfold tc; omega) (by unfold tc; omega) (by unfold tc; omega) (by unfold tc; omega)]; exact k3, by rw [e276 6 (by omega)]; exact k4, by rw [e276 4 (by omega)]; exact k5⟩
      · refine ⟨m, A, j1, ⟨o, j2, by rw [ec 256 (by omega) (by omega) (by omega) (by omega)]; exact j3, by rw [ec 256 (by omega) (by omega) (by omega) (by omega)]; exact j4, fun j hj => ⟨(j7 j hj).1.cells (fun i hi => ec _ (by unfold tc; omega) (by unfold tc; omega) (by unfold tc; omega) (by unfold tc; omega)), by rw [ec _ (by unfold tc; omega) (by unfold tc; omega) (by unfold tc; omega) (by unfold tc; omega)]; exact (j7 j hj).2⟩⟩, ⟨by rw [e276 19 (by omega)]; exact j5, fun j hj => by rw [ec 284 (by omega) (by omega) (by omega) (by omega)]; exact j8 j hj⟩, by rw [e276 4 (by omega)]; exact j6, j9⟩
      · intro k hk
        rw [ec 286 (by omega) (by omega) (by omega) (by omega), e276 4 (by omega), ec (tc (2 + k) 0) (by unfold tc; omega) (by unfold tc; omega) (by unfold tc; omega) (by unfold tc; omega)]
        rcases h8 k hk with ⟨k1, k2, t, k3, k4, k5, k6⟩ | k1
        · exact Or.inl ⟨k1, k2, t, k3, k4.cells (fun i hi => ec _ (by unfold tc; omega) (by unfold tc; omega) (by unfold tc; omega) (by unfold tc; omega)), k5, by rw [ec 287 (by omega) (by omega) (by omega) (by omega)]; exact k6⟩
        · exact Or.inr k1
  · refine ⟨fun q => absurd q hf, fun _ => z_t (M_it (by omega) (by omega) (by omega) (o_t' ?_))⟩
    rw [e2, nI_inj (by omega) (by omega)]
    exact ⟨fun q => absurd (show n = 120 by omega) q, fun _ => ⟨rfl, h⟩⟩
end RW
