/-! ===== town ===== -/
section TN
variable {σ τ υ : PI} {t : Nat → Nat}
theorem Rel.bad {χ : PI} (h : Rel σ) (hc : ∀ c, c ≠ 252 → c ≠ 257 → c ≠ 276 → c ≠ 283 → (∀ j, j < 9 → c ≠ tc 1 j) → χ c = σ c) (h2 : ∀ s, s ≠ 8 → χ 252 s = σ 252 s) (h6 : ∀ s, s < 9 ∨ 16 ≤ s → χ 276 s = σ 276 s) (z1 : χ 257 1 = nI 0) (z9 : χ 276 9 = nI 0) (e8 : χ 252 8 = χ 276 10) : Rel χ := by
  obtain ⟨h1, hh2, h3, h4, h5, ⟨t, k1, k2, k3, k4, k5⟩, ⟨m, A, j1, ⟨o, j2, j3, j4, j7⟩, ⟨j5, j8⟩, j6, j9⟩, h8⟩ := h
  have ec : ∀ c, (c < 9 ∨ (18 ≤ c ∧ c < 252)) ∨ (c = 256 ∨ c = 259 ∨ (260 ≤ c ∧ c < 276) ∨ c = 277 ∨ c = 278 ∨ c = 279 ∨ c = 280 ∨ c = 284 ∨ c = 286 ∨ c = 287 ∨ c = 288) → χ c = σ c := fun c q => hc c (by omega) (by omega) (by omega) (by omega) (fun j hj => by unfold tc; omega)
  refine ⟨fun r hr => (h1 r hr).k hr (fun c hcc => ec c (by unfold rwc at hcc; omega)), by rw [h2 9 (by omega), h6 3 (by omega)]; exact hh2, e8, ⟨0, by omega, z1, z9, fun i hi => by omega⟩, ?_, ⟨t, ?_⟩, ?_, ?_⟩
  · unfold RTr at h5 ⊢
    rw [h2 7 (by omega), h6 24 (by omega), ec 259 (by omega), ec 288 (by omega)]
    exact h5
  · exact ⟨k1.cells (fun j hj => ec _ (by unfold tc; omega)), by rw [ec 280 (by omega)]; exact k2, by rw [ec _ (by unfold tc; omega)]; exact k3, by rw [h6 6 (by omega)]; exact k4, by rw [h6 4 (by omega)]; exact k5⟩
  · refine ⟨m, A, j1, ⟨o, j2, by rw [ec 256 (by omega)]; exact j3, by rw [ec 256 (by omega)]; exact j4, fun j hj => ⟨(j7 j hj).1.cells (fun i hi => ec _ (by unfold tc; omega)), by rw [ec _ (by unfold tc; omega)]; exact (j7 j hj).2⟩⟩, ⟨by rw [h6 19 (by omega)]; exact j5, fun j hj => by rw [ec 284 (by omega)]; exact j8 j hj⟩, by rw [h6 4 (by omega)]; exact j6, j9⟩
  · intro k hk
    rw [ec 286 (by omega), h6 4 (by omega), ec (tc (2 + k) 0) (by unfold tc; omega)]
    rcases h8 k hk with ⟨k1, k2, t, k3, k4, k5, k6⟩ | k1
    · exact Or.inl ⟨k1, k2, t, k3, k4.cells (fun i hi => ec _ (by unfold tc; omega)), k5, by rw [ec 287 (by omega)]; exact k6⟩
    · exact Or.inr k1
theorem Rel.good {χ : PI} (h : Rel σ) (hc : ∀ c, c ≠ 256 → c ≠ 257 → c ≠ 276 → c ≠ 280 → c ≠ 283 → (∀ j, j < 9 → c ≠ tc 1 j) → (∀ j, j < 9 → c ≠ tc 0 j) → χ c = σ c) (h5 : χ 256 1 = σ 256 1) (z2 : χ 256 2 = nI 0) (h6 : ∀ s, s ≠ 4 → s ≠ 9 → s ≠ 19 → s < 11 ∨ 16 ≤ s → χ 276 s = σ 276 s) (z1 : χ 257 1 = nI 0) (z9 : χ 276 9 = nI 0) (o4 : χ 276 4 = nI 1) (z19 : χ 276 19 = nI 0) (hA : TA χ 0 t) (hM : MA (χ 280) t) (h14 : χ (tc 0 0) 14 = nI 0) (hI : Iv 999 t) : Rel χ := by
  obtain ⟨h1, hh2, h3, h4, h5', ⟨t0, k1, k2, k3, k4, k5⟩, ⟨m, A, j1, ⟨o, j2, j3, j4, j7⟩, ⟨j5, j8⟩, j6, j9⟩, h8⟩ := h
  have ec : ∀ c, (18 ≤ c ∧ c < 252) ∨ (c = 252 ∨ c = 259 ∨ (260 ≤ c ∧ c < 276) ∨ c = 277 ∨ c = 278 ∨ c = 279 ∨ c = 284 ∨ c = 286 ∨ c = 287 ∨ c = 288) → χ c = σ c := fun c q => hc c (by omega) (by omega) (by omega) (by omega) (by omega) (fun j hj => by unfold tc; omega) (fun j hj => by unfold tc; omega)
  refine ⟨fun r hr => (h1 r hr).k hr (fun c hcc => ec c (by unfold rwc at hcc; omega)), by rw [ec 252 (by omega), h6 3 (by omega) (by omega) (by omega) (by omega)]; exact hh2, by rw [ec 252 (by omega), h6 10 (by omega) (by omega) (by omega) (by omega)]; exact h3, ⟨0, by omega, z1, z9, fun i hi => by omega⟩, ?_, ⟨t, hA, hM, h14, by rw [h6 6 (by omega) (by omega) (by omega) (by omega)]; exact k4, Or.inl ⟨o4, hI⟩⟩, ⟨0, A, by omega, ⟨o, j2, by rw [h5]; exact j3, z2, fun j hj => by omega⟩, ⟨z19, fun j hj => by omega⟩, fun hz => by omega, fun j hj => by omega⟩, ?_⟩
  · unfold RTr at h5' ⊢
    rw [ec 252 (by omega), h6 24 (by omega) (by omega) (by omega) (by omega), ec 259 (by omega), ec 288 (by omega)]
    exact h5'
  · intro k hk
    rw [ec 286 (by omega), o4, ec (tc (2 + k) 0) (by unfold tc; omega)]
    rcases h8 k hk with ⟨k1, k2, t, k3, k4, k5, k6⟩ | k1
    · exact Or.inl ⟨k1, rfl, t, k3, k4.cells (fun i hi => ec _ (by unfold tc; omega)), k5, by rw [ec 287 (by omega)]; exact k6⟩
    · exact Or.inr k1
theorem eq_town (h : Rel σ) : wp_X4_town σ (fun r τ => wp_X5_town τ (fun r' τ' => r = r' ∧ Rel τ')) := by
  unfold wp_X4_town
  obtain ⟨n, hn, e1, e9, e3⟩ := h.2.2.2.1
  obtain ⟨b, hb⟩ : ∃ b : Nat → Nat, ∀ i, i < n → b i < 256 ∧ σ 258 i = nI (b i) ∧ σ 282 i = nI (b i) := by
    refine ⟨fun i => if hi : i < n then (e3 i hi).choose else 0, fun i hi => ?_⟩
    simp only [hi, dif_pos]
    exact (e3 i hi).choose_spec
  refine C_read (b := b) hn e1 (fun i hi => ⟨(hb i hi).1, (hb i hi).2.1⟩) (fun f q e υ u1 u2 u3 => z_t' (fun τ6 f6 => ?_)) (fun q t e hI υ u1 u2 u3 u4 => o_t' ?_)
  · have c6 : ∀ c, c ≠ 252 → τ6 c = υ c := fun c hc => by rw [f6, up_ne hc]
    have s276 : τ6 276 = σ 276 := by rw [c6 _ (by omega), u1 _ (by omega) (fun j hj => by unfold tc; omega)]
    have s282 : τ6 282 = σ 282 := by rw [c6 _ (by omega), u1 _ (by omega) (fun j hj => by unfold tc; omega)]
    have e3' : τ6 257 3 = nI q := by rw [c6 _ (by omega), u3.2]
    rw [e3']
    unfold wp_X5_town
    refine M_read (b := b) hn (by rw [s276, e9]) (fun i hi => ⟨(hb i hi).1, by rw [s282]; exact (hb i hi).2.2⟩) (fun f' q' e' ω w1 w2 w3 τ3 f3 => z_t' (fun τ5 f5 => ?_)) (fun q' t' e' => absurd (e.symm.trans e') (by intro z; injection z))
    have efq : f = f' ∧ q = q' := by
      have := e.symm.trans e'
      injection this with h1
      injection h1 with h2 h3
      exact ⟨h2, h3⟩
    obtain ⟨rfl, rfl⟩ := efq
    have c5 : ∀ c, c ≠ 276 → τ5 c = ω c := fun c hc => by rw [f5, up_ne hc, f3, up_ne hc]
    refine ⟨?_, h.bad (fun c c1 c2 c3 c4 c5' => ?_) (fun s hs => ?_) (fun s hs => ?_) ?_ ?_ ?_⟩
    · rw [f5, up_k (by omega), f3, up_k (by omega), w3]
    · rw [c5 c c3, w1.1 c c3 c4, c6 c c1, u1 c c2 c5']
    · rw [c5 _ (by omega), w1.1 _ (by omega) (by omega), f6, up_k hs, u1 _ (by omega) (fun j hj => by unfold tc; omega)]
    · rw [f5, up_k (by omega), f3, up_k (by omega), w1.2 s (by omega), s276]
    · rw [c5 _ (by omega), w1.1 _ (by omega) (by omega), c6 _ (by omega), u2]
    · rw [f5, up_k (by omega), f3, up_s]
    · rw [c5 _ (by omega), w1.1 _ (by omega) (by omega), f6, up_s, u3.1, f5, up_s, f3, up_k (by omega), w2]
  · obtain ⟨i1, i2, i3, i4, i5, i6, i7, i8, i9⟩ := hI.1.b
    refine T_copy (by omega) (fun τ4 hcp τ5 f5 => ?_)
    have hA4 : TA τ4 0 t := hcp.ta u3 i2 i4
    have h14 : τ4 (tc 0 0) 14 = nI 0 := by rw [hcp.1 14 (by omega) (by omega)]; exact u4
    have fr := hcp.2.2.2.2
    have c5 : ∀ c, c ≠ 256 → τ5 c = τ4 c := fun c hc => by rw [f5, up_ne hc]
    have hA5 : TA τ5 0 t := hA4.cells (fun j hj => c5 _ (by unfold tc; omega))
    have hi : ∀ c, 252 ≤ c → c ≠ 256 → c ≠ 257 → τ5 c = σ c := fun c c1 c2 c3 => by rw [c5 c c2, fr.hi (by omega) c1, u1 c c3 (fun j hj => by unfold tc; omega)]
    have s276 : τ5 276 = σ 276 := hi _ (by omega) (by omega) (by omega)
    have s282 : τ5 282 = σ 282 := hi _ (by omega) (by omega) (by omega)
    dsimp only
    rw [hA5.1.2.1]
    unfold wp_X5_town
    refine M_read (b := b) hn (by rw [s276, e9]) (fun i hi => ⟨(hb i hi).1, by rw [s282]; exact (hb i hi).2.2⟩) (fun f' q' e' => absurd (e.symm.trans e') (by intro z; injection z)) (fun q' t' e' ω w1 w2 τ3 f3 => o_t' ?_)
    have et : t = t' := by
      have := e.symm.trans e'
      injection this with h1
      injection h1 with h2 h3
    subst et
    have c3 : ∀ c, c ≠ 276 → τ3 c = ω c := fun c hc => by rw [f3, up_ne hc]
    unfold w_X5_town_32
    refine for_up (α := Int32 × PI) 70 (fun i s => ∃ ψ, s = (nI i, ψ) ∧ (∀ c, c ≠ 280 → ψ c = τ3 c) ∧ ∀ j, j < i → ψ 280 j = nI (t j)) ?_ ?_ 0 _ (by omega) ⟨τ3, rfl, fun _ _ => rfl, fun j hj => by omega⟩
    · rintro K s ⟨ψ, rfl, g1, g2⟩
      show B_X5_town_32 K _ (nI 70) ψ
      unfold B_X5_town_32
      refine ⟨fun _ τ7 f7 τ8 f8 => ?_, fun z => absurd (Int32.le_refl _) z⟩
      have c8 : ∀ c, c ≠ 276 → τ8 c = ψ c := fun c hc => by rw [f8, up_ne hc, f7, up_ne hc]
      have s8 : ∀ s, s ≠ 4 → s ≠ 19 → s ≠ 9 → τ8 276 s = ω 276 s := fun s s1 s2 s3 => by rw [f8, up_k s2, f7, up_k s1, g1 _ (by omega), f3, up_k s3]
      have all : ∀ c, c ≠ 276 → c ≠ 280 → c ≠ 283 → τ8 c = τ5 c := fun c c1 c2 c4 => by rw [c8 c c1, g1 c c2, c3 c c1, w1.1 c c1 c4]
      refine ⟨by rw [c8 _ (by omega), g2 3 (by omega)], h.good (t := t) (fun c d1 d2 d3 d4 d5 d6 d7 => ?_) ?_ ?_ (fun s s1 s2 s3 s4 => ?_) ?_ ?_ ?_ ?_ (hA5.cells (fun j hj => all _ (by unfold tc; omega) (by unfold tc; omega) (by unfold tc; omega))) (fun j hj => by rw [c8 _ (by omega)]; exact g2 j hj) ?_ hI⟩
      · rw [all c d3 d4 d5, c5 c d1, fr c d7, u1 c d2 d6]
      · rw [all _ (by omega) (by omega) (by omega), f5, up_k (by omega), fr.hi (by omega) (by omega), u1 _ (by omega) (fun j hj => by unfold tc; omega)]
      · rw [all _ (by omega) (by omega) (by omega), f5, up_s]
      · rw [s8 s s1 s3 s2, w1.2 s s4, s276]
      · rw [all _ (by omega) (by omega) (by omega), c5 _ (by omega), fr.hi (by omega) (by omega), u2]
      · rw [f8, up_k (by omega), f7, up_k (by omega), g1 _ (by omega), f3, up_s]
      · rw [f8, up_k (by omega), f7, up_s]
      · rw [f8, up_s]
      · rw [all _ (by unfold tc; omega) (by unfold tc; omega) (by unfold tc; omega), c5 _ (by unfold tc; omega)]; exact h14
    · rintro K i s hi70 ⟨ψ, rfl, g1, g2⟩ hK
      show B_X5_town_32 K _ (nI i) ψ
      unfold B_X5_town_32
      rw [nI_le' (by omega) (by omega), nI_cl (a := i) (by omega), nI_add, g1 283 (by omega), c3 283 (by omega), w2 i hi70]
      refine ⟨fun z => absurd z (by omega), fun _ => ⟨vpN (by omega) (by omega), vpN (by omega) (by omega), fun τ8 e8 => hK _ ⟨τ8, rfl, fun c hc => by rw [e8, up_ne hc]; exact g1 c hc, fun j hj => ?_⟩⟩⟩
      rw [e8]
      by_cases z : j = i
      · subst z; rw [up_s]
      · rw [up_k z]; exact g2 j (by omega)
end TN
