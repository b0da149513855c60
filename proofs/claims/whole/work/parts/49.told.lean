/-! ===== told rows ===== -/
section TO
variable {σ τ υ : PI} {t : Nat → Nat}
/-- the row tells what man m will feel behind each of n days -/
def ft (t : Nat → Nat) (hb : Nat → Bool) (m : Nat) (row : Nat → Int32) (i : Nat) : Nat → Bool
  | 0 => true
  | n + 1 => ft t hb m row i n && decide (row (i + n) = nI (dys t hb (n + 1) (6 + m)))
theorem ft_no {hb : Nat → Bool} {m : Nat} {row : Nat → Int32} {i : Nat} : ∀ (d n : Nat), ft t hb m row i d = false → ft t hb m row i (d + n) = false
  | d, 0, h => h
  | d, n + 1, h => by
    show (ft t hb m row i (d + n) && _) = false
    rw [ft_no d n h]; rfl
theorem T_fits {N r m i n : Nat} {hb : Nat → Bool} {Q : Int32 → PI → Prop} (hA : TA υ 1 t) (hI : Iv N t) (hx : HB (υ (tc 1 0) 14) hb) (hN : N + n ≤ 3000) (hr : r < 8) (hm : m < t 2) (hi : i + n ≤ 40) (h : ∀ ω, Fr 1 υ ω → Q (if ft t hb m (υ (rc r 1)) i n then nI 1 else nI 0) ω) : wp_X4_trialFits r (nI m) (nI i) (nI n) υ Q := by
  have h5 := hI.1.2.1
  unfold wp_X4_trialFits w_X4_trialFits_3
  refine for_up (α := Int32 × Int32 × Int32 × Int32 × PI) n (fun d s => ∃ ω, s = (nI m, nI i, nI n, nI d, ω) ∧ TA ω 1 (dys t hb d) ∧ ω (tc 1 0) 14 = υ (tc 1 0) 14 ∧ Fr 1 υ ω ∧ ft t hb m (υ (rc r 1)) i d = true) ?_ ?_ 0 _ (by omega) ⟨υ, rfl, hA, rfl, Fr.rf, rfl⟩
  · rintro K s ⟨ω, rfl, g1, g2, g3, g4⟩
    show B_X4_trialFits_3 r K Q (nI m) (nI i) (nI n) (nI n) ω
    unfold B_X4_trialFits_3
    have := h ω g3
    rw [if_pos g4] at this
    exact ⟨fun _ => this, fun z => absurd (Int32.le_refl _) z⟩
  · rintro K d s hd ⟨ω, rfl, g1, g2, g3, g4⟩ hK
    show B_X4_trialFits_3 r K Q (nI m) (nI i) (nI n) (nI d) ω
    unfold B_X4_trialFits_3
    rw [nI_le' (by omega) (by omega), nI_add d 1, nI_add i d, nI_cl (a := m) (by omega), nI_cl (a := i + d) (by omega)]
    refine ⟨fun z => absurd z (by omega), fun _ => T_passDay g1 (dys_iv hI d (by omega)) (by rw [g2]; exact hx) (fun χ x1 x2 x3 => ⟨vpN (by omega) (by omega), vpN (by omega) (by omega), ?_⟩)⟩
    have hf := g3.tr x3
    have e1 : χ (tc 1 1) m = nI (dys t hb (d + 1) (6 + m)) := (x1.2.1 m (by rw [dy_2, dys_2]; exact hm)).1
    have e2 : χ (rc r 1) = υ (rc r 1) := hf.hi (by omega) (by unfold rc; omega)
    rw [e1, e2]
    refine ⟨fun q => hK _ ⟨χ, rfl, x1, x2.trans g2, hf, ?_⟩, fun q => ?_⟩
    · rw [ft, g4, q]; simp
    · have := h χ hf
      rw [if_neg] at this
      · exact this
      · intro z
        have nf : ft t hb m (υ (rc r 1)) i (d + 1) = false := by
          rw [ft, g4]
          simp only [Bool.true_and, decide_eq_false_iff_not]
          exact fun w => q w.symm
        have := ft_no (d + 1) (n - (d + 1)) nf
        rw [show d + 1 + (n - (d + 1)) = n by omega, z] at this
        cases this
theorem M_isSo {N r m i n : Nat} {hb : Nat → Bool} {row : Nat → Int32} {Q : Int32 → PI → Prop} (hz : MZ υ τ) (hA : MA (τ 280) t) (hI : Iv N t) (hx : HB (τ 276 6) hb) (hN : N + n ≤ 3000) (hr : r < 8) (hm : m < t 2) (hi : i + n ≤ 40) (hrow : ∀ j, j < 40 → υ 279 (40 * r + j) = row j) (h : ∀ ω, MZ υ ω → ω 276 6 = τ 276 6 → (∀ j, j < 70 → ω 280 j = υ 280 j) → Q (if ft t hb m row i n then nI 1 else nI 0) ω) : wp_X5_isSo (nI m) (nI 40 * nI r + nI i) (nI n) τ Q := by
  have h5 := hI.1.2.1
  rw [pk_mul, nI_add]
  unfold wp_X5_isSo w_X5_isSo_6
  refine for_up (α := Int32 × Int32 × Int32 × Int32 × Int32 × PI) n (fun d s => ∃ ω, s = (nI m, nI (40 * r + i), nI n, (if ft t hb m row i d then nI 1 else nI 0), nI d, ω) ∧ MA (ω 280) (dys t hb d) ∧ ω 276 6 = τ 276 6 ∧ MZ υ ω) ?_ ?_ 0 _ (by omega) ⟨τ, rfl, hA, rfl, hz⟩
  · rintro K s ⟨ω, rfl, g1, g2, g3⟩
    show B_X5_isSo_6 K Q (nI m) (nI (40 * r + i)) (nI n) (if ft t hb m row i n then nI 1 else nI 0) (nI n) ω
    unfold B_X5_isSo_6
    refine ⟨fun _ => M_back g3 (fun χ x1 x2 x3 => ⟨?_, h χ x1 (by rw [x2]; exact g2) x3⟩), fun z => absurd (Int32.le_refl _) z⟩
    split
    · exact bz1
    · exact bz0
  · rintro K d s hd ⟨ω, rfl, g1, g2, g3⟩ hK
    show B_X5_isSo_6 K Q (nI m) (nI (40 * r + i)) (nI n) (if ft t hb m row i d then nI 1 else nI 0) (nI d) ω
    unfold B_X5_isSo_6 w_X5_isSo_46 w_X5_isSo_47
    rw [nI_le' (by omega) (by omega), nI_add d 1, nI_add (40 * r + i) d, nI_cl (a := 40 * r + i + d) (by omega), nI_add 6 m, nI_cl (a := 6 + m) (by omega)]
    refine ⟨fun z => absurd z (by omega), fun _ => M_oneDay g1 (dys_iv hI d (by omega)) (by rw [g2]; exact hx) (fun χ x1 x2 x3 => ?_)⟩
    have nx : ∀ y : Int32, y = (if ft t hb m row i (d + 1) then nI 1 else nI 0) → K (nI m, nI (40 * r + i), nI n, y, nI (d + 1), χ) := fun y e => hK _ ⟨χ, by rw [e], x1, by rw [x3.2 6 (by omega)]; exact g2, g3.fm x3⟩
    have e2 : χ 279 (40 * r + i + d) = row (i + d) := by rw [x3.1 279 (by omega) (by omega), g3.1 279 (by omega) (by omega) (by omega), show 40 * r + i + d = 40 * r + (i + d) by omega, hrow _ (by omega)]
    rw [e2, x1 _ (by omega)]
    cases hft : ft t hb m row i d
    · refine z_t (nx _ ?_)
      rw [ft, hft]; rfl
    · refine o_t ⟨vpN (by omega) (by omega), vpN (by omega) (by omega), fun q => nx _ ?_, fun q => nx _ ?_⟩
      · rw [ft, hft, if_neg]; simp only [Bool.true_and, decide_eq_true_eq]; exact q
      · rw [ft, hft, if_pos]; simp only [Bool.true_and, decide_eq_true_eq]; exact q
/-- what a told row is refused for, on both sides -/
theorem told (h : Rel σ) (ht : RTn σ t) (a0 a1 a2 a3 : Int32) :
    ((∀ Q : Int32 → PI → Prop, Q (-1000001) σ → wp_X4_refusalOfTold a0 a1 a2 a3 σ Q) ∧ (∀ Q : Int32 → PI → Prop, Q (-1000001) σ → wp_X5_lacksAsk a0 a1 a2 a3 σ Q)) ∨
    (∃ v, v < 3 ∧ (∀ Q : Int32 → PI → Prop, Q ((-1000010) - nI v) (up σ 252 9 (nI v)) → wp_X4_refusalOfTold a0 a1 a2 a3 σ Q) ∧ (∀ Q : Int32 → PI → Prop, Q ((-1000010) - nI v) (up (up σ 252 9 (nI v)) 276 3 (nI v)) → wp_X5_lacksAsk a0 a1 a2 a3 (up σ 252 9 (nI v)) Q)) ∨
    (∃ m r i n, a0 = nI m ∧ a1 = nI r ∧ a2 = nI i ∧ a3 = nI n ∧ m < t 2 ∧ r < 8 ∧ 1 ≤ n ∧ n ≤ 12 ∧ i + n ≤ 40 ∧ (∀ j, j < 40 → σ 279 (40 * r + j) = σ (rc r 1) j) ∧ (∀ Q : Int32 → PI → Prop, Q (nI 0) (up σ 252 9 (nI 0)) → wp_X4_refusalOfTold a0 a1 a2 a3 σ Q) ∧ (∀ (τ : PI) (Q : Int32 → PI → Prop), τ 280 = σ 280 → τ 278 = σ 278 → Q (nI 0) τ → wp_X5_lacksAsk a0 a1 a2 a3 τ Q)) := by
  obtain ⟨b2, b3, b4⟩ := ht.b
  have m2 := ht.2.1 2 (by omega)
  unfold wp_X4_refusalOfTold wp_X5_lacksAsk w_X5_lacksAsk_28
  by_cases hm0 : ¬ ∃ a, a < t 2 ∧ a0 = nI a
  · exact Or.inl ⟨fun Q hQ => C_manF ht.1.1.1 (by omega) hm0 (z_t hQ), fun Q hQ => M_manF m2 (by omega) hm0 (z_t hQ)⟩
  obtain ⟨m, hm, rfl⟩ := Classical.not_not.mp hm0
  by_cases hr0 : ¬ ∃ a, a < 8 ∧ a1 = nI a
  · exact Or.inl ⟨fun Q hQ => C_manT ht.1.1.1 (by omega) hm (o_t (C_rowF hr0 (z_t hQ))), fun Q hQ => M_manT m2 (by omega) hm (o_t (M_rowF hr0 (z_t hQ)))⟩
  obtain ⟨r, hr, rfl⟩ := Classical.not_not.mp hr0
  by_cases hn0 : ¬ ∃ a, 1 ≤ a ∧ a ≤ 12 ∧ a3 = nI a
  · exact Or.inl ⟨fun Q hQ => C_manT ht.1.1.1 (by omega) hm (o_t (C_rowT hr (o_t (C_wf (by omega) (by omega) hn0 (z_t' hQ))))), fun Q hQ => M_manT m2 (by omega) hm (o_t (M_rowT hr (o_t (M_if (by omega) (by omega) hn0 (z_t' hQ)))))⟩
  obtain ⟨n, hn1, hn, rfl⟩ := Classical.not_not.mp hn0
  have hv8 : vp_in (nI r) 8 := vpN hr (by omega)
  rw [nI_cl (a := r) (by omega)]
  right
  rcases h.1 r hr with ⟨g1, ln, sz, g2, g3, g4, g5, g6, g7, g8⟩ | ⟨g1, g2⟩
  · by_cases hi0 : ¬ ∃ a, a + n ≤ sz ∧ a2 = nI a
    · left
      refine ⟨2, by omega, fun Q hQ => C_manT ht.1.1.1 (by omega) hm (o_t (C_rowT hr (o_t (C_wt hn1 hn (by omega) (o_t' ⟨hv8, fun _ => ⟨hv8, ?_⟩, fun z => absurd (g1.symm.trans z) b_ne⟩))))), fun Q hQ => M_manT (n := t 2) (by rw [up_ne (by omega)]; exact m2) (by omega) hm (o_t (M_rowT hr (o_t (M_it hn1 hn (by omega) (o_t' ?_)))))⟩
      · unfold wp_X2_holds
        rw [g6, nI_lt' (by omega) (by omega)]
        refine ⟨fun _ => z_t' (fun τ e => by rw [e]; exact hQ), fun q1 => ⟨fun z => absurd z (by omega), fun _ => ⟨fun _ => z_t' (fun τ e => by rw [e]; exact hQ), fun q2 => ?_⟩⟩⟩
        exfalso
        apply hi0
        rw [Int32.lt_iff_toInt_lt, nI_toInt (by omega)] at q1
        rw [Int32.lt_iff_toInt_lt, pk_sub_toInt (by omega) (by omega)] at q2
        refine ⟨a2.toInt.toNat, by omega, ?_⟩
        apply Int32.toInt_inj.mp
        rw [nI_toInt (by omega)]
        omega
      · unfold wp_X5_lacks
        rw [nI_cl (a := r) (by omega), up_252 (by omega), g7, nI_le' (by omega) (by omega)]
        refine ⟨hv8, fun _ => ⟨hv8, ?_⟩, fun z => absurd (Nat.zero_le _) z⟩
        unfold wp_X5_in
        rw [lgc_lt, lgc_gt, Int64.lt_iff_toInt_lt, Int64.lt_iff_toInt_lt, w64, w64, n64 (by omega), pk_sub_toInt (by omega) (by omega)]
        refine ⟨fun _ => z_t (fun τ e => by rw [e]; exact hQ), fun q1 => ⟨fun _ => z_t (fun τ e => by rw [e]; exact hQ), fun q2 => ?_⟩⟩
        exfalso
        apply hi0
        refine ⟨a2.toInt.toNat, by omega, ?_⟩
        apply Int32.toInt_inj.mp
        rw [nI_toInt (by omega)]
        omega
    · right
      obtain ⟨i, hi, rfl⟩ := Classical.not_not.mp hi0
      refine ⟨m, r, i, n, rfl, rfl, rfl, rfl, hm, hr, hn1, hn, by omega, g8, fun Q hQ => C_manT ht.1.1.1 (by omega) hm (o_t (C_rowT hr (o_t (C_wt hn1 hn (by omega) (o_t' ⟨hv8, fun _ => ⟨hv8, ?_⟩, fun z => absurd (g1.symm.trans z) b_ne⟩))))), fun τ Q e0 e8 hQ => M_manT (n := t 2) (by rw [e0]; exact m2) (by omega) hm (o_t (M_rowT hr (o_t (M_it hn1 hn (by omega) (o_t' ?_)))))⟩
      · unfold wp_X2_holds
        rw [g6, nI_lt' (by omega) (by omega), nI_lt' (by omega) (by omega), nI_sub (by omega), nI_lt' (by omega) (by omega)]
        exact ⟨fun z => absurd z (by omega), fun _ => ⟨fun z => absurd z (by omega), fun _ => ⟨fun z => absurd z (by omega), fun _ => o_t' (fun τ e => by rw [e]; exact hQ)⟩⟩⟩
      · unfold wp_X5_lacks
        rw [nI_cl (a := r) (by omega), e8, g7, nI_le' (by omega) (by omega)]
        refine ⟨hv8, fun _ => ⟨hv8, ?_⟩, fun z => absurd (Nat.zero_le _) z⟩
        unfold wp_X5_in
        rw [lgc_lt, lgc_gt, Int64.lt_iff_toInt_lt, Int64.lt_iff_toInt_lt, w64, w64, n64 (by omega), pk_sub_toInt (by omega) (by omega), nI_toInt (by omega)]
        exact ⟨fun z => absurd z (by omega), fun _ => ⟨fun z => absurd z (by omega), fun _ => o_t hQ⟩⟩
  · left
    refine ⟨1, by omega, fun Q hQ => C_manT ht.1.1.1 (by omega) hm (o_t (C_rowT hr (o_t (C_wt hn1 hn (by omega) (o_t' ⟨hv8, fun z => absurd g1 z, fun _ τ e => by rw [e]; exact hQ⟩))))), fun Q hQ => M_manT (n := t 2) (by rw [up_ne (by omega)]; exact m2) (by omega) hm (o_t (M_rowT hr (o_t (M_it hn1 hn (by omega) (o_t' ?_)))))⟩
    unfold wp_X5_lacks
    rw [nI_cl (a := r) (by omega), up_252 (by omega), g2]
    exact ⟨hv8, fun z => absurd z (by decide), fun _ τ e => by rw [e]; exact hQ⟩
end TO
