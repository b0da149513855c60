/-! ===== set, copy, as ===== -/
theorem sx8 (x : Int32) : (x <<< (nI 24 &&& 31)) >>> (nI 24 &&& 31) = x.toInt8.toInt32 := by
  have e : ((nI 24 &&& 31 : Int32).toBitVec.smod 32) = 24#32 := by decide +kernel
  apply Int32.toBitVec_inj.mp
  rw [Int32.toBitVec_shiftRight, Int32.toBitVec_shiftLeft, e]
  show (x.toBitVec <<< (24 : Nat)).sshiftRight 24 = (x.toBitVec.signExtend 8).signExtend 32
  generalize x.toBitVec = y
  apply BitVec.eq_of_getLsbD_eq
  intro i hi
  simp [BitVec.getLsbD_sshiftRight, BitVec.getLsbD_signExtend, BitVec.getLsbD_shiftLeft, BitVec.msb_eq_getLsbD_last]
  by_cases h : i < 8
  · have h1 : ¬ 32 ≤ i := by omega
    have h2 : 24 + i < 32 := by omega
    have h3 : i < 32 := by omega
    simp [h, h1, h2, h3]
  · have h1 : ¬ 32 ≤ i := by omega
    have h2 : ¬ 24 + i < 32 := by omega
    simp [h, h1, h2, hi, BitVec.getElem_signExtend]
theorem sx16 (x : Int32) : (x <<< (nI 16 &&& 31)) >>> (nI 16 &&& 31) = x.toInt16.toInt32 := by
  have e : ((nI 16 &&& 31 : Int32).toBitVec.smod 32) = 16#32 := by decide +kernel
  apply Int32.toBitVec_inj.mp
  rw [Int32.toBitVec_shiftRight, Int32.toBitVec_shiftLeft, e]
  show (x.toBitVec <<< (16 : Nat)).sshiftRight 16 = (x.toBitVec.signExtend 16).signExtend 32
  generalize x.toBitVec = y
  apply BitVec.eq_of_getLsbD_eq
  intro i hi
  simp [BitVec.getLsbD_sshiftRight, BitVec.getLsbD_signExtend, BitVec.getLsbD_shiftLeft, BitVec.msb_eq_getLsbD_last]
  by_cases h : i < 16
  · have h1 : ¬ 32 ≤ i := by omega
    have h2 : 16 + i < 32 := by omega
    have h3 : i < 32 := by omega
    simp [h, h1, h2, h3]
  · have h1 : ¬ 32 ≤ i := by omega
    have h2 : ¬ 16 + i < 32 := by omega
    simp [h, h1, h2, hi, BitVec.getElem_signExtend]
section ST2
variable {σ : PI}
/-- lane's narrowing -/
def nrw (ln : Nat) (x : Int32) : Int32 := if ln = 0 then x.toInt8.toInt32 else if ln = 1 then x.toInt16.toInt32 else x
theorem M_lane {ln : Nat} {x : Int32} {Q : Int32 → PI → Prop} (hl : ln ≤ 2) (h : Q (nrw ln x) σ) : wp_X5_asLane (nI ln) x σ Q := by
  unfold wp_X5_asLane
  rw [nI_inj (by omega) (by omega), nI_inj (by omega) (by omega), sx8, sx16]
  unfold nrw at h
  refine ⟨fun q0 => ⟨fun q1 => ?_, fun q1 => ?_⟩, fun q0 => ?_⟩
  · rw [if_neg q0, if_neg q1] at h; exact h
  · rw [if_neg q0, if_pos q1] at h; exact h
  · rw [if_pos q0] at h; exact h
theorem C_put {r i ln : Nat} {x : Int32} {Q : Int32 → PI → Prop} (hl : ln ≤ 2) (h0 : σ (rc r 0) 2 = nI ln) (hi : i < 40) (h : ∀ τ, τ = up σ (rc r 1) i (nrw ln x) → Q (nrw ln x) τ) : wp_X2_put r (nI i) x σ Q := by
  unfold wp_X2_put w_X2_put_31
  rw [h0, nI_inj (by omega) (by omega), nI_inj (by omega) (by omega), nI_cl (a := i) (by omega)]
  have hv : vp_in (nI i) 40 := vpN hi (by omega)
  unfold nrw at h
  refine ⟨fun q0 => ⟨fun q1 => ⟨hv, fun τ e => ⟨hv, ?_⟩⟩, fun q1 => ⟨hv, fun τ e => ⟨hv, ?_⟩⟩⟩, fun q0 => ⟨hv, fun τ e => ⟨hv, ?_⟩⟩⟩
  · rw [if_neg q0, if_neg q1] at h
    have := h τ e
    rw [e, up_s] at *; exact this
  · rw [if_neg q0, if_pos q1] at h
    have := h τ e
    rw [e, up_s] at *; exact this
  · rw [if_pos q0] at h
    have := h τ e
    rw [e, up_s] at *; exact this
theorem C_holdsT {r i m sz : Nat} {Q : Int32 → PI → Prop} (h0 : σ (rc r 0) 3 = nI sz) (hs : sz ≤ 40) (h1 : i + m ≤ sz) (h : Q (nI 1) σ) : wp_X2_holds r (nI i) (nI m) σ Q := by
  unfold wp_X2_holds
  rw [h0, nI_sub (by omega), nI_lt' (by omega) (by omega), nI_lt' (by omega) (by omega), nI_lt' (by omega) (by omega)]
  exact ⟨fun q => absurd q (by omega), fun _ => ⟨fun q => absurd q (by omega), fun _ => ⟨fun q => absurd q (by omega), fun _ => h⟩⟩⟩
theorem nn_nat {x : Int32} (h : ¬ x < nI 0) : ∃ n, n < 2147483648 ∧ x = nI n := by
  rw [Int32.lt_iff_toInt_lt, nI_toInt (by omega)] at h
  have hx := Int32.toInt_lt x
  refine ⟨x.toInt.toNat, by omega, ?_⟩
  apply Int32.toInt_inj.mp
  rw [nI_toInt (by omega)]
  omega
theorem sub_nI {a b : Nat} (ha : a < 2147483648) (hb : b < 2147483648) : (nI a - nI b).toInt = (a : Int) - b := by
  rw [Int32.toInt_sub, nI_toInt ha, nI_toInt hb]
  apply Int.bmod_eq_of_le <;> omega
theorem C_holdsF {r sz : Nat} {x y : Int32} {Q : Int32 → PI → Prop} (h0 : σ (rc r 0) 3 = nI sz) (hs : sz ≤ 40) (h1 : ¬ ∃ i m, x = nI i ∧ y = nI m ∧ i + m ≤ sz) (h : Q (nI 0) σ) : wp_X2_holds r x y σ Q := by
  unfold wp_X2_holds
  rw [h0]
  refine ⟨fun _ => h, fun q1 => ⟨fun _ => h, fun q2 => ⟨fun _ => h, fun q3 => ?_⟩⟩⟩
  obtain ⟨i, hi, rfl⟩ := nn_nat q1
  obtain ⟨m, hm, rfl⟩ := nn_nat q2
  rw [Int32.lt_iff_toInt_lt, nI_toInt hi, sub_nI (by omega) hm] at q3
  exact absurd ⟨i, m, rfl, rfl, by omega⟩ h1
/-- both sides' items of row r changed, alike -/
theorem Rel.item {r : Nat} {f : Nat → Int32} {τ : PI} (h : Rel σ) (hr : r < 8) (h1 : τ (rc r 1) = f) (h2 : ∀ i, i < 40 → τ 279 (40 * r + i) = f i) (h3 : ∀ r' i, r' < 8 → i < 40 → r' ≠ r → τ 279 (40 * r' + i) = σ 279 (40 * r' + i)) (h4 : ∀ c, c ≠ rc r 1 → c ≠ 252 → c ≠ 276 → c ≠ 279 → c ≠ 281 → τ c = σ c) (h5 : ∀ s, s ≠ 9 → τ 252 s = σ 252 s) (h6 : ∀ s, s ≠ 3 → τ 276 s = σ 276 s) (h7 : τ 252 9 = τ 276 3) : Rel τ := by
  refine ⟨fun r' hr' => ?_, h7, h.2.2.k (KR.of (fun c c1 c2 c3 c4 => h4 c (by unfold rwc at c3; unfold rc; omega) c1 c2 (by unfold rwc at c3; omega) c4) h5 h6)⟩
  have m0 := rc_hi (r := r') (j := 0)
  have m1 := rc_hi (r := r') (j := 1)
  have mb0 : rc r' 0 < 276 := by unfold rc; omega
  have mb1 : rc r' 1 < 276 := by unfold rc; omega
  have e0 : τ (rc r' 0) = σ (rc r' 0) := h4 _ (rc_ne (by omega) (by omega) (by omega)) (by omega) (by omega) (by omega) (by omega)
  have e7 : τ 277 = σ 277 := h4 _ (by unfold rc; omega) (by omega) (by omega) (by omega) (by omega)
  have e8 : τ 278 = σ 278 := h4 _ (by unfold rc; omega) (by omega) (by omega) (by omega) (by omega)
  by_cases q : r' = r
  · subst q
    unfold RRow
    rw [e0, e7, e8, h1]
    rcases h.1 r' hr' with ⟨g1, ln, sz, g2, g3, g4, g5, g6, g7, g8⟩ | g
    · exact Or.inl ⟨g1, ln, sz, g2, g3, g4, g5, g6, g7, h2⟩
    · exact Or.inr g
  · exact (h.1 r' hr').p e0 (h4 _ (rc_ne (by omega) (by omega) (Or.inl q)) (by omega) (by omega) (by omega) (by omega)) (by rw [e7]) (by rw [e8]) (fun i hi => h3 r' i hr' hi q)
theorem eq_set {a0 a1 a2 : Int32} (h : Rel σ) : wp_X4_set a0 a1 a2 σ (fun r τ => wp_X5_set a0 a1 a2 τ (fun r' τ' => r = r' ∧ Rel τ')) := by
  unfold wp_X4_set
  by_cases hr0 : ¬ ∃ r, r < 8 ∧ a0 = nI r
  · exact C_rowF hr0 (z_t' (M_rowF hr0 (z_t' ⟨rfl, h⟩)))
  obtain ⟨r, hr, rfl⟩ := Classical.not_not.mp hr0
  refine C_rowT hr (o_t' ?_)
  have hv : vp_in (nI r) 8 := vpN hr (by omega)
  have n0 := rc_hi (r := r) (j := 0)
  have n1 := rc_hi (r := r) (j := 1)
  have hb0 : rc r 0 < 276 := by unfold rc; omega
  have hb1 : rc r 1 < 276 := by unfold rc; omega
  rw [nI_cl (a := r) (by omega)]
  rcases h.1 r hr with ⟨g1, ln, sz, g2, g3, g4, g5, g6, g7, g8⟩ | ⟨g1, g2⟩
  · rw [g1]
    refine ⟨hv, fun _ => ⟨hv, ?_⟩, fun q => absurd q b_ne⟩
    by_cases hi0 : ¬ ∃ i, i < sz ∧ a1 = nI i
    · refine C_holdsF g6 g3 (fun ⟨i, m, e1, e2, e3⟩ => ?_) (z_t' (fun τ e => ?_))
      · by_cases hm : m < 2147483648
        · rw [nI_inj (by omega) hm] at e2
          exact hi0 ⟨i, by omega, e1⟩
        · omega
      refine M_rowT hr (o_t' ⟨hv, ?_⟩)
      rw [nI_cl (a := r) (by omega), show τ 278 r = nI sz by rw [e, up_252 (by omega), g7], nI_le' (by omega) (by omega)]
      refine ⟨fun _ => ⟨hv, M_nf (by omega) hi0 (z_t' (fun υ eu => ⟨rfl, ?_⟩))⟩, fun q => absurd (Nat.zero_le _) q⟩
      rw [eu, e]; exact h.find
    · obtain ⟨i, hi, rfl⟩ := Classical.not_not.mp hi0
      refine C_holdsT g6 g3 (by omega) (o_t' ⟨hv, C_put g2 g4 (by omega) (fun τ e υ eu => ?_)⟩)
      refine M_rowT hr (o_t' ⟨hv, ?_⟩)
      have e8 : υ 278 r = nI sz := by rw [eu, up_252 (by omega), e, up_ne (by omega), g7]
      have e7 : υ 277 r = nI ln := by rw [eu, up_252 (by omega), e, up_ne (by omega), g5]
      rw [nI_cl (a := r) (by omega), e8, nI_le' (by omega) (by omega)]
      refine ⟨fun _ => ⟨hv, M_nt hi (by omega) (o_t' ⟨hv, ?_⟩)⟩, fun q => absurd (Nat.zero_le _) q⟩
      rw [e7]
      refine M_lane g2 ?_
      rw [pk_mul, nI_add, nI_cl (a := 40 * r + i) (by omega)]
      refine ⟨vpN (by omega) (by omega), fun ω ew => ⟨vpN (by omega) (by omega), fun χ ex => ⟨by rw [ew, up_s], ?_⟩⟩⟩
      subst e eu ew ex
      refine h.item (r := r) (f := upd (σ (rc r 1)) i (nrw ln a2)) hr ?_ (fun j hj => ?_) (fun r' j hr' hj hq => ?_) (fun c c1 c2 c3 c4 c5 => ?_) (fun s hs => ?_) (fun s hs => ?_) ?_
      · rw [up_ne (by omega), up_ne (by omega), up_ne (by omega), up_self]
      · rw [up_ne (by omega)]
        by_cases q : j = i
        · subst q; rw [up_s, upd_s]
        · rw [up_k (by omega), upd_n q, up_ne (by omega), up_ne (by omega)]; exact g8 j hj
      · rw [up_ne (by omega), up_k (by omega), up_ne (by omega), up_ne (by omega)]
      · rw [up_ne c3, up_ne c4, up_ne c2, up_ne c1]
      · rw [up_ne (by omega), up_ne (by omega), up_k hs, up_ne (by omega)]
      · rw [up_k hs, up_ne (by omega), up_ne (by omega), up_ne (by omega)]
      · rw [up_s, up_ne (by omega), up_ne (by omega), up_s]
  · rw [g1]
    refine ⟨hv, fun q => absurd rfl q, fun _ τ1 e1 => M_rowT hr (o_t' ?_)⟩
    rw [nI_cl (a := r) (by omega), e1, up_252 (by omega), g2]
    refine ⟨hv, fun q => absurd q (by decide), fun _ τ2 e2 => ⟨rfl, ?_⟩⟩
    rw [e2]
    exact h.find
theorem M_hold {sz m : Nat} {x : Int32} {Q : Int32 → PI → Prop} (hs : sz ≤ 40) (hm : m < 2147483648) (hT : ∀ i, x = nI i → i + m ≤ sz → Q (nI 1) σ) (hF : (¬ ∃ i, x = nI i ∧ i + m ≤ sz) → Q (nI 0) σ) : wp_X5_in x.toInt64 (lN 0) ((nI sz).toInt64 - (nI m).toInt64) σ Q := by
  have e : ((nI sz).toInt64 - (nI m).toInt64).toInt = (sz : Int) - m := by
    rw [Int64.toInt_sub, w64, w64, nI_toInt (by omega), nI_toInt hm]
    apply Int.bmod_eq_of_le <;> omega
  unfold wp_X5_in
  rw [lgc_lt, lgc_gt, Int64.lt_iff_toInt_lt, Int64.lt_iff_toInt_lt, w64, n64 (by omega), e]
  refine ⟨fun q => hF (fun ⟨i, e1, e2⟩ => ?_), fun q1 => ⟨fun q => hF (fun ⟨i, e1, e2⟩ => ?_), fun q2 => ?_⟩⟩
  · rw [e1, nI_toInt (by omega)] at q; omega
  · rw [e1, nI_toInt (by omega)] at q; omega
  · obtain ⟨i, hi, rfl⟩ := nn_nat (x := x) (by rw [Int32.lt_iff_toInt_lt, nI_toInt (by omega)]; exact q1)
    rw [nI_toInt hi] at q2
    exact hT i rfl (by omega)
theorem eq_copy {a0 a1 a2 a3 a4 : Int32} (h : Rel σ) : wp_X4_copy a0 a1 a2 a3 a4 σ (fun r τ => wp_X5_copy a0 a1 a2 a3 a4 τ (fun r' τ' => r = r' ∧ Rel τ')) := by
  unfold wp_X4_copy w_X4_copy_51 w_X4_copy_99
  by_cases hr0 : ¬ ∃ r, r < 8 ∧ a0 = nI r
  · exact C_rowF hr0 (z_t (M_rowF hr0 (z_t ⟨rfl, h⟩)))
  obtain ⟨r, hr, rfl⟩ := Classical.not_not.mp hr0
  refine C_rowT hr (o_t ?_)
  by_cases hp0 : ¬ ∃ r, r < 8 ∧ a2 = nI r
  · exact C_rowF hp0 (z_t' (M_rowT hr (o_t (M_rowF hp0 (z_t' ⟨rfl, h⟩)))))
  obtain ⟨p, hp, rfl⟩ := Classical.not_not.mp hp0
  refine C_rowT hp (o_t' ?_)
  have hvr : vp_in (nI r) 8 := vpN hr (by omega)
  have hvp : vp_in (nI p) 8 := vpN hp (by omega)
  have n0 := rc_hi (r := r) (j := 0)
  have n1 := rc_hi (r := r) (j := 1)
  have p0 := rc_hi (r := p) (j := 0)
  have p1 := rc_hi (r := p) (j := 1)
  have hb0 : rc r 0 < 276 := by unfold rc; omega
  have hb1 : rc r 1 < 276 := by unfold rc; omega
  have pb0 : rc p 0 < 276 := by unfold rc; omega
  have pb1 : rc p 1 < 276 := by unfold rc; omega
  rw [nI_cl (a := r) (by omega), nI_cl (a := p) (by omega)]
  refine ⟨hvr, hvp, ?_⟩
  have ng : (-1 : Int32) < nI 0 := by decide
  have ng' : ¬ nI 0 ≤ (-1 : Int32) := by decide
  rcases h.1 r hr with ⟨g1, ln, sz, g2, g3, g4, g5, g6, g7, g8⟩ | ⟨g1, g2⟩
  rotate_left
  · rw [g1]
    refine ⟨fun _ τ e => M_rowT hr (o_t (M_rowT hp (o_t' ⟨hvr, ?_⟩))), fun q => absurd rfl q⟩
    rw [nI_cl (a := r) (by omega), e, up_252 (by omega), g2]
    refine ⟨fun _ υ eu => ⟨rfl, ?_⟩, fun q => absurd ng q⟩
    rw [eu]; exact h.find
  rw [g1]
  refine ⟨fun q => absurd q b_ne, fun _ => ?_⟩
  have nl : ¬ nI sz < nI 0 := by rw [nI_lt' (by omega) (by omega)]; omega
  rcases h.1 p hp with ⟨k1, lm, sy, k2, k3, k4, k5, k6, k7, k8⟩ | ⟨k1, k2⟩
  rotate_left
  · rw [k1]
    refine ⟨fun q => absurd rfl q, fun _ τ e => M_rowT hr (o_t (M_rowT hp (o_t' ⟨hvr, ?_⟩)))⟩
    rw [nI_cl (a := r) (by omega), nI_cl (a := p) (by omega), e, up_252 (by omega), up_252 (by omega), g7, k2]
    refine ⟨fun q => absurd q nl, fun _ => ⟨hvp, fun q => absurd q ng', fun _ υ eu => ⟨rfl, ?_⟩⟩⟩
    rw [eu]; exact h.find
  rw [k1]
  refine ⟨fun _ => ?_, fun q => absurd q b_ne⟩
  have nl' : nI 0 ≤ nI sy := by rw [nI_le' (by omega) (by omega)]; omega
  rw [g4, k4, nI_inj (by omega) (by omega)]
  by_cases hln : ln = lm
  rotate_left
  · refine ⟨fun q => absurd q hln, fun _ τ e => M_rowT hr (o_t (M_rowT hp (o_t' ⟨hvr, ?_⟩)))⟩
    rw [nI_cl (a := r) (by omega), nI_cl (a := p) (by omega), e, up_252 (by omega), up_252 (by omega), up_252 (by omega), up_252 (by omega), g7, k7, g5, k5, nI_inj (by omega) (by omega)]
    refine ⟨fun q => absurd q nl, fun _ => ⟨hvp, fun _ => ⟨hvr, hvp, fun q => absurd q hln, fun _ υ eu => ⟨rfl, ?_⟩⟩, fun q => absurd nl' q⟩⟩
    rw [eu]; exact h.find
  subst hln
  refine ⟨fun _ => ?_, fun q => absurd rfl q⟩
  have mdl : ∀ (τ : PI) (Q : Int32 → PI → Prop), τ 277 r = nI ln → τ 278 r = nI sz → τ 277 p = nI ln → τ 278 p = nI sy → (∀ i j m, a1 = nI i → a3 = nI j → a4 = nI m → i + m ≤ sz → j + m ≤ sy → w_X5_copy_117 Q (nI r) (nI i) (nI p) (nI j) (nI m) (nI 0) τ) → ((¬ ∃ i j m, a1 = nI i ∧ a3 = nI j ∧ a4 = nI m ∧ i + m ≤ sz ∧ j + m ≤ sy) → w_X5_copy_108 Q τ) → wp_X5_copy (nI r) a1 (nI p) a3 a4 τ Q := by
    intro τ Q e1 e2 e3 e4 hT hF
    refine M_rowT hr (o_t (M_rowT hp (o_t' ⟨hvr, ?_⟩)))
    rw [nI_cl (a := r) (by omega), nI_cl (a := p) (by omega), e1, e2, e3, e4]
    refine ⟨fun q => absurd q nl, fun _ => ⟨hvp, fun _ => ⟨hvr, hvp, fun _ => ⟨fun q => hF ?_, fun q => ⟨hvr, ?_⟩⟩, fun q => absurd rfl q⟩, fun q => absurd nl' q⟩⟩
    · rintro ⟨i, j, m, -, -, e, q2, -⟩
      rw [e, nI_lt' (by omega) (by omega)] at q; omega
    · obtain ⟨m, hm, rfl⟩ := nn_nat q
      refine M_hold g3 hm (fun i ei hi => o_t ⟨hvp, ?_⟩) (fun hn => z_t (hF ?_))
      · rw [e4]
        refine M_hold k3 hm (fun j ej hj => o_t' ?_) (fun hn => z_t' (hF ?_))
        · have := hT i j m ei ej rfl hi hj
          rw [ei, ej]; exact this
        · rintro ⟨i', j', m', e5, e6, e7, e8, e9⟩
          rw [nI_inj hm (by omega)] at e7
          subst e7
          exact hn ⟨j', e6, e9⟩
      · rintro ⟨i', j', m', e5, e6, e7, e8, e9⟩
        rw [nI_inj hm (by omega)] at e7
        subst e7
        exact hn ⟨i', e5, e8⟩
  have no : (¬ ∃ i j m, a1 = nI i ∧ a3 = nI j ∧ a4 = nI m ∧ i + m ≤ sz ∧ j + m ≤ sy) → ∀ τ, τ = up σ 252 9 (nI 2) → wp_X5_copy (nI r) a1 (nI p) a3 a4 τ (fun r' τ' => ((-1000010) - nI 2) = r' ∧ Rel τ') := by
    intro hn τ e
    refine mdl τ _ (by rw [e, up_252 (by omega), g5]) (by rw [e, up_252 (by omega), g7]) (by rw [e, up_252 (by omega), k5]) (by rw [e, up_252 (by omega), k7]) (fun i j m e1 e2 e3 e4 e5 => absurd ⟨i, j, m, e1, e2, e3, e4, e5⟩ hn) (fun _ υ eu => ⟨rfl, ?_⟩)
    rw [eu, e]; exact h.find
  by_cases H1 : ¬ ∃ i m, a1 = nI i ∧ a4 = nI m ∧ i + m ≤ sz
  · exact C_holdsF g6 g3 H1 (z_t (no (fun ⟨i, j, m, e1, e2, e3, e4, e5⟩ => H1 ⟨i, m, e1, e3, e4⟩)))
  obtain ⟨i, m, rfl, rfl, him⟩ := Classical.not_not.mp H1
  refine C_holdsT g6 g3 him (o_t ?_)
  by_cases H2 : ¬ ∃ j m', a3 = nI j ∧ nI m = nI m' ∧ j + m' ≤ sy
  · exact C_holdsF k6 k3 H2 (z_t' (no (fun ⟨i, j, m, e1, e2, e3, e4, e5⟩ => H2 ⟨j, m, e2, e3, e5⟩)))
  obtain ⟨j, m', rfl, em, hjm⟩ := Classical.not_not.mp H2
  rw [nI_inj (by omega) (by omega)] at em
  subst em
  refine C_holdsT k6 k3 hjm (o_t' ?_)
  rw [nI_lt' (by omega) (by omega), nI_lt' (by omega) (by omega), nI_lt' (by omega) (by omega), nI_cl (a := i) (by omega), nI_cl (a := j) (by omega), nI_cl (a := m) (by omega)]
  refine ⟨by omega, by omega, by omega, by omega, by omega, fun τ e τ1 e1 => ?_⟩
  have c0 : ∀ c, 276 ≤ c → τ1 c = σ c := fun c hc => by rw [e1, up_ne (by omega), e, upA_ne (by omega)]
  refine mdl τ1 _ (by rw [c0 277 (by omega), g5]) (by rw [c0 278 (by omega), g7]) (by rw [c0 277 (by omega), k5]) (by rw [c0 278 (by omega), k7]) (fun i' j' m' e1' e2' e3' e4' e5' => ?_) (fun q => absurd ⟨i, j, m, rfl, rfl, rfl, him, hjm⟩ q)
  rw [← e1', ← e2', ← e3']
  unfold w_X5_copy_117
  refine for_up (α := Int32 × Int32 × Int32 × Int32 × Int32 × Int32 × PI) m (fun o s => ∃ υ, s = (nI r, nI i, nI p, nI j, nI m, nI o, υ) ∧ (∀ c, c ≠ 281 → υ c = τ1 c) ∧ ∀ l, l < o → υ 281 l = σ (rc r 1) (i + l)) ?_ ?_ 0 _ (by omega) ⟨τ1, rfl, fun _ _ => rfl, fun l hl => by omega⟩
  · rintro K s ⟨υ, rfl, q1, q2⟩
    show B_X5_copy_117 K _ (nI r) (nI i) (nI p) (nI j) (nI m) (nI m) υ
    unfold B_X5_copy_117
    refine ⟨fun _ => ?_, fun z => absurd (Int32.le_refl _) z⟩
    unfold w_X5_copy_154
    refine for_up (α := Int32 × Int32 × Int32 × Int32 × PI) m (fun o s => ∃ ω, s = (nI p, nI j, nI m, nI o, ω) ∧ (∀ c, c ≠ 279 → ω c = υ c) ∧ ∀ l, ω 279 l = if 40 * p + j ≤ l ∧ l < 40 * p + j + o then σ (rc r 1) (i + (l - (40 * p + j))) else σ 279 l) ?_ ?_ 0 _ (by omega) ⟨υ, rfl, fun _ _ => rfl, fun l => by rw [if_neg (by omega), q1 _ (by omega), c0 _ (by omega)]⟩
    · rintro K s ⟨ω, rfl, w1, w2⟩
      show B_X5_copy_154 K _ (nI p) (nI j) (nI m) (nI m) ω
      unfold B_X5_copy_154
      refine ⟨fun _ χ ex => ⟨rfl, ?_⟩, fun z => absurd (Int32.le_refl _) z⟩
      have b : ∀ c, c ≠ 279 → c ≠ 281 → c ≠ 276 → χ c = τ1 c := fun c z1 z2 z3 => by rw [ex, up_ne z3, w1 c z1, q1 c z2]
      refine h.item (r := p) (f := va_cpy (σ (rc r 1)) (σ (rc p 1)) i j m) hp ?_ (fun l hl => ?_) (fun r' l hr' hl hq => ?_) (fun c z1 z2 z3 z4 z5 => ?_) (fun s hs => ?_) (fun s hs => ?_) ?_
      · rw [b _ (by omega) (by omega) (by omega), e1, up_ne (by omega), e, upA_self]
      · rw [ex, up_ne (by omega), w2]
        unfold va_cpy
        by_cases z : j ≤ l ∧ l < j + m
        · rw [if_pos (by omega), if_pos z, show 40 * p + l - (40 * p + j) = l - j by omega]
        · rw [if_neg (by omega), if_neg z, k8 l hl]
      · rw [ex, up_ne (by omega), w2, if_neg (by omega)]
      · rw [b c z4 z5 z3, e1, up_ne z2, e, upA_ne z1]
      · rw [b _ (by omega) (by omega) (by omega), e1, up_k hs, e, upA_ne (by omega)]
      · rw [ex, up_k hs, w1 _ (by omega), q1 _ (by omega), c0 _ (by omega)]
      · rw [b _ (by omega) (by omega) (by omega), e1, up_s, ex, up_s]
    · rintro K o s ho ⟨ω, rfl, w1, w2⟩ hK
      show B_X5_copy_154 K _ (nI p) (nI j) (nI m) (nI o) ω
      unfold B_X5_copy_154
      rw [nI_le' (by omega) (by omega), pk_mul, nI_add, nI_add, nI_cl (a := 40 * p + j + o) (by omega), nI_add, nI_cl (a := o) (by omega)]
      refine ⟨fun z => absurd z (by omega), fun _ => ⟨vpN (by omega) (by omega), vpN (by omega) (by omega), fun χ ex => hK _ ⟨χ, rfl, fun c hc => by rw [ex, up_ne hc]; exact w1 c hc, fun l => ?_⟩⟩⟩
      rw [ex]
      by_cases z : l = 40 * p + j + o
      · subst z
        rw [up_s, if_pos (by omega), w1 _ (by omega), q2 o ho, show 40 * p + j + o - (40 * p + j) = o by omega]
      · rw [up_k z, w2]
        by_cases z2 : 40 * p + j ≤ l ∧ l < 40 * p + j + o
        · rw [if_pos z2, if_pos (by omega)]
        · rw [if_neg z2, if_neg (by omega)]
  · rintro K o s ho ⟨υ, rfl, q1, q2⟩ hK
    show B_X5_copy_117 K _ (nI r) (nI i) (nI p) (nI j) (nI m) (nI o) υ
    unfold B_X5_copy_117
    rw [nI_le' (by omega) (by omega), pk_mul, nI_add, nI_add, nI_cl (a := 40 * r + i + o) (by omega), nI_add, nI_cl (a := o) (by omega)]
    refine ⟨fun z => absurd z (by omega), fun _ => ⟨vpN (by omega) (by omega), vpN (by omega) (by omega), fun χ ex => hK _ ⟨χ, rfl, fun c hc => by rw [ex, up_ne hc]; exact q1 c hc, fun l hl => ?_⟩⟩⟩
    rw [ex]
    by_cases z : l = o
    · subst z
      rw [up_s, q1 _ (by omega), c0 _ (by omega), show 40 * r + i + l = 40 * r + (i + l) by omega, g8 _ (by omega)]
    · rw [up_k z]; exact q2 l (by omega)
def par (k : Nat) : Nat := if k = 2 ∨ k = 3 then 1 else if k = 5 then 4 else 0
theorem par_sA : ∀ k : Fin 6, 1 ≤ k.val → sArr 0 k.val = nI (par k.val) := by decide +kernel
theorem par_2 : ∀ k : Fin 6, par (par k.val) = 0 ∧ par k.val < 6 := by decide
def asE (a k : Nat) : Nat := if k ≤ a then k else if par k ≤ a then par k else 0
theorem asE_is : ∀ a k : Fin 6, 1 ≤ k.val → (asE a.val k.val = a.val ↔ (a.val = 0 ∨ k.val = a.val ∨ (a.val = 1 ∧ k.val < 4) ∨ (a.val = 4 ∧ k.val = 5))) := by decide
theorem C_asL {a k l : Nat} {Q : Int32 → PI → Prop} (ha : a < 6) (hk : k < 6) (hk1 : 1 ≤ k) (h : w_X4_as_56 Q (nI l) (nI a) (nI (asE a k)) σ) : w_X4_as_33 Q (nI l) (nI a) (nI k) (nI 0) σ := by
  unfold w_X4_as_33
  refine ⟨3, ?_⟩
  have s1 := par_sA ⟨k, hk⟩ hk1
  obtain ⟨s2, s3⟩ := par_2 ⟨k, hk⟩
  simp only at s1 s2 s3
  unfold asE at h
  show B_X4_as_33 _ Q (nI l) (nI a) (nI k) (nI 0) σ
  unfold B_X4_as_33
  rw [nI_lt' (by omega) (by omega), nI_le' (by omega) (by omega), nI_cl (a := k) (by omega)]
  refine ⟨fun q => absurd q (by omega), fun _ => ⟨fun q => by rw [if_pos q] at h; exact h, fun q1 => ⟨vpN (by omega) (by omega), fun x ex => ?_⟩⟩⟩
  rw [ex, s1]
  show B_X4_as_33 _ Q (nI l) (nI a) (nI (par k)) (nI 0 + nI 1) σ
  unfold B_X4_as_33
  rw [nI_add, nI_lt' (by omega) (by omega), nI_le' (by omega) (by omega), nI_cl (a := par k) (by omega)]
  refine ⟨fun q => absurd q (by omega), fun _ => ⟨fun q => by rw [if_neg q1, if_pos q] at h; exact h, fun q2 => ⟨vpN (by omega) (by omega), fun x ex => ?_⟩⟩⟩
  rw [if_neg q1, if_neg q2] at h
  have s4 := par_sA ⟨par k, s3⟩ (by show 1 ≤ par k; omega)
  simp only at s4
  rw [ex, s4, s2]
  show B_X4_as_33 _ Q (nI l) (nI a) (nI 0) _ σ
  unfold B_X4_as_33
  rw [nI_add, nI_lt' (by omega) (by omega), nI_le' (by omega) (by omega)]
  exact ⟨fun q => absurd q (by omega), fun _ => ⟨fun q => h, fun q => absurd (Nat.zero_le _) q⟩⟩
theorem M_isKind {a k : Nat} {Q : Int32 → PI → Prop} (ha : a < 6) (hk : k < 6) (hk1 : 1 ≤ k) (h1 : asE a k = a → Q (nI 1) σ) (h0 : ¬ asE a k = a → Q (nI 0) σ) : wp_X5_isKind (nI k) (nI a) σ Q := by
  have := asE_is ⟨a, ha⟩ ⟨k, hk⟩ hk1
  simp only at this
  unfold wp_X5_isKind w_X5_isKind_19 w_X5_isKind_29
  rw [nI_inj (by omega) (by omega), nI_inj (by omega) (by omega), nI_inj (by omega) (by omega), nI_inj (by omega) (by omega), nI_inj (by omega) (by omega), nI_lt' (by omega) (by omega)]
  refine ⟨fun q => h1 (by omega), fun q => ⟨fun q => h1 (by omega), fun q => ⟨fun q => ⟨fun q => h0 (by omega), fun q => ⟨fun q => h0 (by omega), fun q => h1 (by omega)⟩⟩, fun q => ⟨fun q => h1 (by omega), fun q => ⟨fun q => h0 (by omega), fun q => ⟨fun q => h0 (by omega), fun q => h1 (by omega)⟩⟩⟩⟩⟩⟩
theorem eq_as {a0 a1 : Int32} (h : Rel σ) : wp_X4_as a0 a1 σ (fun r τ => wp_X5_as a0 a1 τ (fun r' τ' => r = r' ∧ Rel τ')) := by
  unfold wp_X4_as
  obtain ⟨t, ht⟩ := h.2.2.2.2.2.1
  obtain ⟨b2, b3, b4⟩ := ht.b
  have m3 := ht.2.1 3 (by omega)
  by_cases hr0 : ¬ ∃ a, a < t 3 ∧ a0 = nI a
  · exact C_lvF ht.1.1.2.1 (by omega) hr0 (z_t (M_lvF m3 (by omega) hr0 (z_t ⟨rfl, h⟩)))
  obtain ⟨l, hl, rfl⟩ := Classical.not_not.mp hr0
  refine C_lvT ht.1.1.2.1 (by omega) hl (o_t ?_)
  by_cases hk0 : ¬ ∃ a, 0 ≤ a ∧ a ≤ 5 ∧ a1 = nI a
  · exact C_wf (by omega) (by omega) hk0 (z_t' (M_lvT m3 (by omega) hl (o_t (M_if (by omega) (by omega) hk0 (z_t' ⟨rfl, h⟩)))))
  obtain ⟨a, -, ha, rfl⟩ := Classical.not_not.mp hk0
  have hI : Iv 999 t := by
    rcases ht.2.2.2.2 with ⟨-, z⟩ | ⟨-, z⟩
    · exact z
    · have := z 3 (by omega); omega
  have hk := (hI.2.2 l hl).1
  have hk5 := (hI.2.2 l hl).2.1
  refine C_wt (by omega) (by omega) (by omega) (o_t' ⟨vpN (by omega) (by omega), fun x ex => ?_⟩)
  rw [ex, nI_cl (a := l) (by omega), (ht.1.2.2 l hl).1]
  refine C_asL (by omega) (by omega) (by omega) ?_
  have mdl : ∀ (τ : PI) (Q : Int32 → PI → Prop), τ 280 = σ 280 → (asE a (t (16 + l)) = a → wp_X5_well (nI l) τ Q) → (¬ asE a (t (16 + l)) = a → wp_X5_find (nI 3) τ Q) → wp_X5_as (nI l) (nI a) τ Q := by
    intro τ Q e q1 q0
    refine M_lvT (by rw [e]; exact m3) (by omega) hl (o_t (M_it (by omega) (by omega) (by omega) (o_t' ?_)))
    rw [nI_add, nI_cl (a := 16 + l) (by omega), e, ht.2.1 _ (by omega)]
    exact ⟨vpN (by omega) (by omega), M_isKind (by omega) (by omega) (by omega) (fun q => o_t (q1 q)) (fun q => z_t (q0 q))⟩
  unfold w_X4_as_56
  have hlt : asE a (t (16 + l)) < 6 := by
    obtain ⟨s2, s3⟩ := par_2 ⟨t (16 + l), by omega⟩
    simp only at s3
    unfold asE
    split
    · omega
    · split <;> omega
  rw [nI_inj (by omega) (by omega)]
  refine ⟨fun q τ e => mdl τ _ (by rw [e, up_ne (by omega)]) (fun z => absurd z q) (fun _ υ eu => ⟨rfl, ?_⟩), fun q τ e => mdl τ _ (by rw [e, up_ne (by omega)]) (fun _ υ eu => ⟨rfl, ?_⟩) (fun z => absurd q z)⟩
  · rw [eu, e]; exact h.find
  · rw [eu, e]; exact h.find
end ST2
