def wp_X4_changeTrial (a0 : Int32) (a1 : Int32) (a2 : Int32) (σ : PI) (Q : PI → Prop) : Prop := (¬ a0 = (nI 0) → (¬ a0 = (nI 1) → vp_in a1 6 ∧ (∀ τ4 : PI, τ4 = up σ (tc 1 5) (a1 : Int32).toNatClampNeg a2 → (Q τ4))) ∧ (a0 = (nI 1) → wp_X3_sendTo 1 a1 a2 σ (fun τ5 => (Q τ5)))) ∧ (a0 = (nI 0) → vp_in a1 6 ∧ (∀ τ7 : PI, τ7 = up σ (tc 1 3) (a1 : Int32).toNatClampNeg a2 → (Q τ7)))
set_option maxRecDepth 100000 in
set_option maxHeartbeats 4000000 in
theorem ct_X4_changeTrial {l : Launch} {X : XP} (a0 : Int32) (a1 : Int32) (a2 : Int32) (σ : PI) (Q : PI → Prop) (h : wp_X4_changeTrial  a0 a1 a2 σ Q) : Ct l yX4_changeTrial cX4_changeTrial 4 none 1 X [.ref (X.1 252), .int a0, .int a1, .int a2] σ (qV Q) := by
  refine Ct_of (L := [some (.ref (X.1 252)), some (.int a0), some (.int a1), some (.int a2)]) (by decide) (Nat.le_of_ble_eq_true rfl) rfl (fun M hl cx => ?_)
  subst hl
  unfold wp_X4_changeTrial at h
  refine J_iload_n cx 1 dX4_changeTrial_0 rfl rfl ?_
  refine J_if_ne cx (tgt := 17) dX4_changeTrial_1 (by decide) (fun q1 => ?_) (fun q1 => ?_)
  · replace h := h.1 q1
    refine J_iload_n cx 1 dX4_changeTrial_17 rfl rfl ?_
    refine J_iconst cx dX4_changeTrial_18 (by decide : _ = ((nI 1) : Int32)) ?_
    refine J_icmp_ne cx (tgt := 34) dX4_changeTrial_19 (by decide) (fun q2 => ?_) (fun q2 => ?_)
    · replace h := h.1 q2
      refine J_aload_n cx 0 dX4_changeTrial_34 rfl rfl ?_
      refine J_getR cx (j := (tc 1 0)) dX4_changeTrial_35 F_X4_41 (by decide) rfl rfl rfl ?_
      refine J_getR cx (j := (tc 1 5)) dX4_changeTrial_38 F_X4_159 (tc_lt (by decide) (by decide)) (kq_t0 (by decide)) rfl (rq_t (by decide)) ?_
      refine J_iload_n cx 2 dX4_changeTrial_41 rfl rfl ?_
      refine J_iload_n cx 3 dX4_changeTrial_42 rfl rfl ?_
      obtain ⟨s3, h⟩ := h
      refine J_iast cx dX4_changeTrial_43 (tc_lt (by decide) (by decide)) (kq_t (by decide) (by decide)) s3 ?_
      refine J_nm (fun τ4 e_τ4 => ?_)
      replace h := h τ4 e_τ4
      exact J_vret cx dX4_changeTrial_44 h
    · replace h := h.2 q2
      refine J_aload_n cx 0 dX4_changeTrial_22 rfl rfl ?_
      refine J_getR cx (j := (tc 1 0)) dX4_changeTrial_23 F_X4_41 (by decide) rfl rfl rfl ?_
      refine J_iload_n cx 2 dX4_changeTrial_26 rfl rfl ?_
      refine J_iload_n cx 3 dX4_changeTrial_27 rfl rfl ?_
      refine J_cV cx dX4_changeTrial_28 V_X4_156 (by decide) (tc_lt (by decide) (by decide)) (kq_t0 (by decide)) (ct_X3_sendTo 1 (by decide) _ _ _ _ h) rfl rfl (Nat.le_of_ble_eq_true rfl) (k_v (fun τ5 h => ?_))
      refine J_goto cx (tgt := 44) dX4_changeTrial_31 (by decide) ?_
      exact J_vret cx dX4_changeTrial_44 h
  · replace h := h.2 q1
    refine J_aload_n cx 0 dX4_changeTrial_4 rfl rfl ?_
    refine J_getR cx (j := (tc 1 0)) dX4_changeTrial_5 F_X4_41 (by decide) rfl rfl rfl ?_
    refine J_getR cx (j := (tc 1 3)) dX4_changeTrial_8 F_X4_274 (tc_lt (by decide) (by decide)) (kq_t0 (by decide)) rfl (rq_t (by decide)) ?_
    refine J_iload_n cx 2 dX4_changeTrial_11 rfl rfl ?_
    refine J_iload_n cx 3 dX4_changeTrial_12 rfl rfl ?_
    obtain ⟨s6, h⟩ := h
    refine J_iast cx dX4_changeTrial_13 (tc_lt (by decide) (by decide)) (kq_t (by decide) (by decide)) s6 ?_
    refine J_nm (fun τ7 e_τ7 => ?_)
    replace h := h τ7 e_τ7
    refine J_goto cx (tgt := 44) dX4_changeTrial_14 (by decide) ?_
    exact J_vret cx dX4_changeTrial_44 h
def wp_X4_refusalOfTold (a0 : Int32) (a1 : Int32) (a2 : Int32) (a3 : Int32) (σ : PI) (Q : Int32 → PI → Prop) : Prop := wp_X4_isMan a0 σ (fun r2 τ1 => ((r2 = (nI 0) → Q (-1000001) τ1) ∧ (¬ r2 = (nI 0) → wp_X4_isRow a1 τ1 (fun r5 τ4 => ((r5 = (nI 0) → Q (-1000001) τ4) ∧ (¬ r5 = (nI 0) → wp_X4_within a3 (nI 1) (nI 12) τ4 (fun r8 τ7 => ((¬ r8 = (nI 0) → vp_in a1 8 ∧ ((¬ (τ7 (rc ((a1 : Int32).toNatClampNeg) 0) 1) = (nI 0) → vp_in a1 8 ∧ (wp_X2_holds ((a1 : Int32).toNatClampNeg) a2 a3 τ7 (fun r14 τ13 => ((¬ r14 = (nI 0) → wp_X4_unfound (nI 0) τ13 (fun r17 τ16 => (Q r17 τ16))) ∧ (r14 = (nI 0) → wp_X4_found (nI 2) τ13 (fun r19 τ18 => (Q r19 τ18))))))) ∧ ((τ7 (rc ((a1 : Int32).toNatClampNeg) 0) 1) = (nI 0) → wp_X4_found (nI 1) τ7 (fun r21 τ20 => (Q r21 τ20))))) ∧ (r8 = (nI 0) → Q (-1000001) τ7)))))))))
set_option maxRecDepth 100000 in
set_option maxHeartbeats 4000000 in
theorem ct_X4_refusalOfTold {l : Launch} {X : XP} (a0 : Int32) (a1 : Int32) (a2 : Int32) (a3 : Int32) (σ : PI) (Q : Int32 → PI → Prop) (h : wp_X4_refusalOfTold  a0 a1 a2 a3 σ Q) : Ct l yX4_refusalOfTold cX4_refusalOfTold 5 (some .int) 2 X [.ref (X.1 252), .int a0, .int a1, .int a2, .int a3] σ (qI Q) := by
  refine Ct_of (L := [some (.ref (X.1 252)), some (.int a0), some (.int a1), some (.int a2), some (.int a3)]) (by decide) (Nat.le_of_ble_eq_true rfl) rfl (fun M hl cx => ?_)
  subst hl
  unfold wp_X4_refusalOfTold at h
  refine J_aload_n cx 0 dX4_refusalOfTold_0 rfl rfl ?_
  refine J_iload_n cx 1 dX4_refusalOfTold_1 rfl rfl ?_
  refine J_cV cx dX4_refusalOfTold_2 V_X4_150 (by decide) (by decide) rfl (ct_X4_isMan   _ _ _ h) rfl rfl (Nat.le_of_ble_eq_true rfl) (k_i (fun r2 τ1 h => ?_))
  refine J_if_eq cx (tgt := 27) dX4_refusalOfTold_5 (by decide) (fun q3 => ?_) (fun q3 => ?_)
  · replace h := h.1 q3
    refine J_ldc cx (v := (-1000001)) dX4_refusalOfTold_27 gw_212 ?_
    exact J_iret cx dX4_refusalOfTold_29 h
  · replace h := h.2 q3
    refine J_aload_n cx 0 dX4_refusalOfTold_8 rfl rfl ?_
    refine J_iload_n cx 2 dX4_refusalOfTold_9 rfl rfl ?_
    refine J_cV cx dX4_refusalOfTold_10 V_X4_48 (by decide) (by decide) rfl (ct_X4_isRow   _ _ _ h) rfl rfl (Nat.le_of_ble_eq_true rfl) (k_i (fun r5 τ4 h => ?_))
    refine J_if_eq cx (tgt := 27) dX4_refusalOfTold_13 (by decide) (fun q6 => ?_) (fun q6 => ?_)
    · replace h := h.1 q6
      refine J_ldc cx (v := (-1000001)) dX4_refusalOfTold_27 gw_212 ?_
      exact J_iret cx dX4_refusalOfTold_29 h
    · replace h := h.2 q6
      refine J_iload cx dX4_refusalOfTold_16 rfl ?_
      refine J_iconst cx dX4_refusalOfTold_18 (by decide : _ = ((nI 1) : Int32)) ?_
      refine J_bipush cx dX4_refusalOfTold_19 (by decide : _ = ((nI 12) : Int32)) ?_
      refine J_cS cx dX4_refusalOfTold_21 S_X4_52 (by decide) (ct_X4_within   _ _ _ _ _ h) rfl rfl (Nat.le_of_ble_eq_true rfl) (k_i (fun r8 τ7 h => ?_))
      refine J_if_ne cx (tgt := 30) dX4_refusalOfTold_24 (by decide) (fun q9 => ?_) (fun q9 => ?_)
      · replace h := h.1 q9
        refine J_aload_n cx 0 dX4_refusalOfTold_30 rfl rfl ?_
        refine J_getR cx (j := 253) dX4_refusalOfTold_31 F_X4_11 (by decide) rfl rfl rfl ?_
        refine J_iload_n cx 2 dX4_refusalOfTold_34 rfl rfl ?_
        obtain ⟨s10, h⟩ := h
        refine J_aald cx dX4_refusalOfTold_35 (by decide) rfl (Or.inl rfl) s10 (rq_rows _) ?_
        refine J_getI cx dX4_refusalOfTold_36 F_X4_68 (rc_lt (vp_lt s10) (by decide)) (kq_r0 (vp_lt s10)) rfl ?_
        refine J_if_ne cx (tgt := 48) dX4_refusalOfTold_39 (by decide) (fun q11 => ?_) (fun q11 => ?_)
        · replace h := h.1 q11
          refine J_aload_n cx 0 dX4_refusalOfTold_48 rfl rfl ?_
          refine J_getR cx (j := 253) dX4_refusalOfTold_49 F_X4_11 (by decide) rfl rfl rfl ?_
          refine J_iload_n cx 2 dX4_refusalOfTold_52 rfl rfl ?_
          obtain ⟨s12, h⟩ := h
          refine J_aald cx dX4_refusalOfTold_53 (by decide) rfl (Or.inl rfl) s12 (rq_rows _) ?_
          refine J_iload_n cx 3 dX4_refusalOfTold_54 rfl rfl ?_
          refine J_iload cx dX4_refusalOfTold_55 rfl ?_
          refine J_cV cx dX4_refusalOfTold_57 V_X4_72 (by decide) (rc_lt (vp_lt s12) (by decide)) (kq_r0 (vp_lt s12)) (ct_X2_holds ((a1 : Int32).toNatClampNeg) (vp_lt s12) _ _ _ _ h) rfl rfl (Nat.le_of_ble_eq_true rfl) (k_i (fun r14 τ13 h => ?_))
          refine J_if_ne cx (tgt := 69) dX4_refusalOfTold_60 (by decide) (fun q15 => ?_) (fun q15 => ?_)
          · replace h := h.1 q15
            refine J_aload_n cx 0 dX4_refusalOfTold_69 rfl rfl ?_
            refine J_iconst cx dX4_refusalOfTold_70 (by decide : _ = ((nI 0) : Int32)) ?_
            refine J_cV cx dX4_refusalOfTold_71 V_X4_65 (by decide) (by decide) rfl (ct_X4_unfound   _ _ _ h) rfl rfl (Nat.le_of_ble_eq_true rfl) (k_i (fun r17 τ16 h => ?_))
            exact J_iret cx dX4_refusalOfTold_74 h
          · replace h := h.2 q15
            refine J_aload_n cx 0 dX4_refusalOfTold_63 rfl rfl ?_
            refine J_iconst cx dX4_refusalOfTold_64 (by decide : _ = ((nI 2) : Int32)) ?_
            refine J_cV cx dX4_refusalOfTold_65 V_X4_57 (by decide) (by decide) rfl (ct_X4_found   _ _ _ h) rfl rfl (Nat.le_of_ble_eq_true rfl) (k_i (fun r19 τ18 h => ?_))
            exact J_iret cx dX4_refusalOfTold_68 h
        · replace h := h.2 q11
          refine J_aload_n cx 0 dX4_refusalOfTold_42 rfl rfl ?_
          refine J_iconst cx dX4_refusalOfTold_43 (by decide : _ = ((nI 1) : Int32)) ?_
          refine J_cV cx dX4_refusalOfTold_44 V_X4_57 (by decide) (by decide) rfl (ct_X4_found   _ _ _ h) rfl rfl (Nat.le_of_ble_eq_true rfl) (k_i (fun r21 τ20 h => ?_))
          exact J_iret cx dX4_refusalOfTold_47 h
      · replace h := h.2 q9
        refine J_ldc cx (v := (-1000001)) dX4_refusalOfTold_27 gw_212 ?_
        exact J_iret cx dX4_refusalOfTold_29 h
def B_X4_trialFits_3 (o1 : Nat) (K3 : (Int32 × Int32 × Int32 × Int32 × PI → Prop)) (Q : Int32 → PI → Prop) (l1 : Int32) (l3 : Int32) (l4 : Int32) (l5 : Int32) (σ : PI) : Prop := (l4 ≤ l5 → Q (nI 1) σ) ∧ (¬ l4 ≤ l5 → wp_X3_passDay 1 σ (fun r3 τ2 => (vp_in l1 5 ∧ (vp_in (l3 + l5) 40 ∧ (((τ2 (tc 1 1) (l1 : Int32).toNatClampNeg) = (τ2 (rc o1 1) ((l3 + l5) : Int32).toNatClampNeg) → K3 (l1, l3, l4, (l5 + (nI 1)), τ2)) ∧ (¬ (τ2 (tc 1 1) (l1 : Int32).toNatClampNeg) = (τ2 (rc o1 1) ((l3 + l5) : Int32).toNatClampNeg) → Q (nI 0) τ2))))))
def w_X4_trialFits_3 (o1 : Nat) (Q : Int32 → PI → Prop) (l1 : Int32) (l3 : Int32) (l4 : Int32) (l5 : Int32) (σ : PI) : Prop := ∃ n, Lp (fun K a => B_X4_trialFits_3 o1  K Q a.1 a.2.1 a.2.2.1 a.2.2.2.1 a.2.2.2.2) n (l1, l3, l4, l5, σ)
set_option maxRecDepth 100000 in
set_option maxHeartbeats 4000000 in
theorem j_X4_trialFits_3 {M : MC} {X : XP} {Q : Int32 → PI → Prop} (o1 : Nat) (ho1 : o1 < 8) (cx : Cx M X RX4 cX4_trialFits 6 (some .boolean) 4) (l1 : Int32) (l3 : Int32) (l4 : Int32) (l5 : Int32) (σ : PI) (h : w_X4_trialFits_3 o1  Q l1 l3 l4 l5 σ) : J M X (QF M X (qI Q)) σ 3 [some (.ref (X.1 252)), some (.int l1), some (.ref (X.1 (rc o1 0))), some (.int l3), some (.int l4), some (.int l5)] [] := by
  refine Lp_J (P := fun (a : Int32 × Int32 × Int32 × Int32 × PI) => J M X (QF M X (qI Q)) (a.2.2.2.2) 3 [some (.ref (X.1 252)), some (.int a.1), some (.ref (X.1 (rc o1 0))), some (.int a.2.1), some (.int a.2.2.1), some (.int a.2.2.2.1)] []) (fun K3 hK a h => ?_) h
  obtain ⟨l1, l3, l4, l5, σ⟩ := a
  have hK3 : ∀ (l1 : Int32) (l3 : Int32) (l4 : Int32) (l5 : Int32) (σ : PI), K3 (l1, l3, l4, l5, σ) → J M X (QF M X (qI Q)) σ 3 [some (.ref (X.1 252)), some (.int l1), some (.ref (X.1 (rc o1 0))), some (.int l3), some (.int l4), some (.int l5)] [] := fun l1 l3 l4 l5 σ q => hK _ q
  replace h : B_X4_trialFits_3 o1  K3 Q l1 l3 l4 l5 σ := h
  show J M X (QF M X (qI Q)) σ 3 [some (.ref (X.1 252)), some (.int l1), some (.ref (X.1 (rc o1 0))), some (.int l3), some (.int l4), some (.int l5)] []
  unfold B_X4_trialFits_3 at h
  refine J_iload cx dX4_trialFits_3 rfl ?_
  refine J_iload cx dX4_trialFits_5 rfl ?_
  refine J_icmp_ge cx (tgt := 47) dX4_trialFits_7 (by decide) (fun q1 => ?_) (fun q1 => ?_)
  · replace h := h.1 q1
    refine J_iconst cx dX4_trialFits_47 (by decide : _ = ((nI 1) : Int32)) ?_
    exact J_zret cx dX4_trialFits_48 (Or.inr rfl) h
  · replace h := h.2 q1
    refine J_aload_n cx 0 dX4_trialFits_10 rfl rfl ?_
    refine J_getR cx (j := (tc 1 0)) dX4_trialFits_11 F_X4_41 (by decide) rfl rfl rfl ?_
    refine J_cV cx dX4_trialFits_14 V_X4_140 (by decide) (tc_lt (by decide) (by decide)) (kq_t0 (by decide)) (ct_X3_passDay 1 (by decide)  _ _ h) rfl rfl (Nat.le_of_ble_eq_true rfl) (k_i (fun r3 τ2 h => ?_))
    refine J_pop cx dX4_trialFits_17 rfl ?_
    refine J_aload_n cx 0 dX4_trialFits_18 rfl rfl ?_
    refine J_getR cx (j := (tc 1 0)) dX4_trialFits_19 F_X4_41 (by decide) rfl rfl rfl ?_
    refine J_getR cx (j := (tc 1 1)) dX4_trialFits_22 F_X4_186 (tc_lt (by decide) (by decide)) (kq_t0 (by decide)) rfl (rq_t (by decide)) ?_
    refine J_iload_n cx 1 dX4_trialFits_25 rfl rfl ?_
    obtain ⟨s4, h⟩ := h
    refine J_iald cx dX4_trialFits_26 (tc_lt (by decide) (by decide)) (kq_t (by decide) (by decide)) s4 ?_
    refine J_aload_n cx 2 dX4_trialFits_27 rfl rfl ?_
    refine J_getR cx (j := (rc o1 1)) dX4_trialFits_28 F_X4_84 (rc_lt ho1 (by decide)) (kq_r0 ho1) rfl (rq_r ho1) ?_
    refine J_iload_n cx 3 dX4_trialFits_31 rfl rfl ?_
    refine J_iload cx dX4_trialFits_32 rfl ?_
    refine J_iadd cx dX4_trialFits_34 ?_
    obtain ⟨s5, h⟩ := h
    refine J_iald cx dX4_trialFits_35 (rc_lt ho1 (by decide)) (kq_r1 ho1) s5 ?_
    refine J_icmp_eq cx (tgt := 41) dX4_trialFits_36 (by decide) (fun q6 => ?_) (fun q6 => ?_)
    · replace h := h.1 q6
      refine J_iinc cx dX4_trialFits_41 rfl (by decide : _ = ((nI 1) : Int32)) (by decide) rfl rfl ?_
      refine J_goto cx (tgt := 3) dX4_trialFits_44 (by decide) ?_
      exact hK3   _ _ _ _ _ h
    · replace h := h.2 q6
      refine J_iconst cx dX4_trialFits_39 (by decide : _ = ((nI 0) : Int32)) ?_
      exact J_zret cx dX4_trialFits_40 (Or.inl rfl) h
def wp_X4_trialFits (o1 : Nat) (a0 : Int32) (a2 : Int32) (a3 : Int32) (σ : PI) (Q : Int32 → PI → Prop) : Prop := w_X4_trialFits_3 o1  Q a0 a2 a3 (nI 0) σ
set_option maxRecDepth 100000 in
set_option maxHeartbeats 4000000 in
theorem ct_X4_trialFits {l : Launch} {X : XP} (o1 : Nat) (ho1 : o1 < 8) (a0 : Int32) (a2 : Int32) (a3 : Int32) (σ : PI) (Q : Int32 → PI → Prop) (h : wp_X4_trialFits o1 a0 a2 a3 σ Q) : Ct l yX4_trialFits cX4_trialFits 6 (some .boolean) 4 X [.ref (X.1 252), .int a0, .ref (X.1 (rc o1 0)), .int a2, .int a3] σ (qI Q) := by
  refine Ct_of (L := [some (.ref (X.1 252)), some (.int a0), some (.ref (X.1 (rc o1 0))), some (.int a2), some (.int a3), none]) (by decide) (Nat.le_of_ble_eq_true rfl) rfl (fun M hl cx => ?_)
  subst hl
  unfold wp_X4_trialFits at h
  refine J_iconst cx dX4_trialFits_0 (by decide : _ = ((nI 0) : Int32)) ?_
  refine J_istore cx dX4_trialFits_1 (by decide) rfl rfl ?_
  exact j_X4_trialFits_3 o1 ho1   cx   _ _ _ _ _ h
def w_X4_fitting_134 (K80 : (Int32 × Int32 × Int32 × Int32 × Int32 × Int32 × Int32 × Int32 × Int32 × PI → Prop)) (Q : Int32 → PI → Prop) (l1 : Int32) (l2 : Int32) (l3 : Int32) (l4 : Int32) (l5 : Int32) (l6 : Int32) (l9 : Int32) (l10 : Int32) (l11 : Int32) (σ : PI) : Prop := K80 (l1, l2, l3, l4, l5, l6, l9, l10, (l11 + (nI 1)), σ)
set_option maxRecDepth 100000 in
set_option maxHeartbeats 4000000 in
theorem j_X4_fitting_134 {M : MC} {X : XP} {Q : Int32 → PI → Prop} (K80 : (Int32 × Int32 × Int32 × Int32 × Int32 × Int32 × Int32 × Int32 × Int32 × PI → Prop)) (hK80 : ∀ (l1 : Int32) (l2 : Int32) (l3 : Int32) (l4 : Int32) (l5 : Int32) (l6 : Int32) (l9 : Int32) (l10 : Int32) (l11 : Int32) (σ : PI), K80 (l1, l2, l3, l4, l5, l6, l9, l10, l11, σ) → J M X (QF M X (qI Q)) σ 80 [some (.ref (X.1 252)), some (.int l1), some (.int l2), some (.int l3), some (.int l4), some (.int l5), some (.int l6), none, none, some (.int l9), some (.int l10), some (.int l11)] []) (cx : Cx M X RX4 cX4_fitting 12 (some .int) 5) (l1 : Int32) (l2 : Int32) (l3 : Int32) (l4 : Int32) (l5 : Int32) (l6 : Int32) (l9 : Int32) (l10 : Int32) (l11 : Int32) (σ : PI) (h : w_X4_fitting_134  K80 Q l1 l2 l3 l4 l5 l6 l9 l10 l11 σ) : J M X (QF M X (qI Q)) σ 134 [some (.ref (X.1 252)), some (.int l1), some (.int l2), some (.int l3), some (.int l4), some (.int l5), some (.int l6), none, none, some (.int l9), some (.int l10), some (.int l11)] [] := by
  unfold w_X4_fitting_134 at h
  refine J_iinc cx dX4_fitting_134 rfl (by decide : _ = ((nI 1) : Int32)) (by decide) rfl rfl ?_
  refine J_goto cx (tgt := 80) dX4_fitting_137 (by decide) ?_
  exact hK80   _ _ _ _ _ _ _ _ _ _ h
def B_X4_fitting_80 (K80 : (Int32 × Int32 × Int32 × Int32 × Int32 × Int32 × Int32 × Int32 × Int32 × PI → Prop)) (Q : Int32 → PI → Prop) (l1 : Int32) (l2 : Int32) (l3 : Int32) (l4 : Int32) (l5 : Int32) (l6 : Int32) (l9 : Int32) (l10 : Int32) (l11 : Int32) (σ : PI) : Prop := (l9 < l11 → Q l10 σ) ∧ (¬ l9 < l11 → wp_X3_copyFrom 1 0 σ (fun τ11 => (wp_X4_changeTrial l1 l2 l11 τ11 (fun τ12 => (vp_in l4 8 ∧ (wp_X4_trialFits ((l4 : Int32).toNatClampNeg) l3 l5 l6 τ12 (fun r15 τ14 => ((r15 = (nI 0) → w_X4_fitting_134  K80 Q l1 l2 l3 l4 l5 l6 l9 l10 l11 τ14) ∧ (¬ r15 = (nI 0) → ∀ x17 : Int32, x17 = (l10 ||| ((nI 1) <<< (l11 &&& 31))) → (w_X4_fitting_134  K80 Q l1 l2 l3 l4 l5 l6 l9 x17 l11 τ14))))))))))
def w_X4_fitting_80 (Q : Int32 → PI → Prop) (l1 : Int32) (l2 : Int32) (l3 : Int32) (l4 : Int32) (l5 : Int32) (l6 : Int32) (l9 : Int32) (l10 : Int32) (l11 : Int32) (σ : PI) : Prop := ∃ n, Lp (fun K a => B_X4_fitting_80   K Q a.1 a.2.1 a.2.2.1 a.2.2.2.1 a.2.2.2.2.1 a.2.2.2.2.2.1 a.2.2.2.2.2.2.1 a.2.2.2.2.2.2.2.1 a.2.2.2.2.2.2.2.2.1 a.2.2.2.2.2.2.2.2.2) n (l1, l2, l3, l4, l5, l6, l9, l10, l11, σ)
set_option maxRecDepth 100000 in
set_option maxHeartbeats 4000000 in
theorem j_X4_fitting_80 {M : MC} {X : XP} {Q : Int32 → PI → Prop} (cx : Cx M X RX4 cX4_fitting 12 (some .int) 5) (l1 : Int32) (l2 : Int32) (l3 : Int32) (l4 : Int32) (l5 : Int32) (l6 : Int32) (l9 : Int32) (l10 : Int32) (l11 : Int32) (σ : PI) (h : w_X4_fitting_80   Q l1 l2 l3 l4 l5 l6 l9 l10 l11 σ) : J M X (QF M X (qI Q)) σ 80 [some (.ref (X.1 252)), some (.int l1), some (.int l2), some (.int l3), some (.int l4), some (.int l5), some (.int l6), none, none, some (.int l9), some (.int l10), some (.int l11)] [] := by
  refine Lp_J (P := fun (a : Int32 × Int32 × Int32 × Int32 × Int32 × Int32 × Int32 × Int32 × Int32 × PI) => J M X (QF M X (qI Q)) (a.2.2.2.2.2.2.2.2.2) 80 [some (.ref (X.1 252)), some (.int a.1), some (.int a.2.1), some (.int a.2.2.1), some (.int a.2.2.2.1), some (.int a.2.2.2.2.1), some (.int a.2.2.2.2.2.1), none, none, some (.int a.2.2.2.2.2.2.1), some (.int a.2.2.2.2.2.2.2.1), some (.int a.2.2.2.2.2.2.2.2.1)] []) (fun K80 hK a h => ?_) h
  obtain ⟨l1, l2, l3, l4, l5, l6, l9, l10, l11, σ⟩ := a
  have hK80 : ∀ (l1 : Int32) (l2 : Int32) (l3 : Int32) (l4 : Int32) (l5 : Int32) (l6 : Int32) (l9 : Int32) (l10 : Int32) (l11 : Int32) (σ : PI), K80 (l1, l2, l3, l4, l5, l6, l9, l10, l11, σ) → J M X (QF M X (qI Q)) σ 80 [some (.ref (X.1 252)), some (.int l1), some (.int l2), some (.int l3), some (.int l4), some (.int l5), some (.int l6), none, none, some (.int l9), some (.int l10), some (.int l11)] [] := fun l1 l2 l3 l4 l5 l6 l9 l10 l11 σ q => hK _ q
  replace h : B_X4_fitting_80   K80 Q l1 l2 l3 l4 l5 l6 l9 l10 l11 σ := h
  show J M X (QF M X (qI Q)) σ 80 [some (.ref (X.1 252)), some (.int l1), some (.int l2), some (.int l3), some (.int l4), some (.int l5), some (.int l6), none, none, some (.int l9), some (.int l10), some (.int l11)] []
  unfold B_X4_fitting_80 at h
  refine J_iload cx dX4_fitting_80 rfl ?_
  refine J_iload cx dX4_fitting_82 rfl ?_
  refine J_icmp_gt cx (tgt := 140) dX4_fitting_84 (by decide) (fun q10 => ?_) (fun q10 => ?_)
  · replace h := h.1 q10
    refine J_iload cx dX4_fitting_140 rfl ?_
    exact J_iret cx dX4_fitting_142 h
  · replace h := h.2 q10
    refine J_aload_n cx 0 dX4_fitting_87 rfl rfl ?_
    refine J_getR cx (j := (tc 1 0)) dX4_fitting_88 F_X4_41 (by decide) rfl rfl rfl ?_
    refine J_aload_n cx 0 dX4_fitting_91 rfl rfl ?_
    refine J_getR cx (j := (tc 0 0)) dX4_fitting_92 F_X4_37 (by decide) rfl rfl rfl ?_
    refine J_cV cx dX4_fitting_95 V_X4_115 (by decide) (tc_lt (by decide) (by decide)) (kq_t0 (by decide)) (ct_X3_copyFrom 1 0 (by decide) (by decide)  _ _ h) rfl rfl (Nat.le_of_ble_eq_true rfl) (k_v (fun τ11 h => ?_))
    refine J_aload_n cx 0 dX4_fitting_98 rfl rfl ?_
    refine J_iload_n cx 1 dX4_fitting_99 rfl rfl ?_
    refine J_iload_n cx 2 dX4_fitting_100 rfl rfl ?_
    refine J_iload cx dX4_fitting_101 rfl ?_
    refine J_cV cx dX4_fitting_103 V_X4_300 (by decide) (by decide) rfl (ct_X4_changeTrial   _ _ _ _ _ h) rfl rfl (Nat.le_of_ble_eq_true rfl) (k_v (fun τ12 h => ?_))
    refine J_aload_n cx 0 dX4_fitting_106 rfl rfl ?_
    refine J_iload_n cx 3 dX4_fitting_107 rfl rfl ?_
    refine J_aload_n cx 0 dX4_fitting_108 rfl rfl ?_
    refine J_getR cx (j := 253) dX4_fitting_109 F_X4_11 (by decide) rfl rfl rfl ?_
    refine J_iload cx dX4_fitting_112 rfl ?_
    obtain ⟨s13, h⟩ := h
    refine J_aald cx dX4_fitting_114 (by decide) rfl (Or.inl rfl) s13 (rq_rows _) ?_
    refine J_iload cx dX4_fitting_115 rfl ?_
    refine J_iload cx dX4_fitting_117 rfl ?_
    refine J_cV cx dX4_fitting_119 V_X4_223 (by decide) (by decide) rfl (ct_X4_trialFits ((l4 : Int32).toNatClampNeg) (vp_lt s13) _ _ _ _ _ h) rfl rfl (Nat.le_of_ble_eq_true rfl) (k_i (fun r15 τ14 h => ?_))
    refine J_if_eq cx (tgt := 134) dX4_fitting_122 (by decide) (fun q16 => ?_) (fun q16 => ?_)
    · replace h := h.1 q16
      exact j_X4_fitting_134   K80 hK80 cx   _ _ _ _ _ _ _ _ _ _ h
    · replace h := h.2 q16
      refine J_iload cx dX4_fitting_125 rfl ?_
      refine J_iconst cx dX4_fitting_127 (by decide : _ = ((nI 1) : Int32)) ?_
      refine J_iload cx dX4_fitting_128 rfl ?_
      refine J_ishl cx dX4_fitting_130 ?_
      refine J_ior cx dX4_fitting_131 ?_
      refine J_topi (fun x17 e_x17 => ?_)
      replace h := h x17 e_x17
      refine J_istore cx dX4_fitting_132 (by decide) rfl rfl ?_
      exact j_X4_fitting_134   K80 hK80 cx   _ _ _ _ _ _ _ _ _ _ h
def w_X4_fitting_71 (Q : Int32 → PI → Prop) (l1 : Int32) (l2 : Int32) (l3 : Int32) (l4 : Int32) (l5 : Int32) (l6 : Int32) (l8 : Int32) (s0 : Int32) (σ : PI) : Prop := w_X4_fitting_80   Q l1 l2 l3 l4 l5 l6 s0 (nI 0) l8 σ
set_option maxRecDepth 100000 in
set_option maxHeartbeats 4000000 in
theorem j_X4_fitting_71 {M : MC} {X : XP} {Q : Int32 → PI → Prop} (cx : Cx M X RX4 cX4_fitting 12 (some .int) 5) (l1 : Int32) (l2 : Int32) (l3 : Int32) (l4 : Int32) (l5 : Int32) (l6 : Int32) (l8 : Int32) (s0 : Int32) (σ : PI) (h : w_X4_fitting_71   Q l1 l2 l3 l4 l5 l6 l8 s0 σ) : J M X (QF M X (qI Q)) σ 71 [some (.ref (X.1 252)), some (.int l1), some (.int l2), some (.int l3), some (.int l4), some (.int l5), some (.int l6), none, some (.int l8), none, none, none] [.int s0] := by
  unfold w_X4_fitting_71 at h
  refine J_istore cx dX4_fitting_71 (by decide) rfl rfl ?_
  refine J_iconst cx dX4_fitting_73 (by decide : _ = ((nI 0) : Int32)) ?_
  refine J_istore cx dX4_fitting_74 (by decide) rfl rfl ?_
  refine J_iload cx dX4_fitting_76 rfl ?_
  refine J_istore cx dX4_fitting_78 (by decide) rfl rfl ?_
  refine J_fg 8 rfl ?_
  exact j_X4_fitting_80     cx   _ _ _ _ _ _ _ _ _ _ h
def w_X4_fitting_42 (Q : Int32 → PI → Prop) (l1 : Int32) (l2 : Int32) (l3 : Int32) (l4 : Int32) (l5 : Int32) (l6 : Int32) (s0 : Int32) (σ : PI) : Prop := (¬ l1 = (nI 0) → (¬ l1 = (nI 1) → w_X4_fitting_71   Q l1 l2 l3 l4 l5 l6 s0 (nI 9) σ) ∧ (l1 = (nI 1) → w_X4_fitting_71   Q l1 l2 l3 l4 l5 l6 s0 ((σ (tc 0 0) 8) - (nI 1)) σ)) ∧ (l1 = (nI 0) → w_X4_fitting_71   Q l1 l2 l3 l4 l5 l6 s0 (nI 5) σ)
set_option maxRecDepth 100000 in
set_option maxHeartbeats 4000000 in
theorem j_X4_fitting_42 {M : MC} {X : XP} {Q : Int32 → PI → Prop} (cx : Cx M X RX4 cX4_fitting 12 (some .int) 5) (l1 : Int32) (l2 : Int32) (l3 : Int32) (l4 : Int32) (l5 : Int32) (l6 : Int32) (s0 : Int32) (σ : PI) (h : w_X4_fitting_42   Q l1 l2 l3 l4 l5 l6 s0 σ) : J M X (QF M X (qI Q)) σ 42 [some (.ref (X.1 252)), some (.int l1), some (.int l2), some (.int l3), some (.int l4), some (.int l5), some (.int l6), none, none, none, none, none] [.int s0] := by
  unfold w_X4_fitting_42 at h
  refine J_istore cx dX4_fitting_42 (by decide) rfl rfl ?_
  refine J_iload_n cx 1 dX4_fitting_44 rfl rfl ?_
  refine J_if_ne cx (tgt := 52) dX4_fitting_45 (by decide) (fun q8 => ?_) (fun q8 => ?_)
  · replace h := h.1 q8
    refine J_iload_n cx 1 dX4_fitting_52 rfl rfl ?_
    refine J_iconst cx dX4_fitting_53 (by decide : _ = ((nI 1) : Int32)) ?_
    refine J_icmp_ne cx (tgt := 69) dX4_fitting_54 (by decide) (fun q9 => ?_) (fun q9 => ?_)
    · replace h := h.1 q9
      refine J_bipush cx dX4_fitting_69 (by decide : _ = ((nI 9) : Int32)) ?_
      exact j_X4_fitting_71     cx   _ _ _ _ _ _ _ _ _ h
    · replace h := h.2 q9
      refine J_aload_n cx 0 dX4_fitting_57 rfl rfl ?_
      refine J_getR cx (j := (tc 0 0)) dX4_fitting_58 F_X4_37 (by decide) rfl rfl rfl ?_
      refine J_getI cx dX4_fitting_61 F_X4_200 (tc_lt (by decide) (by decide)) (kq_t0 (by decide)) rfl ?_
      refine J_iconst cx dX4_fitting_64 (by decide : _ = ((nI 1) : Int32)) ?_
      refine J_isub cx dX4_fitting_65 ?_
      refine J_goto cx (tgt := 71) dX4_fitting_66 (by decide) ?_
      exact j_X4_fitting_71     cx   _ _ _ _ _ _ _ _ _ h
  · replace h := h.2 q8
    refine J_iconst cx dX4_fitting_48 (by decide : _ = ((nI 5) : Int32)) ?_
    refine J_goto cx (tgt := 71) dX4_fitting_49 (by decide) ?_
    exact j_X4_fitting_71     cx   _ _ _ _ _ _ _ _ _ h
def wp_X4_fitting (a0 : Int32) (a1 : Int32) (a2 : Int32) (a3 : Int32) (a4 : Int32) (a5 : Int32) (σ : PI) (Q : Int32 → PI → Prop) : Prop := wp_X4_isLeaver a1 σ (fun r2 τ1 => ((¬ r2 = (nI 0) → wp_X4_refusalOfTold a2 a3 a4 a5 τ1 (fun r5 τ4 => ((r5 = (nI 0) → (¬ a0 = (nI 1) → w_X4_fitting_42   Q a0 a1 a2 a3 a4 a5 (nI 1) τ4) ∧ (a0 = (nI 1) → w_X4_fitting_42   Q a0 a1 a2 a3 a4 a5 (nI 0) τ4)) ∧ (¬ r5 = (nI 0) → Q r5 τ4)))) ∧ (r2 = (nI 0) → Q (-1000001) τ1)))
set_option maxRecDepth 100000 in
set_option maxHeartbeats 4000000 in
theorem ct_X4_fitting {l : Launch} {X : XP} (a0 : Int32) (a1 : Int32) (a2 : Int32) (a3 : Int32) (a4 : Int32) (a5 : Int32) (σ : PI) (Q : Int32 → PI → Prop) (h : wp_X4_fitting  a0 a1 a2 a3 a4 a5 σ Q) : Ct l yX4_fitting cX4_fitting 12 (some .int) 5 X [.ref (X.1 252), .int a0, .int a1, .int a2, .int a3, .int a4, .int a5] σ (qI Q) := by
  refine Ct_of (L := [some (.ref (X.1 252)), some (.int a0), some (.int a1), some (.int a2), some (.int a3), some (.int a4), some (.int a5), none, none, none, none, none]) (by decide) (Nat.le_of_ble_eq_true rfl) rfl (fun M hl cx => ?_)
  subst hl
  unfold wp_X4_fitting at h
  refine J_aload_n cx 0 dX4_fitting_0 rfl rfl ?_
  refine J_iload_n cx 2 dX4_fitting_1 rfl rfl ?_
  refine J_cV cx dX4_fitting_2 V_X4_147 (by decide) (by decide) rfl (ct_X4_isLeaver   _ _ _ h) rfl rfl (Nat.le_of_ble_eq_true rfl) (k_i (fun r2 τ1 h => ?_))
  refine J_if_ne cx (tgt := 11) dX4_fitting_5 (by decide) (fun q3 => ?_) (fun q3 => ?_)
  · replace h := h.1 q3
    refine J_aload_n cx 0 dX4_fitting_11 rfl rfl ?_
    refine J_iload_n cx 3 dX4_fitting_12 rfl rfl ?_
    refine J_iload cx dX4_fitting_13 rfl ?_
    refine J_iload cx dX4_fitting_15 rfl ?_
    refine J_iload cx dX4_fitting_17 rfl ?_
    refine J_cV cx dX4_fitting_19 V_X4_219 (by decide) (by decide) rfl (ct_X4_refusalOfTold   _ _ _ _ _ _ h) rfl rfl (Nat.le_of_ble_eq_true rfl) (k_i (fun r5 τ4 h => ?_))
    refine J_istore cx dX4_fitting_22 (by decide) rfl rfl ?_
    refine J_iload cx dX4_fitting_24 rfl ?_
    refine J_if_eq cx (tgt := 32) dX4_fitting_26 (by decide) (fun q6 => ?_) (fun q6 => ?_)
    · replace h := h.1 q6
      refine J_iload_n cx 1 dX4_fitting_32 rfl rfl ?_
      refine J_iconst cx dX4_fitting_33 (by decide : _ = ((nI 1) : Int32)) ?_
      refine J_icmp_ne cx (tgt := 41) dX4_fitting_34 (by decide) (fun q7 => ?_) (fun q7 => ?_)
      · replace h := h.1 q7
        refine J_iconst cx dX4_fitting_41 (by decide : _ = ((nI 1) : Int32)) ?_
        refine J_fg 7 rfl ?_
        exact j_X4_fitting_42     cx   _ _ _ _ _ _ _ _ h
      · replace h := h.2 q7
        refine J_iconst cx dX4_fitting_37 (by decide : _ = ((nI 0) : Int32)) ?_
        refine J_goto cx (tgt := 42) dX4_fitting_38 (by decide) ?_
        refine J_fg 7 rfl ?_
        exact j_X4_fitting_42     cx   _ _ _ _ _ _ _ _ h
    · replace h := h.2 q6
      refine J_iload cx dX4_fitting_29 rfl ?_
      exact J_iret cx dX4_fitting_31 h
  · replace h := h.2 q3
    refine J_ldc cx (v := (-1000001)) dX4_fitting_8 gw_212 ?_
    exact J_iret cx dX4_fitting_10 h
def wp_X4_who (a0 : Int32) (a1 : Int32) (a2 : Int32) (a3 : Int32) (a4 : Int32) (σ : PI) (Q : Int32 → PI → Prop) : Prop := wp_X4_fitting (nI 0) a0 a1 a2 a3 a4 σ (fun r2 τ1 => (Q r2 τ1))
set_option maxRecDepth 100000 in
set_option maxHeartbeats 4000000 in
theorem ct_X4_who {l : Launch} {X : XP} (a0 : Int32) (a1 : Int32) (a2 : Int32) (a3 : Int32) (a4 : Int32) (σ : PI) (Q : Int32 → PI → Prop) (h : wp_X4_who  a0 a1 a2 a3 a4 σ Q) : Ct l yX4_who cX4_who 6 (some .int) 6 X [.ref (X.1 252), .int a0, .int a1, .int a2, .int a3, .int a4] σ (qI Q) := by
  refine Ct_of (L := [some (.ref (X.1 252)), some (.int a0), some (.int a1), some (.int a2), some (.int a3), some (.int a4)]) (by decide) (Nat.le_of_ble_eq_true rfl) rfl (fun M hl cx => ?_)
  subst hl
  unfold wp_X4_who at h
  refine J_aload_n cx 0 dX4_who_0 rfl rfl ?_
  refine J_iconst cx dX4_who_1 (by decide : _ = ((nI 0) : Int32)) ?_
  refine J_iload_n cx 1 dX4_who_2 rfl rfl ?_
  refine J_iload_n cx 2 dX4_who_3 rfl rfl ?_
  refine J_iload_n cx 3 dX4_who_4 rfl rfl ?_
  refine J_iload cx dX4_who_5 rfl ?_
  refine J_iload cx dX4_who_7 rfl ?_
  refine J_cV cx dX4_who_9 V_X4_215 (by decide) (by decide) rfl (ct_X4_fitting   _ _ _ _ _ _ _ _ h) rfl rfl (Nat.le_of_ble_eq_true rfl) (k_i (fun r2 τ1 h => ?_))
  exact J_iret cx dX4_who_12 h
def wp_X4_houses (a0 : Int32) (a1 : Int32) (a2 : Int32) (a3 : Int32) (a4 : Int32) (σ : PI) (Q : Int32 → PI → Prop) : Prop := wp_X4_fitting (nI 1) a0 a1 a2 a3 a4 σ (fun r2 τ1 => (Q r2 τ1))
set_option maxRecDepth 100000 in
set_option maxHeartbeats 4000000 in
theorem ct_X4_houses {l : Launch} {X : XP} (a0 : Int32) (a1 : Int32) (a2 : Int32) (a3 : Int32) (a4 : Int32) (σ : PI) (Q : Int32 → PI → Prop) (h : wp_X4_houses  a0 a1 a2 a3 a4 σ Q) : Ct l yX4_houses cX4_houses 6 (some .int) 6 X [.ref (X.1 252), .int a0, .int a1, .int a2, .int a3, .int a4] σ (qI Q) := by
  refine Ct_of (L := [some (.ref (X.1 252)), some (.int a0), some (.int a1), some (.int a2), some (.int a3), some (.int a4)]) (by decide) (Nat.le_of_ble_eq_true rfl) rfl (fun M hl cx => ?_)
  subst hl
  unfold wp_X4_houses at h
  refine J_aload_n cx 0 dX4_houses_0 rfl rfl ?_
  refine J_iconst cx dX4_houses_1 (by decide : _ = ((nI 1) : Int32)) ?_
  refine J_iload_n cx 1 dX4_houses_2 rfl rfl ?_
  refine J_iload_n cx 2 dX4_houses_3 rfl rfl ?_
  refine J_iload_n cx 3 dX4_houses_4 rfl rfl ?_
  refine J_iload cx dX4_houses_5 rfl ?_
  refine J_iload cx dX4_houses_7 rfl ?_
  refine J_cV cx dX4_houses_9 V_X4_215 (by decide) (by decide) rfl (ct_X4_fitting   _ _ _ _ _ _ _ _ h) rfl rfl (Nat.le_of_ble_eq_true rfl) (k_i (fun r2 τ1 h => ?_))
  exact J_iret cx dX4_houses_12 h
def wp_X4_weights (a0 : Int32) (a1 : Int32) (a2 : Int32) (a3 : Int32) (a4 : Int32) (σ : PI) (Q : Int32 → PI → Prop) : Prop := wp_X4_fitting (nI 2) a0 a1 a2 a3 a4 σ (fun r2 τ1 => (Q r2 τ1))
set_option maxRecDepth 100000 in
set_option maxHeartbeats 4000000 in
theorem ct_X4_weights {l : Launch} {X : XP} (a0 : Int32) (a1 : Int32) (a2 : Int32) (a3 : Int32) (a4 : Int32) (σ : PI) (Q : Int32 → PI → Prop) (h : wp_X4_weights  a0 a1 a2 a3 a4 σ Q) : Ct l yX4_weights cX4_weights 6 (some .int) 6 X [.ref (X.1 252), .int a0, .int a1, .int a2, .int a3, .int a4] σ (qI Q) := by
  refine Ct_of (L := [some (.ref (X.1 252)), some (.int a0), some (.int a1), some (.int a2), some (.int a3), some (.int a4)]) (by decide) (Nat.le_of_ble_eq_true rfl) rfl (fun M hl cx => ?_)
  subst hl
  unfold wp_X4_weights at h
  refine J_aload_n cx 0 dX4_weights_0 rfl rfl ?_
  refine J_iconst cx dX4_weights_1 (by decide : _ = ((nI 2) : Int32)) ?_
  refine J_iload_n cx 1 dX4_weights_2 rfl rfl ?_
  refine J_iload_n cx 2 dX4_weights_3 rfl rfl ?_
  refine J_iload_n cx 3 dX4_weights_4 rfl rfl ?_
  refine J_iload cx dX4_weights_5 rfl ?_
  refine J_iload cx dX4_weights_7 rfl ?_
  refine J_cV cx dX4_weights_9 V_X4_215 (by decide) (by decide) rfl (ct_X4_fitting   _ _ _ _ _ _ _ _ h) rfl rfl (Nat.le_of_ble_eq_true rfl) (k_i (fun r2 τ1 h => ?_))
  exact J_iret cx dX4_weights_12 h
def w_X4_absent_118 (K58 : (Int32 × Int32 × Int32 × Int32 × Int32 × Int32 × PI → Prop)) (Q : Int32 → PI → Prop) (l1 : Int32) (l2 : Int32) (l3 : Int32) (l4 : Int32) (l6 : Int32) (l7 : Int32) (σ : PI) : Prop := K58 (l1, l2, l3, l4, l6, (l7 + (nI 1)), σ)
set_option maxRecDepth 100000 in
set_option maxHeartbeats 4000000 in
theorem j_X4_absent_118 {M : MC} {X : XP} {Q : Int32 → PI → Prop} (K58 : (Int32 × Int32 × Int32 × Int32 × Int32 × Int32 × PI → Prop)) (hK58 : ∀ (l1 : Int32) (l2 : Int32) (l3 : Int32) (l4 : Int32) (l6 : Int32) (l7 : Int32) (σ : PI), K58 (l1, l2, l3, l4, l6, l7, σ) → J M X (QF M X (qI Q)) σ 58 [some (.ref (X.1 252)), some (.int l1), some (.int l2), some (.int l3), some (.int l4), none, some (.int l6), some (.int l7)] []) (cx : Cx M X RX4 cX4_absent 8 (some .int) 5) (l1 : Int32) (l2 : Int32) (l3 : Int32) (l4 : Int32) (l6 : Int32) (l7 : Int32) (σ : PI) (h : w_X4_absent_118  K58 Q l1 l2 l3 l4 l6 l7 σ) : J M X (QF M X (qI Q)) σ 118 [some (.ref (X.1 252)), some (.int l1), some (.int l2), some (.int l3), some (.int l4), none, some (.int l6), some (.int l7)] [] := by
  unfold w_X4_absent_118 at h
  refine J_iinc cx dX4_absent_118 rfl (by decide : _ = ((nI 1) : Int32)) (by decide) rfl rfl ?_
  refine J_goto cx (tgt := 58) dX4_absent_121 (by decide) ?_
  exact hK58   _ _ _ _ _ _ _ h
def B_X4_absent_58 (K58 : (Int32 × Int32 × Int32 × Int32 × Int32 × Int32 × PI → Prop)) (Q : Int32 → PI → Prop) (l1 : Int32) (l2 : Int32) (l3 : Int32) (l4 : Int32) (l6 : Int32) (l7 : Int32) (σ : PI) : Prop := ((σ (tc 0 0) 9) ≤ l7 → Q l6 σ) ∧ (¬ (σ (tc 0 0) 9) ≤ l7 → wp_X3_copyFrom 1 0 σ (fun τ10 => (∀ τ11 : PI, τ11 = up τ10 (tc 1 0) 14 ((nI 1) <<< (l7 &&& 31)) → (vp_in l2 8 ∧ (wp_X4_trialFits ((l2 : Int32).toNatClampNeg) l1 l3 l4 τ11 (fun r14 τ13 => ((r14 = (nI 0) → w_X4_absent_118  K58 Q l1 l2 l3 l4 l6 l7 τ13) ∧ (¬ r14 = (nI 0) → ∀ x16 : Int32, x16 = (l6 ||| ((nI 1) <<< (l7 &&& 31))) → (w_X4_absent_118  K58 Q l1 l2 l3 l4 x16 l7 τ13)))))))))
def w_X4_absent_58 (Q : Int32 → PI → Prop) (l1 : Int32) (l2 : Int32) (l3 : Int32) (l4 : Int32) (l6 : Int32) (l7 : Int32) (σ : PI) : Prop := ∃ n, Lp (fun K a => B_X4_absent_58   K Q a.1 a.2.1 a.2.2.1 a.2.2.2.1 a.2.2.2.2.1 a.2.2.2.2.2.1 a.2.2.2.2.2.2) n (l1, l2, l3, l4, l6, l7, σ)
set_option maxRecDepth 100000 in
set_option maxHeartbeats 4000000 in
theorem j_X4_absent_58 {M : MC} {X : XP} {Q : Int32 → PI → Prop} (cx : Cx M X RX4 cX4_absent 8 (some .int) 5) (l1 : Int32) (l2 : Int32) (l3 : Int32) (l4 : Int32) (l6 : Int32) (l7 : Int32) (σ : PI) (h : w_X4_absent_58   Q l1 l2 l3 l4 l6 l7 σ) : J M X (QF M X (qI Q)) σ 58 [some (.ref (X.1 252)), some (.int l1), some (.int l2), some (.int l3), some (.int l4), none, some (.int l6), some (.int l7)] [] := by
  refine Lp_J (P := fun (a : Int32 × Int32 × Int32 × Int32 × Int32 × Int32 × PI) => J M X (QF M X (qI Q)) (a.2.2.2.2.2.2) 58 [some (.ref (X.1 252)), some (.int a.1), some (.int a.2.1), some (.int a.2.2.1), some (.int a.2.2.2.1), none, some (.int a.2.2.2.2.1), some (.int a.2.2.2.2.2.1)] []) (fun K58 hK a h => ?_) h
  obtain ⟨l1, l2, l3, l4, l6, l7, σ⟩ := a
  have hK58 : ∀ (l1 : Int32) (l2 : Int32) (l3 : Int32) (l4 : Int32) (l6 : Int32) (l7 : Int32) (σ : PI), K58 (l1, l2, l3, l4, l6, l7, σ) → J M X (QF M X (qI Q)) σ 58 [some (.ref (X.1 252)), some (.int l1), some (.int l2), some (.int l3), some (.int l4), none, some (.int l6), some (.int l7)] [] := fun l1 l2 l3 l4 l6 l7 σ q => hK _ q
  replace h : B_X4_absent_58   K58 Q l1 l2 l3 l4 l6 l7 σ := h
  show J M X (QF M X (qI Q)) σ 58 [some (.ref (X.1 252)), some (.int l1), some (.int l2), some (.int l3), some (.int l4), none, some (.int l6), some (.int l7)] []
  unfold B_X4_absent_58 at h
  refine J_iload cx dX4_absent_58 rfl ?_
  refine J_aload_n cx 0 dX4_absent_60 rfl rfl ?_
  refine J_getR cx (j := (tc 0 0)) dX4_absent_61 F_X4_37 (by decide) rfl rfl rfl ?_
  refine J_getI cx dX4_absent_64 F_X4_122 (tc_lt (by decide) (by decide)) (kq_t0 (by decide)) rfl ?_
  refine J_icmp_ge cx (tgt := 124) dX4_absent_67 (by decide) (fun q9 => ?_) (fun q9 => ?_)
  · replace h := h.1 q9
    refine J_iload cx dX4_absent_124 rfl ?_
    exact J_iret cx dX4_absent_126 h
  · replace h := h.2 q9
    refine J_aload_n cx 0 dX4_absent_70 rfl rfl ?_
    refine J_getR cx (j := (tc 1 0)) dX4_absent_71 F_X4_41 (by decide) rfl rfl rfl ?_
    refine J_aload_n cx 0 dX4_absent_74 rfl rfl ?_
    refine J_getR cx (j := (tc 0 0)) dX4_absent_75 F_X4_37 (by decide) rfl rfl rfl ?_
    refine J_cV cx dX4_absent_78 V_X4_115 (by decide) (tc_lt (by decide) (by decide)) (kq_t0 (by decide)) (ct_X3_copyFrom 1 0 (by decide) (by decide)  _ _ h) rfl rfl (Nat.le_of_ble_eq_true rfl) (k_v (fun τ10 h => ?_))
    refine J_aload_n cx 0 dX4_absent_81 rfl rfl ?_
    refine J_getR cx (j := (tc 1 0)) dX4_absent_82 F_X4_41 (by decide) rfl rfl rfl ?_
    refine J_iconst cx dX4_absent_85 (by decide : _ = ((nI 1) : Int32)) ?_
    refine J_iload cx dX4_absent_86 rfl ?_
    refine J_ishl cx dX4_absent_88 ?_
    refine J_putI cx dX4_absent_89 (P_X4_227 _) (tc_lt (by decide) (by decide)) (kq_t0 (by decide)) rfl ?_
    refine J_nm (fun τ11 e_τ11 => ?_)
    replace h := h τ11 e_τ11
    refine J_aload_n cx 0 dX4_absent_92 rfl rfl ?_
    refine J_iload_n cx 1 dX4_absent_93 rfl rfl ?_
    refine J_aload_n cx 0 dX4_absent_94 rfl rfl ?_
    refine J_getR cx (j := 253) dX4_absent_95 F_X4_11 (by decide) rfl rfl rfl ?_
    refine J_iload_n cx 2 dX4_absent_98 rfl rfl ?_
    obtain ⟨s12, h⟩ := h
    refine J_aald cx dX4_absent_99 (by decide) rfl (Or.inl rfl) s12 (rq_rows _) ?_
    refine J_iload_n cx 3 dX4_absent_100 rfl rfl ?_
    refine J_iload cx dX4_absent_101 rfl ?_
    refine J_cV cx dX4_absent_103 V_X4_223 (by decide) (by decide) rfl (ct_X4_trialFits ((l2 : Int32).toNatClampNeg) (vp_lt s12) _ _ _ _ _ h) rfl rfl (Nat.le_of_ble_eq_true rfl) (k_i (fun r14 τ13 h => ?_))
    refine J_if_eq cx (tgt := 118) dX4_absent_106 (by decide) (fun q15 => ?_) (fun q15 => ?_)
    · replace h := h.1 q15
      exact j_X4_absent_118   K58 hK58 cx   _ _ _ _ _ _ _ h
    · replace h := h.2 q15
      refine J_iload cx dX4_absent_109 rfl ?_
      refine J_iconst cx dX4_absent_111 (by decide : _ = ((nI 1) : Int32)) ?_
      refine J_iload cx dX4_absent_112 rfl ?_
      refine J_ishl cx dX4_absent_114 ?_
      refine J_ior cx dX4_absent_115 ?_
      refine J_topi (fun x16 e_x16 => ?_)
      replace h := h x16 e_x16
      refine J_istore cx dX4_absent_116 (by decide) rfl rfl ?_
      exact j_X4_absent_118   K58 hK58 cx   _ _ _ _ _ _ _ h
def w_X4_absent_53 (Q : Int32 → PI → Prop) (l1 : Int32) (l2 : Int32) (l3 : Int32) (l4 : Int32) (s0 : Int32) (σ : PI) : Prop := w_X4_absent_58   Q l1 l2 l3 l4 s0 (nI 0) σ
set_option maxRecDepth 100000 in
set_option maxHeartbeats 4000000 in
theorem j_X4_absent_53 {M : MC} {X : XP} {Q : Int32 → PI → Prop} (cx : Cx M X RX4 cX4_absent 8 (some .int) 5) (l1 : Int32) (l2 : Int32) (l3 : Int32) (l4 : Int32) (s0 : Int32) (σ : PI) (h : w_X4_absent_53   Q l1 l2 l3 l4 s0 σ) : J M X (QF M X (qI Q)) σ 53 [some (.ref (X.1 252)), some (.int l1), some (.int l2), some (.int l3), some (.int l4), none, none, none] [.int s0] := by
  unfold w_X4_absent_53 at h
  refine J_istore cx dX4_absent_53 (by decide) rfl rfl ?_
  refine J_iconst cx dX4_absent_55 (by decide : _ = ((nI 0) : Int32)) ?_
  refine J_istore cx dX4_absent_56 (by decide) rfl rfl ?_
  exact j_X4_absent_58     cx   _ _ _ _ _ _ _ h
def wp_X4_absent (a0 : Int32) (a1 : Int32) (a2 : Int32) (a3 : Int32) (σ : PI) (Q : Int32 → PI → Prop) : Prop := wp_X4_refusalOfTold a0 a1 a2 a3 σ (fun r2 τ1 => ((r2 = (nI 0) → wp_X3_copyFrom 1 0 τ1 (fun τ4 => (vp_in a1 8 ∧ (wp_X4_trialFits ((a1 : Int32).toNatClampNeg) a0 a2 a3 τ4 (fun r7 τ6 => ((r7 = (nI 0) → w_X4_absent_53   Q a0 a1 a2 a3 (nI 0) τ6) ∧ (¬ r7 = (nI 0) → w_X4_absent_53   Q a0 a1 a2 a3 (nI 64) τ6))))))) ∧ (¬ r2 = (nI 0) → Q r2 τ1)))
set_option maxRecDepth 100000 in
set_option maxHeartbeats 4000000 in
theorem ct_X4_absent {l : Launch} {X : XP} (a0 : Int32) (a1 : Int32) (a2 : Int32) (a3 : Int32) (σ : PI) (Q : Int32 → PI → Prop) (h : wp_X4_absent  a0 a1 a2 a3 σ Q) : Ct l yX4_absent cX4_absent 8 (some .int) 5 X [.ref (X.1 252), .int a0, .int a1, .int a2, .int a3] σ (qI Q) := by
  refine Ct_of (L := [some (.ref (X.1 252)), some (.int a0), some (.int a1), some (.int a2), some (.int a3), none, none, none]) (by decide) (Nat.le_of_ble_eq_true rfl) rfl (fun M hl cx => ?_)
  subst hl
  unfold wp_X4_absent at h
  refine J_aload_n cx 0 dX4_absent_0 rfl rfl ?_
  refine J_iload_n cx 1 dX4_absent_1 rfl rfl ?_
  refine J_iload_n cx 2 dX4_absent_2 rfl rfl ?_
  refine J_iload_n cx 3 dX4_absent_3 rfl rfl ?_
  refine J_iload cx dX4_absent_4 rfl ?_
  refine J_cV cx dX4_absent_6 V_X4_219 (by decide) (by decide) rfl (ct_X4_refusalOfTold   _ _ _ _ _ _ h) rfl rfl (Nat.le_of_ble_eq_true rfl) (k_i (fun r2 τ1 h => ?_))
  refine J_istore cx dX4_absent_9 (by decide) rfl rfl ?_
  refine J_iload cx dX4_absent_11 rfl ?_
  refine J_if_eq cx (tgt := 19) dX4_absent_13 (by decide) (fun q3 => ?_) (fun q3 => ?_)
  · replace h := h.1 q3
    refine J_aload_n cx 0 dX4_absent_19 rfl rfl ?_
    refine J_getR cx (j := (tc 1 0)) dX4_absent_20 F_X4_41 (by decide) rfl rfl rfl ?_
    refine J_aload_n cx 0 dX4_absent_23 rfl rfl ?_
    refine J_getR cx (j := (tc 0 0)) dX4_absent_24 F_X4_37 (by decide) rfl rfl rfl ?_
    refine J_cV cx dX4_absent_27 V_X4_115 (by decide) (tc_lt (by decide) (by decide)) (kq_t0 (by decide)) (ct_X3_copyFrom 1 0 (by decide) (by decide)  _ _ h) rfl rfl (Nat.le_of_ble_eq_true rfl) (k_v (fun τ4 h => ?_))
    refine J_aload_n cx 0 dX4_absent_30 rfl rfl ?_
    refine J_iload_n cx 1 dX4_absent_31 rfl rfl ?_
    refine J_aload_n cx 0 dX4_absent_32 rfl rfl ?_
    refine J_getR cx (j := 253) dX4_absent_33 F_X4_11 (by decide) rfl rfl rfl ?_
    refine J_iload_n cx 2 dX4_absent_36 rfl rfl ?_
    obtain ⟨s5, h⟩ := h
    refine J_aald cx dX4_absent_37 (by decide) rfl (Or.inl rfl) s5 (rq_rows _) ?_
    refine J_iload_n cx 3 dX4_absent_38 rfl rfl ?_
    refine J_iload cx dX4_absent_39 rfl ?_
    refine J_cV cx dX4_absent_41 V_X4_223 (by decide) (by decide) rfl (ct_X4_trialFits ((a1 : Int32).toNatClampNeg) (vp_lt s5) _ _ _ _ _ h) rfl rfl (Nat.le_of_ble_eq_true rfl) (k_i (fun r7 τ6 h => ?_))
    refine J_if_eq cx (tgt := 52) dX4_absent_44 (by decide) (fun q8 => ?_) (fun q8 => ?_)
    · replace h := h.1 q8
      refine J_iconst cx dX4_absent_52 (by decide : _ = ((nI 0) : Int32)) ?_
      refine J_fg 5 rfl ?_
      exact j_X4_absent_53     cx   _ _ _ _ _ _ h
    · replace h := h.2 q8
      refine J_bipush cx dX4_absent_47 (by decide : _ = ((nI 64) : Int32)) ?_
      refine J_goto cx (tgt := 53) dX4_absent_49 (by decide) ?_
      refine J_fg 5 rfl ?_
      exact j_X4_absent_53     cx   _ _ _ _ _ _ h
  · replace h := h.2 q3
    refine J_iload cx dX4_absent_16 rfl ?_
    exact J_iret cx dX4_absent_18 h
def wp_X4_isFree (a0 : Int32) (σ : PI) (Q : Int32 → PI → Prop) : Prop := wp_X4_bit (σ (tc 0 0) 13) a0 σ (fun r2 τ1 => ((¬ r2 = (nI 0) → Q (nI 0) τ1) ∧ (r2 = (nI 0) → wp_X3_awayFrom 0 a0 τ1 (fun r5 τ4 => ((¬ r5 = (nI 0) → Q (nI 0) τ4) ∧ (r5 = (nI 0) → Q (nI 1) τ4))))))
set_option maxRecDepth 100000 in
set_option maxHeartbeats 4000000 in
theorem ct_X4_isFree {l : Launch} {X : XP} (a0 : Int32) (σ : PI) (Q : Int32 → PI → Prop) (h : wp_X4_isFree  a0 σ Q) : Ct l yX4_isFree cX4_isFree 2 (some .boolean) 3 X [.ref (X.1 252), .int a0] σ (qI Q) := by
  refine Ct_of (L := [some (.ref (X.1 252)), some (.int a0)]) (by decide) (Nat.le_of_ble_eq_true rfl) rfl (fun M hl cx => ?_)
  subst hl
  unfold wp_X4_isFree at h
  refine J_aload_n cx 0 dX4_isFree_0 rfl rfl ?_
  refine J_getR cx (j := (tc 0 0)) dX4_isFree_1 F_X4_37 (by decide) rfl rfl rfl ?_
  refine J_getI cx dX4_isFree_4 F_X4_165 (tc_lt (by decide) (by decide)) (kq_t0 (by decide)) rfl ?_
  refine J_iload_n cx 1 dX4_isFree_7 rfl rfl ?_
  refine J_cS cx dX4_isFree_8 S_X4_168 (by decide) (ct_X4_bit   _ _ _ _ h) rfl rfl (Nat.le_of_ble_eq_true rfl) (k_i (fun r2 τ1 h => ?_))
  refine J_if_ne cx (tgt := 29) dX4_isFree_11 (by decide) (fun q3 => ?_) (fun q3 => ?_)
  · replace h := h.1 q3
    refine J_iconst cx dX4_isFree_29 (by decide : _ = ((nI 0) : Int32)) ?_
    exact J_zret cx dX4_isFree_30 (Or.inl rfl) h
  · replace h := h.2 q3
    refine J_aload_n cx 0 dX4_isFree_14 rfl rfl ?_
    refine J_getR cx (j := (tc 0 0)) dX4_isFree_15 F_X4_37 (by decide) rfl rfl rfl ?_
    refine J_iload_n cx 1 dX4_isFree_18 rfl rfl ?_
    refine J_cV cx dX4_isFree_19 V_X4_189 (by decide) (tc_lt (by decide) (by decide)) (kq_t0 (by decide)) (ct_X3_awayFrom 0 (by decide) _ _ _ h) rfl rfl (Nat.le_of_ble_eq_true rfl) (k_i (fun r5 τ4 h => ?_))
    refine J_if_ne cx (tgt := 29) dX4_isFree_22 (by decide) (fun q6 => ?_) (fun q6 => ?_)
    · replace h := h.1 q6
      refine J_iconst cx dX4_isFree_29 (by decide : _ = ((nI 0) : Int32)) ?_
      exact J_zret cx dX4_isFree_30 (Or.inl rfl) h
    · replace h := h.2 q6
      refine J_iconst cx dX4_isFree_25 (by decide : _ = ((nI 1) : Int32)) ?_
      refine J_goto cx (tgt := 30) dX4_isFree_26 (by decide) ?_
      exact J_zret cx dX4_isFree_30 (Or.inr rfl) h
def w_X4_greets_82 (K28 : (Int32 × Int32 × Int32 × Int32 × PI → Prop)) (Q : Int32 → PI → Prop) (l1 : Int32) (l2 : Int32) (l3 : Int32) (l4 : Int32) (σ : PI) : Prop := K28 (l1, l2, l3, (l4 + (nI 1)), σ)
set_option maxRecDepth 100000 in
set_option maxHeartbeats 4000000 in
theorem j_X4_greets_82 {M : MC} {X : XP} {Q : Int32 → PI → Prop} (K28 : (Int32 × Int32 × Int32 × Int32 × PI → Prop)) (hK28 : ∀ (l1 : Int32) (l2 : Int32) (l3 : Int32) (l4 : Int32) (σ : PI), K28 (l1, l2, l3, l4, σ) → J M X (QF M X (qI Q)) σ 28 [some (.ref (X.1 252)), some (.int l1), some (.int l2), some (.int l3), some (.int l4)] []) (cx : Cx M X RX4 cX4_greets 5 (some .int) 4) (l1 : Int32) (l2 : Int32) (l3 : Int32) (l4 : Int32) (σ : PI) (h : w_X4_greets_82  K28 Q l1 l2 l3 l4 σ) : J M X (QF M X (qI Q)) σ 82 [some (.ref (X.1 252)), some (.int l1), some (.int l2), some (.int l3), some (.int l4)] [] := by
  unfold w_X4_greets_82 at h
  refine J_iinc cx dX4_greets_82 rfl (by decide : _ = ((nI 1) : Int32)) (by decide) rfl rfl ?_
  refine J_goto cx (tgt := 28) dX4_greets_85 (by decide) ?_
  exact hK28   _ _ _ _ _ h
def B_X4_greets_28 (K28 : (Int32 × Int32 × Int32 × Int32 × PI → Prop)) (Q : Int32 → PI → Prop) (l1 : Int32) (l2 : Int32) (l3 : Int32) (l4 : Int32) (σ : PI) : Prop := ((σ (tc 0 0) 8) ≤ (l4 + (nI 1)) → (¬ l1 = (nI 0) → Q l3 σ) ∧ (l1 = (nI 0) → Q l2 σ)) ∧ (¬ (σ (tc 0 0) 8) ≤ (l4 + (nI 1)) → wp_X4_isFree l4 σ (fun r10 τ9 => ((r10 = (nI 0) → w_X4_greets_82  K28 Q l1 l2 l3 l4 τ9) ∧ (¬ r10 = (nI 0) → wp_X4_isFree (l4 + (nI 1)) τ9 (fun r13 τ12 => ((r13 = (nI 0) → w_X4_greets_82  K28 Q l1 l2 l3 l4 τ12) ∧ (¬ r13 = (nI 0) → (¬ l3 = (-1000000) → w_X4_greets_82  K28 Q l1 (l2 + (nI 1)) l3 l4 τ12) ∧ (l3 = (-1000000) → ∀ x16 : Int32, x16 = ((((nI 10) * l4) + l4) + (nI 1)) → (w_X4_greets_82  K28 Q l1 (l2 + (nI 1)) x16 l4 τ12)))))))))
def w_X4_greets_28 (Q : Int32 → PI → Prop) (l1 : Int32) (l2 : Int32) (l3 : Int32) (l4 : Int32) (σ : PI) : Prop := ∃ n, Lp (fun K a => B_X4_greets_28   K Q a.1 a.2.1 a.2.2.1 a.2.2.2.1 a.2.2.2.2) n (l1, l2, l3, l4, σ)
set_option maxRecDepth 100000 in
set_option maxHeartbeats 4000000 in
theorem j_X4_greets_28 {M : MC} {X : XP} {Q : Int32 → PI → Prop} (cx : Cx M X RX4 cX4_greets 5 (some .int) 4) (l1 : Int32) (l2 : Int32) (l3 : Int32) (l4 : Int32) (σ : PI) (h : w_X4_greets_28   Q l1 l2 l3 l4 σ) : J M X (QF M X (qI Q)) σ 28 [some (.ref (X.1 252)), some (.int l1), some (.int l2), some (.int l3), some (.int l4)] [] := by
  refine Lp_J (P := fun (a : Int32 × Int32 × Int32 × Int32 × PI) => J M X (QF M X (qI Q)) (a.2.2.2.2) 28 [some (.ref (X.1 252)), some (.int a.1), some (.int a.2.1), some (.int a.2.2.1), some (.int a.2.2.2.1)] []) (fun K28 hK a h => ?_) h
  obtain ⟨l1, l2, l3, l4, σ⟩ := a
  have hK28 : ∀ (l1 : Int32) (l2 : Int32) (l3 : Int32) (l4 : Int32) (σ : PI), K28 (l1, l2, l3, l4, σ) → J M X (QF M X (qI Q)) σ 28 [some (.ref (X.1 252)), some (.int l1), some (.int l2), some (.int l3), some (.int l4)] [] := fun l1 l2 l3 l4 σ q => hK _ q
  replace h : B_X4_greets_28   K28 Q l1 l2 l3 l4 σ := h
  show J M X (QF M X (qI Q)) σ 28 [some (.ref (X.1 252)), some (.int l1), some (.int l2), some (.int l3), some (.int l4)] []
  unfold B_X4_greets_28 at h
  refine J_iload cx dX4_greets_28 rfl ?_
  refine J_iconst cx dX4_greets_30 (by decide : _ = ((nI 1) : Int32)) ?_
  refine J_iadd cx dX4_greets_31 ?_
  refine J_aload_n cx 0 dX4_greets_32 rfl rfl ?_
  refine J_getR cx (j := (tc 0 0)) dX4_greets_33 F_X4_37 (by decide) rfl rfl rfl ?_
  refine J_getI cx dX4_greets_36 F_X4_200 (tc_lt (by decide) (by decide)) (kq_t0 (by decide)) rfl ?_
  refine J_icmp_ge cx (tgt := 88) dX4_greets_39 (by decide) (fun q7 => ?_) (fun q7 => ?_)
  · replace h := h.1 q7
    refine J_iload_n cx 1 dX4_greets_88 rfl rfl ?_
    refine J_if_ne cx (tgt := 96) dX4_greets_89 (by decide) (fun q8 => ?_) (fun q8 => ?_)
    · replace h := h.1 q8
      refine J_iload_n cx 3 dX4_greets_96 rfl rfl ?_
      exact J_iret cx dX4_greets_97 h
    · replace h := h.2 q8
      refine J_iload_n cx 2 dX4_greets_92 rfl rfl ?_
      refine J_goto cx (tgt := 97) dX4_greets_93 (by decide) ?_
      exact J_iret cx dX4_greets_97 h
  · replace h := h.2 q7
    refine J_aload_n cx 0 dX4_greets_42 rfl rfl ?_
    refine J_iload cx dX4_greets_43 rfl ?_
    refine J_cV cx dX4_greets_45 V_X4_230 (by decide) (by decide) rfl (ct_X4_isFree   _ _ _ h) rfl rfl (Nat.le_of_ble_eq_true rfl) (k_i (fun r10 τ9 h => ?_))
    refine J_if_eq cx (tgt := 82) dX4_greets_48 (by decide) (fun q11 => ?_) (fun q11 => ?_)
    · replace h := h.1 q11
      exact j_X4_greets_82   K28 hK28 cx   _ _ _ _ _ h
    · replace h := h.2 q11
      refine J_aload_n cx 0 dX4_greets_51 rfl rfl ?_
      refine J_iload cx dX4_greets_52 rfl ?_
      refine J_iconst cx dX4_greets_54 (by decide : _ = ((nI 1) : Int32)) ?_
      refine J_iadd cx dX4_greets_55 ?_
      refine J_cV cx dX4_greets_56 V_X4_230 (by decide) (by decide) rfl (ct_X4_isFree   _ _ _ h) rfl rfl (Nat.le_of_ble_eq_true rfl) (k_i (fun r13 τ12 h => ?_))
      refine J_if_eq cx (tgt := 82) dX4_greets_59 (by decide) (fun q14 => ?_) (fun q14 => ?_)
      · replace h := h.1 q14
        exact j_X4_greets_82   K28 hK28 cx   _ _ _ _ _ h
      · replace h := h.2 q14
        refine J_iinc cx dX4_greets_62 rfl (by decide : _ = ((nI 1) : Int32)) (by decide) rfl rfl ?_
        refine J_iload_n cx 3 dX4_greets_65 rfl rfl ?_
        refine J_ldc cx (v := (-1000000)) dX4_greets_66 gw_462 ?_
        refine J_icmp_ne cx (tgt := 82) dX4_greets_68 (by decide) (fun q15 => ?_) (fun q15 => ?_)
        · replace h := h.1 q15
          exact j_X4_greets_82   K28 hK28 cx   _ _ _ _ _ h
        · replace h := h.2 q15
          refine J_bipush cx dX4_greets_71 (by decide : _ = ((nI 10) : Int32)) ?_
          refine J_iload cx dX4_greets_73 rfl ?_
          refine J_imul cx dX4_greets_75 ?_
          refine J_iload cx dX4_greets_76 rfl ?_
          refine J_iadd cx dX4_greets_78 ?_
          refine J_iconst cx dX4_greets_79 (by decide : _ = ((nI 1) : Int32)) ?_
          refine J_iadd cx dX4_greets_80 ?_
          refine J_topi (fun x16 e_x16 => ?_)
          replace h := h x16 e_x16
          refine J_istore_n cx 3 dX4_greets_81 rfl (by decide) rfl rfl ?_
          exact j_X4_greets_82   K28 hK28 cx   _ _ _ _ _ h
def wp_X4_greets (a0 : Int32) (σ : PI) (Q : Int32 → PI → Prop) : Prop := wp_X4_hasTown  σ (fun r2 τ1 => ((¬ r2 = (nI 0) → wp_X4_isBit a0 τ1 (fun r5 τ4 => ((¬ r5 = (nI 0) → w_X4_greets_28   Q a0 (nI 0) (-1000000) (nI 0) τ4) ∧ (r5 = (nI 0) → Q (-1000001) τ4)))) ∧ (r2 = (nI 0) → Q (-1000002) τ1)))
set_option maxRecDepth 100000 in
set_option maxHeartbeats 4000000 in
theorem ct_X4_greets {l : Launch} {X : XP} (a0 : Int32) (σ : PI) (Q : Int32 → PI → Prop) (h : wp_X4_greets  a0 σ Q) : Ct l yX4_greets cX4_greets 5 (some .int) 4 X [.ref (X.1 252), .int a0] σ (qI Q) := by
  refine Ct_of (L := [some (.ref (X.1 252)), some (.int a0), none, none, none]) (by decide) (Nat.le_of_ble_eq_true rfl) rfl (fun M hl cx => ?_)
  subst hl
  unfold wp_X4_greets at h
  refine J_aload_n cx 0 dX4_greets_0 rfl rfl ?_
  refine J_cV cx dX4_greets_1 V_X4_130 (by decide) (by decide) rfl (ct_X4_hasTown    _ _ h) rfl rfl (Nat.le_of_ble_eq_true rfl) (k_i (fun r2 τ1 h => ?_))
  refine J_if_ne cx (tgt := 10) dX4_greets_4 (by decide) (fun q3 => ?_) (fun q3 => ?_)
  · replace h := h.1 q3
    refine J_iload_n cx 1 dX4_greets_10 rfl rfl ?_
    refine J_cS cx dX4_greets_11 S_X4_162 (by decide) (ct_X4_isBit   _ _ _ h) rfl rfl (Nat.le_of_ble_eq_true rfl) (k_i (fun r5 τ4 h => ?_))
    refine J_if_ne cx (tgt := 20) dX4_greets_14 (by decide) (fun q6 => ?_) (fun q6 => ?_)
    · replace h := h.1 q6
      refine J_iconst cx dX4_greets_20 (by decide : _ = ((nI 0) : Int32)) ?_
      refine J_istore_n cx 2 dX4_greets_21 rfl (by decide) rfl rfl ?_
      refine J_ldc cx (v := (-1000000)) dX4_greets_22 gw_462 ?_
      refine J_istore_n cx 3 dX4_greets_24 rfl (by decide) rfl rfl ?_
      refine J_iconst cx dX4_greets_25 (by decide : _ = ((nI 0) : Int32)) ?_
      refine J_istore cx dX4_greets_26 (by decide) rfl rfl ?_
      exact j_X4_greets_28     cx   _ _ _ _ _ h
    · replace h := h.2 q6
      refine J_ldc cx (v := (-1000001)) dX4_greets_17 gw_212 ?_
      exact J_iret cx dX4_greets_19 h
  · replace h := h.2 q3
    refine J_ldc cx (v := (-1000002)) dX4_greets_7 gw_336 ?_
    exact J_iret cx dX4_greets_9 h
def B_X4_talk_30 (K30 : (Int32 × Int32 × Int32 × PI → Prop)) (Q : Int32 → PI → Prop) (l1 : Int32) (l2 : Int32) (l3 : Int32) (σ : PI) : Prop := ((if l1 < l2 then l2 else l1) < l3 → Q (nI 1) σ) ∧ (¬ (if l1 < l2 then l2 else l1) < l3 → wp_X4_bit (σ (tc 0 0) 13) l3 σ (fun r11 τ10 => ((¬ r11 = (nI 1) → K30 (l1, l2, (l3 + (nI 1)), τ10)) ∧ (r11 = (nI 1) → Q (nI 0) τ10))))
def w_X4_talk_30 (Q : Int32 → PI → Prop) (l1 : Int32) (l2 : Int32) (l3 : Int32) (σ : PI) : Prop := ∃ n, Lp (fun K a => B_X4_talk_30   K Q a.1 a.2.1 a.2.2.1 a.2.2.2) n (l1, l2, l3, σ)
set_option maxRecDepth 100000 in
set_option maxHeartbeats 4000000 in
theorem j_X4_talk_30 {M : MC} {X : XP} {Q : Int32 → PI → Prop} (cx : Cx M X RX4 cX4_talk 4 (some .int) 2) (l1 : Int32) (l2 : Int32) (l3 : Int32) (σ : PI) (h : w_X4_talk_30   Q l1 l2 l3 σ) : J M X (QF M X (qI Q)) σ 30 [some (.ref (X.1 252)), some (.int l1), some (.int l2), some (.int l3)] [] := by
  refine Lp_J (P := fun (a : Int32 × Int32 × Int32 × PI) => J M X (QF M X (qI Q)) (a.2.2.2) 30 [some (.ref (X.1 252)), some (.int a.1), some (.int a.2.1), some (.int a.2.2.1)] []) (fun K30 hK a h => ?_) h
  obtain ⟨l1, l2, l3, σ⟩ := a
  have hK30 : ∀ (l1 : Int32) (l2 : Int32) (l3 : Int32) (σ : PI), K30 (l1, l2, l3, σ) → J M X (QF M X (qI Q)) σ 30 [some (.ref (X.1 252)), some (.int l1), some (.int l2), some (.int l3)] [] := fun l1 l2 l3 σ q => hK _ q
  replace h : B_X4_talk_30   K30 Q l1 l2 l3 σ := h
  show J M X (QF M X (qI Q)) σ 30 [some (.ref (X.1 252)), some (.int l1), some (.int l2), some (.int l3)] []
  unfold B_X4_talk_30 at h
  refine J_iload_n cx 3 dX4_talk_30 rfl rfl ?_
  refine J_iload_n cx 1 dX4_talk_31 rfl rfl ?_
  refine J_iload_n cx 2 dX4_talk_32 rfl rfl ?_
  refine J_mmax cx dX4_talk_33 (by decide) (Nat.le_of_ble_eq_true rfl) gw_542 mx_s mx_c ?_
  refine J_icmp_gt cx (tgt := 62) dX4_talk_36 (by decide) (fun q9 => ?_) (fun q9 => ?_)
  · replace h := h.1 q9
    refine J_iconst cx dX4_talk_62 (by decide : _ = ((nI 1) : Int32)) ?_
    exact J_iret cx dX4_talk_63 h
  · replace h := h.2 q9
    refine J_aload_n cx 0 dX4_talk_39 rfl rfl ?_
    refine J_getR cx (j := (tc 0 0)) dX4_talk_40 F_X4_37 (by decide) rfl rfl rfl ?_
    refine J_getI cx dX4_talk_43 F_X4_165 (tc_lt (by decide) (by decide)) (kq_t0 (by decide)) rfl ?_
    refine J_iload_n cx 3 dX4_talk_46 rfl rfl ?_
    refine J_cS cx dX4_talk_47 S_X4_168 (by decide) (ct_X4_bit   _ _ _ _ h) rfl rfl (Nat.le_of_ble_eq_true rfl) (k_i (fun r11 τ10 h => ?_))
    refine J_iconst cx dX4_talk_50 (by decide : _ = ((nI 1) : Int32)) ?_
    refine J_icmp_ne cx (tgt := 56) dX4_talk_51 (by decide) (fun q12 => ?_) (fun q12 => ?_)
    · replace h := h.1 q12
      refine J_iinc cx dX4_talk_56 rfl (by decide : _ = ((nI 1) : Int32)) (by decide) rfl rfl ?_
      refine J_goto cx (tgt := 30) dX4_talk_59 (by decide) ?_
      exact hK30   _ _ _ _ h
    · replace h := h.2 q12
      refine J_iconst cx dX4_talk_54 (by decide : _ = ((nI 0) : Int32)) ?_
      exact J_iret cx dX4_talk_55 h
def wp_X4_talk (a0 : Int32) (a1 : Int32) (σ : PI) (Q : Int32 → PI → Prop) : Prop := wp_X4_isMan a0 σ (fun r2 τ1 => ((r2 = (nI 0) → Q (-1000001) τ1) ∧ (¬ r2 = (nI 0) → wp_X4_isMan a1 τ1 (fun r5 τ4 => ((r5 = (nI 0) → Q (-1000001) τ4) ∧ (¬ r5 = (nI 0) → (¬ a0 = a1 → ∀ x8 : Int32, x8 = (if a1 < a0 then a1 else a0) → (w_X4_talk_30   Q a0 a1 x8 τ4)) ∧ (a0 = a1 → Q (-1000001) τ4)))))))
set_option maxRecDepth 100000 in
set_option maxHeartbeats 4000000 in
theorem ct_X4_talk {l : Launch} {X : XP} (a0 : Int32) (a1 : Int32) (σ : PI) (Q : Int32 → PI → Prop) (h : wp_X4_talk  a0 a1 σ Q) : Ct l yX4_talk cX4_talk 4 (some .int) 2 X [.ref (X.1 252), .int a0, .int a1] σ (qI Q) := by
  refine Ct_of (L := [some (.ref (X.1 252)), some (.int a0), some (.int a1), none]) (by decide) (Nat.le_of_ble_eq_true rfl) rfl (fun M hl cx => ?_)
  subst hl
  unfold wp_X4_talk at h
  refine J_aload_n cx 0 dX4_talk_0 rfl rfl ?_
  refine J_iload_n cx 1 dX4_talk_1 rfl rfl ?_
  refine J_cV cx dX4_talk_2 V_X4_150 (by decide) (by decide) rfl (ct_X4_isMan   _ _ _ h) rfl rfl (Nat.le_of_ble_eq_true rfl) (k_i (fun r2 τ1 h => ?_))
  refine J_if_eq cx (tgt := 21) dX4_talk_5 (by decide) (fun q3 => ?_) (fun q3 => ?_)
  · replace h := h.1 q3
    refine J_ldc cx (v := (-1000001)) dX4_talk_21 gw_212 ?_
    exact J_iret cx dX4_talk_23 h
  · replace h := h.2 q3
    refine J_aload_n cx 0 dX4_talk_8 rfl rfl ?_
    refine J_iload_n cx 2 dX4_talk_9 rfl rfl ?_
    refine J_cV cx dX4_talk_10 V_X4_150 (by decide) (by decide) rfl (ct_X4_isMan   _ _ _ h) rfl rfl (Nat.le_of_ble_eq_true rfl) (k_i (fun r5 τ4 h => ?_))
    refine J_if_eq cx (tgt := 21) dX4_talk_13 (by decide) (fun q6 => ?_) (fun q6 => ?_)
    · replace h := h.1 q6
      refine J_ldc cx (v := (-1000001)) dX4_talk_21 gw_212 ?_
      exact J_iret cx dX4_talk_23 h
    · replace h := h.2 q6
      refine J_iload_n cx 1 dX4_talk_16 rfl rfl ?_
      refine J_iload_n cx 2 dX4_talk_17 rfl rfl ?_
      refine J_icmp_ne cx (tgt := 24) dX4_talk_18 (by decide) (fun q7 => ?_) (fun q7 => ?_)
      · replace h := h.1 q7
        refine J_iload_n cx 1 dX4_talk_24 rfl rfl ?_
        refine J_iload_n cx 2 dX4_talk_25 rfl rfl ?_
        refine J_mmin cx dX4_talk_26 (by decide) (Nat.le_of_ble_eq_true rfl) gw_541 mn_s mn_c ?_
        refine J_topi (fun x8 e_x8 => ?_)
        replace h := h x8 e_x8
        refine J_istore_n cx 3 dX4_talk_29 rfl (by decide) rfl rfl ?_
        exact j_X4_talk_30     cx   _ _ _ _ h
      · replace h := h.2 q7
        refine J_ldc cx (v := (-1000001)) dX4_talk_21 gw_212 ?_
        exact J_iret cx dX4_talk_23 h
def w_X4_alone_71 (K16 : (Int32 × Int32 × Int32 × PI → Prop)) (Q : Int32 → PI → Prop) (l1 : Int32) (l2 : Int32) (l3 : Int32) (σ : PI) : Prop := K16 (l1, l2, (l3 + (nI 1)), σ)
set_option maxRecDepth 100000 in
set_option maxHeartbeats 4000000 in
theorem j_X4_alone_71 {M : MC} {X : XP} {Q : Int32 → PI → Prop} (K16 : (Int32 × Int32 × Int32 × PI → Prop)) (hK16 : ∀ (l1 : Int32) (l2 : Int32) (l3 : Int32) (σ : PI), K16 (l1, l2, l3, σ) → J M X (QF M X (qI Q)) σ 16 [some (.ref (X.1 252)), some (.int l1), some (.int l2), some (.int l3)] []) (cx : Cx M X RX4 cX4_alone 4 (some .int) 1) (l1 : Int32) (l2 : Int32) (l3 : Int32) (σ : PI) (h : w_X4_alone_71  K16 Q l1 l2 l3 σ) : J M X (QF M X (qI Q)) σ 71 [some (.ref (X.1 252)), some (.int l1), some (.int l2), some (.int l3)] [] := by
  unfold w_X4_alone_71 at h
  refine J_iinc cx dX4_alone_71 rfl (by decide : _ = ((nI 1) : Int32)) (by decide) rfl rfl ?_
  refine J_goto cx (tgt := 16) dX4_alone_74 (by decide) ?_
  exact hK16   _ _ _ _ h
def w_X4_alone_52 (K16 : (Int32 × Int32 × Int32 × PI → Prop)) (Q : Int32 → PI → Prop) (l1 : Int32) (l2 : Int32) (l3 : Int32) (σ : PI) : Prop := vp_in l3 5 ∧ ((¬ (σ (tc 0 1) (l3 : Int32).toNatClampNeg) = l1 → w_X4_alone_71  K16 Q l1 l2 l3 σ) ∧ ((σ (tc 0 1) (l3 : Int32).toNatClampNeg) = l1 → ∀ x11 : Int32, x11 = (l2 ||| ((nI 1) <<< (l3 &&& 31))) → (w_X4_alone_71  K16 Q l1 x11 l3 σ)))
set_option maxRecDepth 100000 in
set_option maxHeartbeats 4000000 in
theorem j_X4_alone_52 {M : MC} {X : XP} {Q : Int32 → PI → Prop} (K16 : (Int32 × Int32 × Int32 × PI → Prop)) (hK16 : ∀ (l1 : Int32) (l2 : Int32) (l3 : Int32) (σ : PI), K16 (l1, l2, l3, σ) → J M X (QF M X (qI Q)) σ 16 [some (.ref (X.1 252)), some (.int l1), some (.int l2), some (.int l3)] []) (cx : Cx M X RX4 cX4_alone 4 (some .int) 1) (l1 : Int32) (l2 : Int32) (l3 : Int32) (σ : PI) (h : w_X4_alone_52  K16 Q l1 l2 l3 σ) : J M X (QF M X (qI Q)) σ 52 [some (.ref (X.1 252)), some (.int l1), some (.int l2), some (.int l3)] [] := by
  unfold w_X4_alone_52 at h
  refine J_aload_n cx 0 dX4_alone_52 rfl rfl ?_
  refine J_getR cx (j := (tc 0 0)) dX4_alone_53 F_X4_37 (by decide) rfl rfl rfl ?_
  refine J_getR cx (j := (tc 0 1)) dX4_alone_56 F_X4_186 (tc_lt (by decide) (by decide)) (kq_t0 (by decide)) rfl (rq_t (by decide)) ?_
  refine J_iload_n cx 3 dX4_alone_59 rfl rfl ?_
  obtain ⟨s9, h⟩ := h
  refine J_iald cx dX4_alone_60 (tc_lt (by decide) (by decide)) (kq_t (by decide) (by decide)) s9 ?_
  refine J_iload_n cx 1 dX4_alone_61 rfl rfl ?_
  refine J_icmp_ne cx (tgt := 71) dX4_alone_62 (by decide) (fun q10 => ?_) (fun q10 => ?_)
  · replace h := h.1 q10
    exact j_X4_alone_71   K16 hK16 cx   _ _ _ _ h
  · replace h := h.2 q10
    refine J_iload_n cx 2 dX4_alone_65 rfl rfl ?_
    refine J_iconst cx dX4_alone_66 (by decide : _ = ((nI 1) : Int32)) ?_
    refine J_iload_n cx 3 dX4_alone_67 rfl rfl ?_
    refine J_ishl cx dX4_alone_68 ?_
    refine J_ior cx dX4_alone_69 ?_
    refine J_topi (fun x11 e_x11 => ?_)
    replace h := h x11 e_x11
    refine J_istore_n cx 2 dX4_alone_70 rfl (by decide) rfl rfl ?_
    exact j_X4_alone_71   K16 hK16 cx   _ _ _ _ h
def B_X4_alone_16 (K16 : (Int32 × Int32 × Int32 × PI → Prop)) (Q : Int32 → PI → Prop) (l1 : Int32) (l2 : Int32) (l3 : Int32) (σ : PI) : Prop := ((σ (tc 0 0) 8) ≤ l3 → Q l2 σ) ∧ (¬ (σ (tc 0 0) 8) ≤ l3 → vp_in l3 5 ∧ (((σ (tc 0 1) (l3 : Int32).toNatClampNeg) ≤ l1 → w_X4_alone_52  K16 Q l1 l2 l3 σ) ∧ (¬ (σ (tc 0 1) (l3 : Int32).toNatClampNeg) ≤ l1 → vp_in l3 5 ∧ (∀ x8 : Int32, x8 = (σ (tc 0 1) (l3 : Int32).toNatClampNeg) → (w_X4_alone_52  K16 Q x8 (nI 0) l3 σ)))))
def w_X4_alone_16 (Q : Int32 → PI → Prop) (l1 : Int32) (l2 : Int32) (l3 : Int32) (σ : PI) : Prop := ∃ n, Lp (fun K a => B_X4_alone_16   K Q a.1 a.2.1 a.2.2.1 a.2.2.2) n (l1, l2, l3, σ)
set_option maxRecDepth 100000 in
set_option maxHeartbeats 4000000 in
theorem j_X4_alone_16 {M : MC} {X : XP} {Q : Int32 → PI → Prop} (cx : Cx M X RX4 cX4_alone 4 (some .int) 1) (l1 : Int32) (l2 : Int32) (l3 : Int32) (σ : PI) (h : w_X4_alone_16   Q l1 l2 l3 σ) : J M X (QF M X (qI Q)) σ 16 [some (.ref (X.1 252)), some (.int l1), some (.int l2), some (.int l3)] [] := by
  refine Lp_J (P := fun (a : Int32 × Int32 × Int32 × PI) => J M X (QF M X (qI Q)) (a.2.2.2) 16 [some (.ref (X.1 252)), some (.int a.1), some (.int a.2.1), some (.int a.2.2.1)] []) (fun K16 hK a h => ?_) h
  obtain ⟨l1, l2, l3, σ⟩ := a
  have hK16 : ∀ (l1 : Int32) (l2 : Int32) (l3 : Int32) (σ : PI), K16 (l1, l2, l3, σ) → J M X (QF M X (qI Q)) σ 16 [some (.ref (X.1 252)), some (.int l1), some (.int l2), some (.int l3)] [] := fun l1 l2 l3 σ q => hK _ q
  replace h : B_X4_alone_16   K16 Q l1 l2 l3 σ := h
  show J M X (QF M X (qI Q)) σ 16 [some (.ref (X.1 252)), some (.int l1), some (.int l2), some (.int l3)] []
  unfold B_X4_alone_16 at h
  refine J_iload_n cx 3 dX4_alone_16 rfl rfl ?_
  refine J_aload_n cx 0 dX4_alone_17 rfl rfl ?_
  refine J_getR cx (j := (tc 0 0)) dX4_alone_18 F_X4_37 (by decide) rfl rfl rfl ?_
  refine J_getI cx dX4_alone_21 F_X4_200 (tc_lt (by decide) (by decide)) (kq_t0 (by decide)) rfl ?_
  refine J_icmp_ge cx (tgt := 77) dX4_alone_24 (by decide) (fun q4 => ?_) (fun q4 => ?_)
  · replace h := h.1 q4
    refine J_iload_n cx 2 dX4_alone_77 rfl rfl ?_
    exact J_iret cx dX4_alone_78 h
  · replace h := h.2 q4
    refine J_aload_n cx 0 dX4_alone_27 rfl rfl ?_
    refine J_getR cx (j := (tc 0 0)) dX4_alone_28 F_X4_37 (by decide) rfl rfl rfl ?_
    refine J_getR cx (j := (tc 0 1)) dX4_alone_31 F_X4_186 (tc_lt (by decide) (by decide)) (kq_t0 (by decide)) rfl (rq_t (by decide)) ?_
    refine J_iload_n cx 3 dX4_alone_34 rfl rfl ?_
    obtain ⟨s5, h⟩ := h
    refine J_iald cx dX4_alone_35 (tc_lt (by decide) (by decide)) (kq_t (by decide) (by decide)) s5 ?_
    refine J_iload_n cx 1 dX4_alone_36 rfl rfl ?_
    refine J_icmp_le cx (tgt := 52) dX4_alone_37 (by decide) (fun q6 => ?_) (fun q6 => ?_)
    · replace h := h.1 q6
      exact j_X4_alone_52   K16 hK16 cx   _ _ _ _ h
    · replace h := h.2 q6
      refine J_aload_n cx 0 dX4_alone_40 rfl rfl ?_
      refine J_getR cx (j := (tc 0 0)) dX4_alone_41 F_X4_37 (by decide) rfl rfl rfl ?_
      refine J_getR cx (j := (tc 0 1)) dX4_alone_44 F_X4_186 (tc_lt (by decide) (by decide)) (kq_t0 (by decide)) rfl (rq_t (by decide)) ?_
      refine J_iload_n cx 3 dX4_alone_47 rfl rfl ?_
      obtain ⟨s7, h⟩ := h
      refine J_iald cx dX4_alone_48 (tc_lt (by decide) (by decide)) (kq_t (by decide) (by decide)) s7 ?_
      refine J_topi (fun x8 e_x8 => ?_)
      replace h := h x8 e_x8
      refine J_istore_n cx 1 dX4_alone_49 rfl (by decide) rfl rfl ?_
      refine J_iconst cx dX4_alone_50 (by decide : _ = ((nI 0) : Int32)) ?_
      refine J_istore_n cx 2 dX4_alone_51 rfl (by decide) rfl rfl ?_
      exact j_X4_alone_52   K16 hK16 cx   _ _ _ _ h
def wp_X4_alone (σ : PI) (Q : Int32 → PI → Prop) : Prop := wp_X4_hasTown  σ (fun r2 τ1 => ((¬ r2 = (nI 0) → w_X4_alone_16   Q (nI 0) (nI 0) (nI 0) τ1) ∧ (r2 = (nI 0) → Q (-1000002) τ1)))
set_option maxRecDepth 100000 in
set_option maxHeartbeats 4000000 in
theorem ct_X4_alone {l : Launch} {X : XP} (σ : PI) (Q : Int32 → PI → Prop) (h : wp_X4_alone   σ Q) : Ct l yX4_alone cX4_alone 4 (some .int) 1 X [.ref (X.1 252)] σ (qI Q) := by
  refine Ct_of (L := [some (.ref (X.1 252)), none, none, none]) (by decide) (Nat.le_of_ble_eq_true rfl) rfl (fun M hl cx => ?_)
  subst hl
  unfold wp_X4_alone at h
  refine J_aload_n cx 0 dX4_alone_0 rfl rfl ?_
  refine J_cV cx dX4_alone_1 V_X4_130 (by decide) (by decide) rfl (ct_X4_hasTown    _ _ h) rfl rfl (Nat.le_of_ble_eq_true rfl) (k_i (fun r2 τ1 h => ?_))
  refine J_if_ne cx (tgt := 10) dX4_alone_4 (by decide) (fun q3 => ?_) (fun q3 => ?_)
  · replace h := h.1 q3
    refine J_iconst cx dX4_alone_10 (by decide : _ = ((nI 0) : Int32)) ?_
    refine J_istore_n cx 1 dX4_alone_11 rfl (by decide) rfl rfl ?_
    refine J_iconst cx dX4_alone_12 (by decide : _ = ((nI 0) : Int32)) ?_
    refine J_istore_n cx 2 dX4_alone_13 rfl (by decide) rfl rfl ?_
    refine J_iconst cx dX4_alone_14 (by decide : _ = ((nI 0) : Int32)) ?_
    refine J_istore_n cx 3 dX4_alone_15 rfl (by decide) rfl rfl ?_
    exact j_X4_alone_16     cx   _ _ _ _ h
  · replace h := h.2 q3
    refine J_ldc cx (v := (-1000002)) dX4_alone_7 gw_336 ?_
    exact J_iret cx dX4_alone_9 h
def B_X4_power_5 (K5 : (Int64 × Int32 × Int64 × Int32 × PI → Prop)) (Q : Int64 → PI → Prop) (l0 : Int64) (l2 : Int32) (l3 : Int64) (l5 : Int32) (σ : PI) : Prop := (l2 ≤ l5 → Q l3 σ) ∧ (¬ l2 ≤ l5 → ∀ x2 : Int64, x2 = (l3 * l0) → (K5 (l0, l2, x2, (l5 + (nI 1)), σ)))
def w_X4_power_5 (Q : Int64 → PI → Prop) (l0 : Int64) (l2 : Int32) (l3 : Int64) (l5 : Int32) (σ : PI) : Prop := ∃ n, Lp (fun K a => B_X4_power_5   K Q a.1 a.2.1 a.2.2.1 a.2.2.2.1 a.2.2.2.2) n (l0, l2, l3, l5, σ)
set_option maxRecDepth 100000 in
set_option maxHeartbeats 4000000 in
theorem j_X4_power_5 {M : MC} {X : XP} {Q : Int64 → PI → Prop} (cx : Cx M X RX4 cX4_power 6 (some .long) 0) (l0 : Int64) (l2 : Int32) (l3 : Int64) (l5 : Int32) (σ : PI) (h : w_X4_power_5   Q l0 l2 l3 l5 σ) : J M X (QF M X (qL Q)) σ 5 [some (.long l0), none, some (.int l2), some (.long l3), none, some (.int l5)] [] := by
  refine Lp_J (P := fun (a : Int64 × Int32 × Int64 × Int32 × PI) => J M X (QF M X (qL Q)) (a.2.2.2.2) 5 [some (.long a.1), none, some (.int a.2.1), some (.long a.2.2.1), none, some (.int a.2.2.2.1)] []) (fun K5 hK a h => ?_) h
  obtain ⟨l0, l2, l3, l5, σ⟩ := a
  have hK5 : ∀ (l0 : Int64) (l2 : Int32) (l3 : Int64) (l5 : Int32) (σ : PI), K5 (l0, l2, l3, l5, σ) → J M X (QF M X (qL Q)) σ 5 [some (.long l0), none, some (.int l2), some (.long l3), none, some (.int l5)] [] := fun l0 l2 l3 l5 σ q => hK _ q
  replace h : B_X4_power_5   K5 Q l0 l2 l3 l5 σ := h
  show J M X (QF M X (qL Q)) σ 5 [some (.long l0), none, some (.int l2), some (.long l3), none, some (.int l5)] []
  unfold B_X4_power_5 at h
  refine J_iload cx dX4_power_5 rfl ?_
  refine J_iload_n cx 2 dX4_power_7 rfl rfl ?_
  refine J_icmp_ge cx (tgt := 21) dX4_power_8 (by decide) (fun q1 => ?_) (fun q1 => ?_)
  · replace h := h.1 q1
    refine J_lload_n cx 3 dX4_power_21 rfl rfl ?_
    exact J_lret cx dX4_power_22 h
  · replace h := h.2 q1
    refine J_lload_n cx 3 dX4_power_11 rfl rfl ?_
    refine J_lload_n cx 0 dX4_power_12 rfl rfl ?_
    refine J_lmul cx dX4_power_13 ?_
    refine J_topl (fun x2 e_x2 => ?_)
    replace h := h x2 e_x2
    refine J_lstore_n cx 3 dX4_power_14 rfl (by decide) rfl rfl ?_
    refine J_iinc cx dX4_power_15 rfl (by decide : _ = ((nI 1) : Int32)) (by decide) rfl rfl ?_
    refine J_goto cx (tgt := 5) dX4_power_18 (by decide) ?_
    exact hK5   _ _ _ _ _ h
def wp_X4_power (a0 : Int64) (a1 : Int32) (σ : PI) (Q : Int64 → PI → Prop) : Prop := w_X4_power_5   Q a0 a1 (lN 1) (nI 0) σ
set_option maxRecDepth 100000 in
set_option maxHeartbeats 4000000 in
theorem ct_X4_power {l : Launch} {X : XP} (a0 : Int64) (a1 : Int32) (σ : PI) (Q : Int64 → PI → Prop) (h : wp_X4_power  a0 a1 σ Q) : Ct l yX4_power cX4_power 6 (some .long) 0 X [.long a0, .int a1] σ (qL Q) := by
  refine Ct_of (L := [some (.long a0), none, some (.int a1), none, none, none]) (by decide) (Nat.le_of_ble_eq_true rfl) rfl (fun M hl cx => ?_)
  subst hl
  unfold wp_X4_power at h
  refine J_lconst cx dX4_power_0 (by decide : _ = ((lN 1) : Int64)) ?_
  refine J_lstore_n cx 3 dX4_power_1 rfl (by decide) rfl rfl ?_
  refine J_iconst cx dX4_power_2 (by decide : _ = ((nI 0) : Int32)) ?_
  refine J_istore cx dX4_power_3 (by decide) rfl rfl ?_
  exact j_X4_power_5     cx   _ _ _ _ _ h
def wp_X4_cases (a0 : Int32) (a1 : Int32) (a2 : Int32) (σ : PI) (Q : Int64 → PI → Prop) : Prop := wp_J6_bitCount_0f7a4 a0 σ (fun r2 τ1 => (wp_X4_power (a2 : Int32).toInt64 r2 τ1 (fun r4 τ3 => (wp_J6_bitCount_0f7a4 a1 τ3 (fun r6 τ5 => (wp_X4_power (((nI 10) - a2) : Int32).toInt64 (r6 - r2) τ5 (fun r8 τ7 => (Q (r4 * r8) τ7))))))))
set_option maxRecDepth 100000 in
set_option maxHeartbeats 4000000 in
theorem ct_X4_cases {l : Launch} {X : XP} (a0 : Int32) (a1 : Int32) (a2 : Int32) (σ : PI) (Q : Int64 → PI → Prop) (h : wp_X4_cases  a0 a1 a2 σ Q) : Ct l yX4_cases cX4_cases 4 (some .long) 1 X [.int a0, .int a1, .int a2] σ (qL Q) := by
  refine Ct_of (L := [some (.int a0), some (.int a1), some (.int a2), none]) (by decide) (Nat.le_of_ble_eq_true rfl) rfl (fun M hl cx => ?_)
  subst hl
  unfold wp_X4_cases at h
  refine J_iload_n cx 0 dX4_cases_0 rfl rfl ?_
  refine J_cS cx dX4_cases_1 S_X4_203 (by decide) (ct_J6_bitCount_0f7a4   _ _ _ h) rfl rfl (Nat.le_of_ble_eq_true rfl) (k_i (fun r2 τ1 h => ?_))
  refine J_istore_n cx 3 dX4_cases_4 rfl (by decide) rfl rfl ?_
  refine J_iload_n cx 2 dX4_cases_5 rfl rfl ?_
  refine J_i2l cx dX4_cases_6 ?_
  refine J_iload_n cx 3 dX4_cases_7 rfl rfl ?_
  refine J_cS cx dX4_cases_8 S_X4_255 (by decide) (ct_X4_power   _ _ _ _ h) rfl rfl (Nat.le_of_ble_eq_true rfl) (k_l (fun r4 τ3 h => ?_))
  refine J_bipush cx dX4_cases_11 (by decide : _ = ((nI 10) : Int32)) ?_
  refine J_iload_n cx 2 dX4_cases_13 rfl rfl ?_
  refine J_isub cx dX4_cases_14 ?_
  refine J_i2l cx dX4_cases_15 ?_
  refine J_iload_n cx 1 dX4_cases_16 rfl rfl ?_
  refine J_cS cx dX4_cases_17 S_X4_203 (by decide) (ct_J6_bitCount_0f7a4   _ _ _ h) rfl rfl (Nat.le_of_ble_eq_true rfl) (k_i (fun r6 τ5 h => ?_))
  refine J_iload_n cx 3 dX4_cases_20 rfl rfl ?_
  refine J_isub cx dX4_cases_21 ?_
  refine J_cS cx dX4_cases_22 S_X4_255 (by decide) (ct_X4_power   _ _ _ _ h) rfl rfl (Nat.le_of_ble_eq_true rfl) (k_l (fun r8 τ7 h => ?_))
  refine J_lmul cx dX4_cases_25 ?_
  exact J_lret cx dX4_cases_26 h
def B_X4_commonDivisor_3 (K3 : (Int64 × Int64 × Int32 × PI → Prop)) (Q : Int64 → PI → Prop) (l0 : Int64) (l2 : Int64) (l4 : Int32) (σ : PI) : Prop := ((nI 100) ≤ l4 → Q l0 σ) ∧ (¬ (nI 100) ≤ l4 → ((lg_cmp l2 (lN 0)) = (nI 0) → Q l0 σ) ∧ (¬ (lg_cmp l2 (lN 0)) = (nI 0) → ¬ l2 = (lN 0) ∧ (∀ x4 : Int64, x4 = (l0 - l0 / l2 * l2) → (K3 (l2, x4, (l4 + (nI 1)), σ)))))
def w_X4_commonDivisor_3 (Q : Int64 → PI → Prop) (l0 : Int64) (l2 : Int64) (l4 : Int32) (σ : PI) : Prop := ∃ n, Lp (fun K a => B_X4_commonDivisor_3   K Q a.1 a.2.1 a.2.2.1 a.2.2.2) n (l0, l2, l4, σ)
set_option maxRecDepth 100000 in
set_option maxHeartbeats 4000000 in
theorem j_X4_commonDivisor_3 {M : MC} {X : XP} {Q : Int64 → PI → Prop} (cx : Cx M X RX4 cX4_commonDivisor 7 (some .long) 0) (l0 : Int64) (l2 : Int64) (l4 : Int32) (σ : PI) (h : w_X4_commonDivisor_3   Q l0 l2 l4 σ) : J M X (QF M X (qL Q)) σ 3 [some (.long l0), none, some (.long l2), none, some (.int l4), none, none] [] := by
  refine Lp_J (P := fun (a : Int64 × Int64 × Int32 × PI) => J M X (QF M X (qL Q)) (a.2.2.2) 3 [some (.long a.1), none, some (.long a.2.1), none, some (.int a.2.2.1), none, none] []) (fun K3 hK a h => ?_) h
  obtain ⟨l0, l2, l4, σ⟩ := a
  have hK3 : ∀ (l0 : Int64) (l2 : Int64) (l4 : Int32) (σ : PI), K3 (l0, l2, l4, σ) → J M X (QF M X (qL Q)) σ 3 [some (.long l0), none, some (.long l2), none, some (.int l4), none, none] [] := fun l0 l2 l4 σ q => hK _ q
  replace h : B_X4_commonDivisor_3   K3 Q l0 l2 l4 σ := h
  show J M X (QF M X (qL Q)) σ 3 [some (.long l0), none, some (.long l2), none, some (.int l4), none, none] []
  unfold B_X4_commonDivisor_3 at h
  refine J_iload cx dX4_commonDivisor_3 rfl ?_
  refine J_bipush cx dX4_commonDivisor_5 (by decide : _ = ((nI 100) : Int32)) ?_
  refine J_icmp_ge cx (tgt := 32) dX4_commonDivisor_7 (by decide) (fun q1 => ?_) (fun q1 => ?_)
  · replace h := h.1 q1
    refine J_lload_n cx 0 dX4_commonDivisor_32 rfl rfl ?_
    exact J_lret cx dX4_commonDivisor_33 h
  · replace h := h.2 q1
    refine J_lload_n cx 2 dX4_commonDivisor_10 rfl rfl ?_
    refine J_lconst cx dX4_commonDivisor_11 (by decide : _ = ((lN 0) : Int64)) ?_
    refine J_lcmp cx dX4_commonDivisor_12 ?_
    refine J_if_eq cx (tgt := 32) dX4_commonDivisor_13 (by decide) (fun q2 => ?_) (fun q2 => ?_)
    · replace h := h.1 q2
      refine J_lload_n cx 0 dX4_commonDivisor_32 rfl rfl ?_
      exact J_lret cx dX4_commonDivisor_33 h
    · replace h := h.2 q2
      refine J_lload_n cx 0 dX4_commonDivisor_16 rfl rfl ?_
      refine J_lload_n cx 2 dX4_commonDivisor_17 rfl rfl ?_
      obtain ⟨s3, h⟩ := h
      refine J_lrem cx dX4_commonDivisor_18 s3 ?_
      refine J_topl (fun x4 e_x4 => ?_)
      replace h := h x4 e_x4
      refine J_lstore cx dX4_commonDivisor_19 (by decide) rfl rfl ?_
      refine J_lload_n cx 2 dX4_commonDivisor_21 rfl rfl ?_
      refine J_lstore_n cx 0 dX4_commonDivisor_22 rfl (by decide) rfl rfl ?_
      refine J_lload cx dX4_commonDivisor_23 rfl ?_
      refine J_lstore_n cx 2 dX4_commonDivisor_25 rfl (by decide) rfl rfl ?_
      refine J_iinc cx dX4_commonDivisor_26 rfl (by decide : _ = ((nI 1) : Int32)) (by decide) rfl rfl ?_
      refine J_goto cx (tgt := 3) dX4_commonDivisor_29 (by decide) ?_
      refine J_fg 5 rfl ?_
      exact hK3   _ _ _ _ h
def wp_X4_commonDivisor (a0 : Int64) (a1 : Int64) (σ : PI) (Q : Int64 → PI → Prop) : Prop := w_X4_commonDivisor_3   Q a0 a1 (nI 0) σ
set_option maxRecDepth 100000 in
set_option maxHeartbeats 4000000 in
theorem ct_X4_commonDivisor {l : Launch} {X : XP} (a0 : Int64) (a1 : Int64) (σ : PI) (Q : Int64 → PI → Prop) (h : wp_X4_commonDivisor  a0 a1 σ Q) : Ct l yX4_commonDivisor cX4_commonDivisor 7 (some .long) 0 X [.long a0, .long a1] σ (qL Q) := by
  refine Ct_of (L := [some (.long a0), none, some (.long a1), none, none, none, none]) (by decide) (Nat.le_of_ble_eq_true rfl) rfl (fun M hl cx => ?_)
  subst hl
  unfold wp_X4_commonDivisor at h
  refine J_iconst cx dX4_commonDivisor_0 (by decide : _ = ((nI 0) : Int32)) ?_
  refine J_istore cx dX4_commonDivisor_1 (by decide) rfl rfl ?_
  exact j_X4_commonDivisor_3     cx   _ _ _ _ h
def wp_X4_feelsWithout (a0 : Int32) (a1 : Int32) (a2 : Int32) (σ : PI) (Q : Int32 → PI → Prop) : Prop := wp_X3_copyFrom 1 0 σ (fun τ1 => (∀ τ2 : PI, τ2 = up τ1 (tc 1 0) 14 a2 → (wp_X3_passDay 1 τ2 (fun r4 τ3 => (vp_in a0 5 ∧ (((τ3 (tc 1 1) (a0 : Int32).toNatClampNeg) < a1 → Q (nI 0) τ3) ∧ (¬ (τ3 (tc 1 1) (a0 : Int32).toNatClampNeg) < a1 → Q (nI 1) τ3)))))))
set_option maxRecDepth 100000 in
set_option maxHeartbeats 4000000 in
theorem ct_X4_feelsWithout {l : Launch} {X : XP} (a0 : Int32) (a1 : Int32) (a2 : Int32) (σ : PI) (Q : Int32 → PI → Prop) (h : wp_X4_feelsWithout  a0 a1 a2 σ Q) : Ct l yX4_feelsWithout cX4_feelsWithout 4 (some .boolean) 4 X [.ref (X.1 252), .int a0, .int a1, .int a2] σ (qI Q) := by
  refine Ct_of (L := [some (.ref (X.1 252)), some (.int a0), some (.int a1), some (.int a2)]) (by decide) (Nat.le_of_ble_eq_true rfl) rfl (fun M hl cx => ?_)
  subst hl
  unfold wp_X4_feelsWithout at h
  refine J_aload_n cx 0 dX4_feelsWithout_0 rfl rfl ?_
  refine J_getR cx (j := (tc 1 0)) dX4_feelsWithout_1 F_X4_41 (by decide) rfl rfl rfl ?_
  refine J_aload_n cx 0 dX4_feelsWithout_4 rfl rfl ?_
  refine J_getR cx (j := (tc 0 0)) dX4_feelsWithout_5 F_X4_37 (by decide) rfl rfl rfl ?_
  refine J_cV cx dX4_feelsWithout_8 V_X4_115 (by decide) (tc_lt (by decide) (by decide)) (kq_t0 (by decide)) (ct_X3_copyFrom 1 0 (by decide) (by decide)  _ _ h) rfl rfl (Nat.le_of_ble_eq_true rfl) (k_v (fun τ1 h => ?_))
  refine J_aload_n cx 0 dX4_feelsWithout_11 rfl rfl ?_
  refine J_getR cx (j := (tc 1 0)) dX4_feelsWithout_12 F_X4_41 (by decide) rfl rfl rfl ?_
  refine J_iload_n cx 3 dX4_feelsWithout_15 rfl rfl ?_
  refine J_putI cx dX4_feelsWithout_16 (P_X4_227 _) (tc_lt (by decide) (by decide)) (kq_t0 (by decide)) rfl ?_
  refine J_nm (fun τ2 e_τ2 => ?_)
  replace h := h τ2 e_τ2
  refine J_aload_n cx 0 dX4_feelsWithout_19 rfl rfl ?_
  refine J_getR cx (j := (tc 1 0)) dX4_feelsWithout_20 F_X4_41 (by decide) rfl rfl rfl ?_
  refine J_cV cx dX4_feelsWithout_23 V_X4_140 (by decide) (tc_lt (by decide) (by decide)) (kq_t0 (by decide)) (ct_X3_passDay 1 (by decide)  _ _ h) rfl rfl (Nat.le_of_ble_eq_true rfl) (k_i (fun r4 τ3 h => ?_))
  refine J_pop cx dX4_feelsWithout_26 rfl ?_
  refine J_aload_n cx 0 dX4_feelsWithout_27 rfl rfl ?_
  refine J_getR cx (j := (tc 1 0)) dX4_feelsWithout_28 F_X4_41 (by decide) rfl rfl rfl ?_
  refine J_getR cx (j := (tc 1 1)) dX4_feelsWithout_31 F_X4_186 (tc_lt (by decide) (by decide)) (kq_t0 (by decide)) rfl (rq_t (by decide)) ?_
  refine J_iload_n cx 1 dX4_feelsWithout_34 rfl rfl ?_
  obtain ⟨s5, h⟩ := h
  refine J_iald cx dX4_feelsWithout_35 (tc_lt (by decide) (by decide)) (kq_t (by decide) (by decide)) s5 ?_
  refine J_iload_n cx 2 dX4_feelsWithout_36 rfl rfl ?_
  refine J_icmp_lt cx (tgt := 44) dX4_feelsWithout_37 (by decide) (fun q6 => ?_) (fun q6 => ?_)
  · replace h := h.1 q6
    refine J_iconst cx dX4_feelsWithout_44 (by decide : _ = ((nI 0) : Int32)) ?_
    exact J_zret cx dX4_feelsWithout_45 (Or.inl rfl) h
  · replace h := h.2 q6
    refine J_iconst cx dX4_feelsWithout_40 (by decide : _ = ((nI 1) : Int32)) ?_
    refine J_goto cx (tgt := 45) dX4_feelsWithout_41 (by decide) ?_
    exact J_zret cx dX4_feelsWithout_45 (Or.inr rfl) h
def w_X4_rain_144 (Q : Int64 → PI → Prop) (l10 : Int64) (s0 : Int64) (σ : PI) : Prop := ¬ (if l10 < (lN 1) then (lN 1) else l10) = (lN 0) ∧ (Q (s0 / (if l10 < (lN 1) then (lN 1) else l10)) σ)
set_option maxRecDepth 100000 in
set_option maxHeartbeats 4000000 in
theorem j_X4_rain_144 {M : MC} {X : XP} {Q : Int64 → PI → Prop} (cx : Cx M X RX4 cX4_rain 12 (some .long) 5) (l10 : Int64) (s0 : Int64) (σ : PI) (h : w_X4_rain_144   Q l10 s0 σ) : J M X (QF M X (qL Q)) σ 144 [none, none, none, none, none, none, none, none, none, none, some (.long l10), none] [.long s0] := by
  unfold w_X4_rain_144 at h
  refine J_lconst cx dX4_rain_144 (by decide : _ = ((lN 1) : Int64)) ?_
  refine J_lload cx dX4_rain_145 rfl ?_
  refine J_lmax cx dX4_rain_147 (by decide) (Nat.le_of_ble_eq_true rfl) gw_570 ml_s ml_c ?_
  obtain ⟨s30, h⟩ := h
  refine J_ldiv cx dX4_rain_150 s30 ?_
  exact J_lret cx dX4_rain_151 h
def w_X4_rain_104 (K56 : (Int32 × Int32 × Int32 × Int32 × Int32 × Int64 × Int32 × PI → Prop)) (Q : Int64 → PI → Prop) (l1 : Int32) (l2 : Int32) (l3 : Int32) (l4 : Int32) (l5 : Int32) (l6 : Int64) (l8 : Int32) (σ : PI) : Prop := K56 (l1, l2, l3, l4, l5, l6, (l8 + (nI 1)), σ)
set_option maxRecDepth 100000 in
set_option maxHeartbeats 4000000 in
theorem j_X4_rain_104 {M : MC} {X : XP} {Q : Int64 → PI → Prop} (K56 : (Int32 × Int32 × Int32 × Int32 × Int32 × Int64 × Int32 × PI → Prop)) (hK56 : ∀ (l1 : Int32) (l2 : Int32) (l3 : Int32) (l4 : Int32) (l5 : Int32) (l6 : Int64) (l8 : Int32) (σ : PI), K56 (l1, l2, l3, l4, l5, l6, l8, σ) → J M X (QF M X (qL Q)) σ 56 [some (.ref (X.1 252)), some (.int l1), some (.int l2), some (.int l3), some (.int l4), some (.int l5), some (.long l6), none, some (.int l8), none, none, none] []) (cx : Cx M X RX4 cX4_rain 12 (some .long) 5) (l1 : Int32) (l2 : Int32) (l3 : Int32) (l4 : Int32) (l5 : Int32) (l6 : Int64) (l8 : Int32) (σ : PI) (h : w_X4_rain_104  K56 Q l1 l2 l3 l4 l5 l6 l8 σ) : J M X (QF M X (qL Q)) σ 104 [some (.ref (X.1 252)), some (.int l1), some (.int l2), some (.int l3), some (.int l4), some (.int l5), some (.long l6), none, some (.int l8), none, none, none] [] := by
  unfold w_X4_rain_104 at h
  refine J_iinc cx dX4_rain_104 rfl (by decide : _ = ((nI 1) : Int32)) (by decide) rfl rfl ?_
  refine J_goto cx (tgt := 56) dX4_rain_107 (by decide) ?_
  exact hK56   _ _ _ _ _ _ _ _ h
def B_X4_rain_56 (K56 : (Int32 × Int32 × Int32 × Int32 × Int32 × Int64 × Int32 × PI → Prop)) (Q : Int64 → PI → Prop) (l1 : Int32) (l2 : Int32) (l3 : Int32) (l4 : Int32) (l5 : Int32) (l6 : Int64) (l8 : Int32) (σ : PI) : Prop := (((nI 1) <<< ((σ (tc 0 0) 9) &&& 31)) ≤ l8 → wp_J6_bitCount_0f7a4 l5 σ (fun r17 τ16 => (wp_X4_power (lN 10) r17 τ16 (fun r19 τ18 => (wp_X4_commonDivisor l6 r19 τ18 (fun r21 τ20 => ((¬ l4 = (nI 0) → w_X4_rain_144   Q r21 r19 τ20) ∧ (l4 = (nI 0) → w_X4_rain_144   Q r21 l6 τ20)))))))) ∧ (¬ ((nI 1) <<< ((σ (tc 0 0) 9) &&& 31)) ≤ l8 → (¬ (l8 &&& (l5 ^^^ (-1))) = (nI 0) → w_X4_rain_104  K56 Q l1 l2 l3 l4 l5 l6 l8 σ) ∧ ((l8 &&& (l5 ^^^ (-1))) = (nI 0) → wp_X4_feelsWithout l1 l2 l8 σ (fun r25 τ24 => ((r25 = (nI 0) → w_X4_rain_104  K56 Q l1 l2 l3 l4 l5 l6 l8 τ24) ∧ (¬ r25 = (nI 0) → wp_X4_cases l8 l5 l3 τ24 (fun r28 τ27 => (∀ x29 : Int64, x29 = (l6 + r28) → (w_X4_rain_104  K56 Q l1 l2 l3 l4 l5 x29 l8 τ27))))))))
def w_X4_rain_56 (Q : Int64 → PI → Prop) (l1 : Int32) (l2 : Int32) (l3 : Int32) (l4 : Int32) (l5 : Int32) (l6 : Int64) (l8 : Int32) (σ : PI) : Prop := ∃ n, Lp (fun K a => B_X4_rain_56   K Q a.1 a.2.1 a.2.2.1 a.2.2.2.1 a.2.2.2.2.1 a.2.2.2.2.2.1 a.2.2.2.2.2.2.1 a.2.2.2.2.2.2.2) n (l1, l2, l3, l4, l5, l6, l8, σ)
set_option maxRecDepth 100000 in
set_option maxHeartbeats 4000000 in
theorem j_X4_rain_56 {M : MC} {X : XP} {Q : Int64 → PI → Prop} (cx : Cx M X RX4 cX4_rain 12 (some .long) 5) (l1 : Int32) (l2 : Int32) (l3 : Int32) (l4 : Int32) (l5 : Int32) (l6 : Int64) (l8 : Int32) (σ : PI) (h : w_X4_rain_56   Q l1 l2 l3 l4 l5 l6 l8 σ) : J M X (QF M X (qL Q)) σ 56 [some (.ref (X.1 252)), some (.int l1), some (.int l2), some (.int l3), some (.int l4), some (.int l5), some (.long l6), none, some (.int l8), none, none, none] [] := by
  refine Lp_J (P := fun (a : Int32 × Int32 × Int32 × Int32 × Int32 × Int64 × Int32 × PI) => J M X (QF M X (qL Q)) (a.2.2.2.2.2.2.2) 56 [some (.ref (X.1 252)), some (.int a.1), some (.int a.2.1), some (.int a.2.2.1), some (.int a.2.2.2.1), some (.int a.2.2.2.2.1), some (.long a.2.2.2.2.2.1), none, some (.int a.2.2.2.2.2.2.1), none, none, none] []) (fun K56 hK a h => ?_) h
  obtain ⟨l1, l2, l3, l4, l5, l6, l8, σ⟩ := a
  have hK56 : ∀ (l1 : Int32) (l2 : Int32) (l3 : Int32) (l4 : Int32) (l5 : Int32) (l6 : Int64) (l8 : Int32) (σ : PI), K56 (l1, l2, l3, l4, l5, l6, l8, σ) → J M X (QF M X (qL Q)) σ 56 [some (.ref (X.1 252)), some (.int l1), some (.int l2), some (.int l3), some (.int l4), some (.int l5), some (.long l6), none, some (.int l8), none, none, none] [] := fun l1 l2 l3 l4 l5 l6 l8 σ q => hK _ q
  replace h : B_X4_rain_56   K56 Q l1 l2 l3 l4 l5 l6 l8 σ := h
  show J M X (QF M X (qL Q)) σ 56 [some (.ref (X.1 252)), some (.int l1), some (.int l2), some (.int l3), some (.int l4), some (.int l5), some (.long l6), none, some (.int l8), none, none, none] []
  unfold B_X4_rain_56 at h
  refine J_iload cx dX4_rain_56 rfl ?_
  refine J_iconst cx dX4_rain_58 (by decide : _ = ((nI 1) : Int32)) ?_
  refine J_aload_n cx 0 dX4_rain_59 rfl rfl ?_
  refine J_getR cx (j := (tc 0 0)) dX4_rain_60 F_X4_37 (by decide) rfl rfl rfl ?_
  refine J_getI cx dX4_rain_63 F_X4_122 (tc_lt (by decide) (by decide)) (kq_t0 (by decide)) rfl ?_
  refine J_ishl cx dX4_rain_66 ?_
  refine J_icmp_ge cx (tgt := 110) dX4_rain_67 (by decide) (fun q15 => ?_) (fun q15 => ?_)
  · replace h := h.1 q15
    refine J_ldc2 cx (v := (lN 10)) dX4_rain_110 gw_566 ?_
    refine J_iload cx dX4_rain_113 rfl ?_
    refine J_cS cx dX4_rain_115 S_X4_203 (by decide) (ct_J6_bitCount_0f7a4   _ _ _ h) rfl rfl (Nat.le_of_ble_eq_true rfl) (k_i (fun r17 τ16 h => ?_))
    refine J_cS cx dX4_rain_118 S_X4_255 (by decide) (ct_X4_power   _ _ _ _ h) rfl rfl (Nat.le_of_ble_eq_true rfl) (k_l (fun r19 τ18 h => ?_))
    refine J_lstore cx dX4_rain_121 (by decide) rfl rfl ?_
    refine J_lload cx dX4_rain_123 rfl ?_
    refine J_lload cx dX4_rain_125 rfl ?_
    refine J_cS cx dX4_rain_127 S_X4_259 (by decide) (ct_X4_commonDivisor   _ _ _ _ h) rfl rfl (Nat.le_of_ble_eq_true rfl) (k_l (fun r21 τ20 h => ?_))
    refine J_lstore cx dX4_rain_130 (by decide) rfl rfl ?_
    refine J_iload cx dX4_rain_132 rfl ?_
    refine J_if_ne cx (tgt := 142) dX4_rain_134 (by decide) (fun q22 => ?_) (fun q22 => ?_)
    · replace h := h.1 q22
      refine J_lload cx dX4_rain_142 rfl ?_
      refine J_fg 0 rfl ?_
      refine J_fg 1 rfl ?_
      refine J_fg 2 rfl ?_
      refine J_fg 3 rfl ?_
      refine J_fg 4 rfl ?_
      refine J_fg 5 rfl ?_
      refine J_fg 6 rfl ?_
      refine J_fg 8 rfl ?_
      exact j_X4_rain_144     cx   _ _ _ h
    · replace h := h.2 q22
      refine J_lload cx dX4_rain_137 rfl ?_
      refine J_goto cx (tgt := 144) dX4_rain_139 (by decide) ?_
      refine J_fg 0 rfl ?_
      refine J_fg 1 rfl ?_
      refine J_fg 2 rfl ?_
      refine J_fg 3 rfl ?_
      refine J_fg 4 rfl ?_
      refine J_fg 5 rfl ?_
      refine J_fg 6 rfl ?_
      refine J_fg 8 rfl ?_
      exact j_X4_rain_144     cx   _ _ _ h
  · replace h := h.2 q15
    refine J_iload cx dX4_rain_70 rfl ?_
    refine J_iload cx dX4_rain_72 rfl ?_
    refine J_iconst cx dX4_rain_74 (by decide : _ = ((-1) : Int32)) ?_
    refine J_ixor cx dX4_rain_75 ?_
    refine J_iand cx dX4_rain_76 ?_
    refine J_if_ne cx (tgt := 104) dX4_rain_77 (by decide) (fun q23 => ?_) (fun q23 => ?_)
    · replace h := h.1 q23
      exact j_X4_rain_104   K56 hK56 cx   _ _ _ _ _ _ _ _ h
    · replace h := h.2 q23
      refine J_aload_n cx 0 dX4_rain_80 rfl rfl ?_
      refine J_iload_n cx 1 dX4_rain_81 rfl rfl ?_
      refine J_iload_n cx 2 dX4_rain_82 rfl rfl ?_
      refine J_iload cx dX4_rain_83 rfl ?_
      refine J_cV cx dX4_rain_85 V_X4_246 (by decide) (by decide) rfl (ct_X4_feelsWithout   _ _ _ _ _ h) rfl rfl (Nat.le_of_ble_eq_true rfl) (k_i (fun r25 τ24 h => ?_))
      refine J_if_eq cx (tgt := 104) dX4_rain_88 (by decide) (fun q26 => ?_) (fun q26 => ?_)
      · replace h := h.1 q26
        exact j_X4_rain_104   K56 hK56 cx   _ _ _ _ _ _ _ _ h
      · replace h := h.2 q26
        refine J_lload cx dX4_rain_91 rfl ?_
        refine J_iload cx dX4_rain_93 rfl ?_
        refine J_iload cx dX4_rain_95 rfl ?_
        refine J_iload_n cx 3 dX4_rain_97 rfl rfl ?_
        refine J_cS cx dX4_rain_98 S_X4_249 (by decide) (ct_X4_cases   _ _ _ _ _ h) rfl rfl (Nat.le_of_ble_eq_true rfl) (k_l (fun r28 τ27 h => ?_))
        refine J_ladd cx dX4_rain_101 ?_
        refine J_topl (fun x29 e_x29 => ?_)
        replace h := h x29 e_x29
        refine J_lstore cx dX4_rain_102 (by decide) rfl rfl ?_
        exact j_X4_rain_104   K56 hK56 cx   _ _ _ _ _ _ _ _ h
def wp_X4_rain (a0 : Int32) (a1 : Int32) (a2 : Int32) (a3 : Int32) (σ : PI) (Q : Int64 → PI → Prop) : Prop := wp_X4_isMan a0 σ (fun r2 τ1 => ((r2 = (nI 0) → Q (-1000001) τ1) ∧ (¬ r2 = (nI 0) → wp_X4_within a1 (nI 0) (nI 99) τ1 (fun r5 τ4 => ((r5 = (nI 0) → Q (-1000001) τ4) ∧ (¬ r5 = (nI 0) → wp_X4_within a2 (nI 0) (nI 10) τ4 (fun r8 τ7 => ((r8 = (nI 0) → Q (-1000001) τ7) ∧ (¬ r8 = (nI 0) → wp_X4_isBit a3 τ7 (fun r11 τ10 => ((¬ r11 = (nI 0) → wp_X3_ofKind 0 (nI 5) τ10 (fun r14 τ13 => (w_X4_rain_56   Q a0 a1 a2 a3 r14 (lN 0) (nI 0) τ13))) ∧ (r11 = (nI 0) → Q (-1000001) τ10))))))))))))
set_option maxRecDepth 100000 in
set_option maxHeartbeats 4000000 in
theorem ct_X4_rain {l : Launch} {X : XP} (a0 : Int32) (a1 : Int32) (a2 : Int32) (a3 : Int32) (σ : PI) (Q : Int64 → PI → Prop) (h : wp_X4_rain  a0 a1 a2 a3 σ Q) : Ct l yX4_rain cX4_rain 12 (some .long) 5 X [.ref (X.1 252), .int a0, .int a1, .int a2, .int a3] σ (qL Q) := by
  refine Ct_of (L := [some (.ref (X.1 252)), some (.int a0), some (.int a1), some (.int a2), some (.int a3), none, none, none, none, none, none, none]) (by decide) (Nat.le_of_ble_eq_true rfl) rfl (fun M hl cx => ?_)
  subst hl
  unfold wp_X4_rain at h
  refine J_aload_n cx 0 dX4_rain_0 rfl rfl ?_
  refine J_iload_n cx 1 dX4_rain_1 rfl rfl ?_
  refine J_cV cx dX4_rain_2 V_X4_150 (by decide) (by decide) rfl (ct_X4_isMan   _ _ _ h) rfl rfl (Nat.le_of_ble_eq_true rfl) (k_i (fun r2 τ1 h => ?_))
  refine J_if_eq cx (tgt := 36) dX4_rain_5 (by decide) (fun q3 => ?_) (fun q3 => ?_)
  · replace h := h.1 q3
    refine J_ldc2 cx (v := (-1000001)) dX4_rain_36 gw_551 ?_
    exact J_lret cx dX4_rain_39 h
  · replace h := h.2 q3
    refine J_iload_n cx 2 dX4_rain_8 rfl rfl ?_
    refine J_iconst cx dX4_rain_9 (by decide : _ = ((nI 0) : Int32)) ?_
    refine J_bipush cx dX4_rain_10 (by decide : _ = ((nI 99) : Int32)) ?_
    refine J_cS cx dX4_rain_12 S_X4_52 (by decide) (ct_X4_within   _ _ _ _ _ h) rfl rfl (Nat.le_of_ble_eq_true rfl) (k_i (fun r5 τ4 h => ?_))
    refine J_if_eq cx (tgt := 36) dX4_rain_15 (by decide) (fun q6 => ?_) (fun q6 => ?_)
    · replace h := h.1 q6
      refine J_ldc2 cx (v := (-1000001)) dX4_rain_36 gw_551 ?_
      exact J_lret cx dX4_rain_39 h
    · replace h := h.2 q6
      refine J_iload_n cx 3 dX4_rain_18 rfl rfl ?_
      refine J_iconst cx dX4_rain_19 (by decide : _ = ((nI 0) : Int32)) ?_
      refine J_bipush cx dX4_rain_20 (by decide : _ = ((nI 10) : Int32)) ?_
      refine J_cS cx dX4_rain_22 S_X4_52 (by decide) (ct_X4_within   _ _ _ _ _ h) rfl rfl (Nat.le_of_ble_eq_true rfl) (k_i (fun r8 τ7 h => ?_))
      refine J_if_eq cx (tgt := 36) dX4_rain_25 (by decide) (fun q9 => ?_) (fun q9 => ?_)
      · replace h := h.1 q9
        refine J_ldc2 cx (v := (-1000001)) dX4_rain_36 gw_551 ?_
        exact J_lret cx dX4_rain_39 h
      · replace h := h.2 q9
        refine J_iload cx dX4_rain_28 rfl ?_
        refine J_cS cx dX4_rain_30 S_X4_162 (by decide) (ct_X4_isBit   _ _ _ h) rfl rfl (Nat.le_of_ble_eq_true rfl) (k_i (fun r11 τ10 h => ?_))
        refine J_if_ne cx (tgt := 40) dX4_rain_33 (by decide) (fun q12 => ?_) (fun q12 => ?_)
        · replace h := h.1 q12
          refine J_aload_n cx 0 dX4_rain_40 rfl rfl ?_
          refine J_getR cx (j := (tc 0 0)) dX4_rain_41 F_X4_37 (by decide) rfl rfl rfl ?_
          refine J_iconst cx dX4_rain_44 (by decide : _ = ((nI 5) : Int32)) ?_
          refine J_cV cx dX4_rain_45 V_X4_243 (by decide) (tc_lt (by decide) (by decide)) (kq_t0 (by decide)) (ct_X3_ofKind 0 (by decide) _ _ _ h) rfl rfl (Nat.le_of_ble_eq_true rfl) (k_i (fun r14 τ13 h => ?_))
          refine J_istore cx dX4_rain_48 (by decide) rfl rfl ?_
          refine J_lconst cx dX4_rain_50 (by decide : _ = ((lN 0) : Int64)) ?_
          refine J_lstore cx dX4_rain_51 (by decide) rfl rfl ?_
          refine J_iconst cx dX4_rain_53 (by decide : _ = ((nI 0) : Int32)) ?_
          refine J_istore cx dX4_rain_54 (by decide) rfl rfl ?_
          exact j_X4_rain_56     cx   _ _ _ _ _ _ _ _ h
        · replace h := h.2 q12
          refine J_ldc2 cx (v := (-1000001)) dX4_rain_36 gw_551 ?_
          exact J_lret cx dX4_rain_39 h
def w_X4_drawn_102 (K62 : (Int32 × Int32 × Int64 × Int32 × Int32 × PI → Prop)) (Q : Int32 → PI → Prop) (l1 : Int32) (l3 : Int32) (l4 : Int64) (l6 : Int32) (l7 : Int32) (σ : PI) : Prop := K62 (l1, l3, l4, l6, (l7 + (nI 1)), σ)
set_option maxRecDepth 100000 in
set_option maxHeartbeats 4000000 in
theorem j_X4_drawn_102 {M : MC} {X : XP} {Q : Int32 → PI → Prop} (K62 : (Int32 × Int32 × Int64 × Int32 × Int32 × PI → Prop)) (hK62 : ∀ (l1 : Int32) (l3 : Int32) (l4 : Int64) (l6 : Int32) (l7 : Int32) (σ : PI), K62 (l1, l3, l4, l6, l7, σ) → J M X (QF M X (qI Q)) σ 62 [some (.ref (X.1 252)), some (.int l1), none, some (.int l3), some (.long l4), none, some (.int l6), some (.int l7)] []) (cx : Cx M X RX4 cX4_drawn 8 (some .int) 4) (l1 : Int32) (l3 : Int32) (l4 : Int64) (l6 : Int32) (l7 : Int32) (σ : PI) (h : w_X4_drawn_102  K62 Q l1 l3 l4 l6 l7 σ) : J M X (QF M X (qI Q)) σ 102 [some (.ref (X.1 252)), some (.int l1), none, some (.int l3), some (.long l4), none, some (.int l6), some (.int l7)] [] := by
  unfold w_X4_drawn_102 at h
  refine J_iinc cx dX4_drawn_102 rfl (by decide : _ = ((nI 1) : Int32)) (by decide) rfl rfl ?_
  refine J_goto cx (tgt := 62) dX4_drawn_105 (by decide) ?_
  exact hK62   _ _ _ _ _ _ h
def B_X4_drawn_62 (K62 : (Int32 × Int32 × Int64 × Int32 × Int32 × PI → Prop)) (Q : Int32 → PI → Prop) (l1 : Int32) (l3 : Int32) (l4 : Int64) (l6 : Int32) (l7 : Int32) (σ : PI) : Prop := (l1 ≤ l7 → (¬ l3 = (nI 0) → Q l6 σ) ∧ (l3 = (nI 0) → wp_X3_feltByAll 1 σ (fun r18 τ17 => (Q r18 τ17)))) ∧ (¬ l1 ≤ l7 → ∀ x19 : Int64, x19 = ((l4 * (lN 16807)) - (l4 * (lN 16807)) / (lN 2147483647) * (lN 2147483647)) → (wp_X3_sendByDraw 1 x19 σ (fun τ20 => (wp_X3_passDay 1 τ20 (fun r22 τ21 => ((r22 = (nI 0) → w_X4_drawn_102  K62 Q l1 l3 x19 l6 l7 τ21) ∧ (¬ r22 = (nI 0) → w_X4_drawn_102  K62 Q l1 l3 x19 (l6 + (nI 1)) l7 τ21)))))))
def w_X4_drawn_62 (Q : Int32 → PI → Prop) (l1 : Int32) (l3 : Int32) (l4 : Int64) (l6 : Int32) (l7 : Int32) (σ : PI) : Prop := ∃ n, Lp (fun K a => B_X4_drawn_62   K Q a.1 a.2.1 a.2.2.1 a.2.2.2.1 a.2.2.2.2.1 a.2.2.2.2.2) n (l1, l3, l4, l6, l7, σ)
set_option maxRecDepth 100000 in
set_option maxHeartbeats 4000000 in
theorem j_X4_drawn_62 {M : MC} {X : XP} {Q : Int32 → PI → Prop} (cx : Cx M X RX4 cX4_drawn 8 (some .int) 4) (l1 : Int32) (l3 : Int32) (l4 : Int64) (l6 : Int32) (l7 : Int32) (σ : PI) (h : w_X4_drawn_62   Q l1 l3 l4 l6 l7 σ) : J M X (QF M X (qI Q)) σ 62 [some (.ref (X.1 252)), some (.int l1), none, some (.int l3), some (.long l4), none, some (.int l6), some (.int l7)] [] := by
  refine Lp_J (P := fun (a : Int32 × Int32 × Int64 × Int32 × Int32 × PI) => J M X (QF M X (qI Q)) (a.2.2.2.2.2) 62 [some (.ref (X.1 252)), some (.int a.1), none, some (.int a.2.1), some (.long a.2.2.1), none, some (.int a.2.2.2.1), some (.int a.2.2.2.2.1)] []) (fun K62 hK a h => ?_) h
  obtain ⟨l1, l3, l4, l6, l7, σ⟩ := a
  have hK62 : ∀ (l1 : Int32) (l3 : Int32) (l4 : Int64) (l6 : Int32) (l7 : Int32) (σ : PI), K62 (l1, l3, l4, l6, l7, σ) → J M X (QF M X (qI Q)) σ 62 [some (.ref (X.1 252)), some (.int l1), none, some (.int l3), some (.long l4), none, some (.int l6), some (.int l7)] [] := fun l1 l3 l4 l6 l7 σ q => hK _ q
  replace h : B_X4_drawn_62   K62 Q l1 l3 l4 l6 l7 σ := h
  show J M X (QF M X (qI Q)) σ 62 [some (.ref (X.1 252)), some (.int l1), none, some (.int l3), some (.long l4), none, some (.int l6), some (.int l7)] []
  unfold B_X4_drawn_62 at h
  refine J_iload cx dX4_drawn_62 rfl ?_
  refine J_iload_n cx 1 dX4_drawn_64 rfl rfl ?_
  refine J_icmp_ge cx (tgt := 108) dX4_drawn_65 (by decide) (fun q15 => ?_) (fun q15 => ?_)
  · replace h := h.1 q15
    refine J_iload_n cx 3 dX4_drawn_108 rfl rfl ?_
    refine J_if_ne cx (tgt := 122) dX4_drawn_109 (by decide) (fun q16 => ?_) (fun q16 => ?_)
    · replace h := h.1 q16
      refine J_iload cx dX4_drawn_122 rfl ?_
      exact J_iret cx dX4_drawn_124 h
    · replace h := h.2 q16
      refine J_aload_n cx 0 dX4_drawn_112 rfl rfl ?_
      refine J_getR cx (j := (tc 1 0)) dX4_drawn_113 F_X4_41 (by decide) rfl rfl rfl ?_
      refine J_cV cx dX4_drawn_116 V_X4_144 (by decide) (tc_lt (by decide) (by decide)) (kq_t0 (by decide)) (ct_X3_feltByAll 1 (by decide)  _ _ h) rfl rfl (Nat.le_of_ble_eq_true rfl) (k_i (fun r18 τ17 h => ?_))
      refine J_goto cx (tgt := 124) dX4_drawn_119 (by decide) ?_
      exact J_iret cx dX4_drawn_124 h
  · replace h := h.2 q15
    refine J_lload cx dX4_drawn_68 rfl ?_
    refine J_ldc2 cx (v := (lN 16807)) dX4_drawn_70 gw_578 ?_
    refine J_lmul cx dX4_drawn_73 ?_
    refine J_ldc2 cx (v := (lN 2147483647)) dX4_drawn_74 gw_579 ?_
    refine J_lrem cx dX4_drawn_77 (by decide) ?_
    refine J_topl (fun x19 e_x19 => ?_)
    replace h := h x19 e_x19
    refine J_lstore cx dX4_drawn_78 (by decide) rfl rfl ?_
    refine J_aload_n cx 0 dX4_drawn_80 rfl rfl ?_
    refine J_getR cx (j := (tc 1 0)) dX4_drawn_81 F_X4_41 (by decide) rfl rfl rfl ?_
    refine J_lload cx dX4_drawn_84 rfl ?_
    refine J_cV cx dX4_drawn_86 V_X4_270 (by decide) (tc_lt (by decide) (by decide)) (kq_t0 (by decide)) (ct_X3_sendByDraw 1 (by decide) _ _ _ h) rfl rfl (Nat.le_of_ble_eq_true rfl) (k_v (fun τ20 h => ?_))
    refine J_aload_n cx 0 dX4_drawn_89 rfl rfl ?_
    refine J_getR cx (j := (tc 1 0)) dX4_drawn_90 F_X4_41 (by decide) rfl rfl rfl ?_
    refine J_cV cx dX4_drawn_93 V_X4_140 (by decide) (tc_lt (by decide) (by decide)) (kq_t0 (by decide)) (ct_X3_passDay 1 (by decide)  _ _ h) rfl rfl (Nat.le_of_ble_eq_true rfl) (k_i (fun r22 τ21 h => ?_))
    refine J_if_eq cx (tgt := 102) dX4_drawn_96 (by decide) (fun q23 => ?_) (fun q23 => ?_)
    · replace h := h.1 q23
      exact j_X4_drawn_102   K62 hK62 cx   _ _ _ _ _ _ h
    · replace h := h.2 q23
      refine J_iinc cx dX4_drawn_99 rfl (by decide : _ = ((nI 1) : Int32)) (by decide) rfl rfl ?_
      exact j_X4_drawn_102   K62 hK62 cx   _ _ _ _ _ _ h
def wp_X4_drawn (a0 : Int32) (a1 : Int32) (a2 : Int32) (σ : PI) (Q : Int32 → PI → Prop) : Prop := wp_X4_hasTown  σ (fun r2 τ1 => ((¬ r2 = (nI 0) → wp_X4_within a0 (nI 0) (nI 60) τ1 (fun r5 τ4 => ((r5 = (nI 0) → Q (-1000001) τ4) ∧ (¬ r5 = (nI 0) → wp_X4_within a1 (nI 1) (nI 999999) τ4 (fun r8 τ7 => ((r8 = (nI 0) → Q (-1000001) τ7) ∧ (¬ r8 = (nI 0) → wp_X4_isBit a2 τ7 (fun r11 τ10 => ((¬ r11 = (nI 0) → wp_X3_copyFrom 1 0 τ10 (fun τ13 => (∀ x14 : Int64, x14 = (a1 : Int32).toInt64 → (w_X4_drawn_62   Q a0 a2 x14 (nI 0) (nI 0) τ13)))) ∧ (r11 = (nI 0) → Q (-1000001) τ10)))))))))) ∧ (r2 = (nI 0) → Q (-1000002) τ1)))
set_option maxRecDepth 100000 in
set_option maxHeartbeats 4000000 in
theorem ct_X4_drawn {l : Launch} {X : XP} (a0 : Int32) (a1 : Int32) (a2 : Int32) (σ : PI) (Q : Int32 → PI → Prop) (h : wp_X4_drawn  a0 a1 a2 σ Q) : Ct l yX4_drawn cX4_drawn 8 (some .int) 4 X [.ref (X.1 252), .int a0, .int a1, .int a2] σ (qI Q) := by
  refine Ct_of (L := [some (.ref (X.1 252)), some (.int a0), some (.int a1), some (.int a2), none, none, none, none]) (by decide) (Nat.le_of_ble_eq_true rfl) rfl (fun M hl cx => ?_)
  subst hl
  unfold wp_X4_drawn at h
  refine J_aload_n cx 0 dX4_drawn_0 rfl rfl ?_
  refine J_cV cx dX4_drawn_1 V_X4_130 (by decide) (by decide) rfl (ct_X4_hasTown    _ _ h) rfl rfl (Nat.le_of_ble_eq_true rfl) (k_i (fun r2 τ1 h => ?_))
  refine J_if_ne cx (tgt := 10) dX4_drawn_4 (by decide) (fun q3 => ?_) (fun q3 => ?_)
  · replace h := h.1 q3
    refine J_iload_n cx 1 dX4_drawn_10 rfl rfl ?_
    refine J_iconst cx dX4_drawn_11 (by decide : _ = ((nI 0) : Int32)) ?_
    refine J_bipush cx dX4_drawn_12 (by decide : _ = ((nI 60) : Int32)) ?_
    refine J_cS cx dX4_drawn_14 S_X4_52 (by decide) (ct_X4_within   _ _ _ _ _ h) rfl rfl (Nat.le_of_ble_eq_true rfl) (k_i (fun r5 τ4 h => ?_))
    refine J_if_eq cx (tgt := 38) dX4_drawn_17 (by decide) (fun q6 => ?_) (fun q6 => ?_)
    · replace h := h.1 q6
      refine J_ldc cx (v := (-1000001)) dX4_drawn_38 gw_212 ?_
      exact J_iret cx dX4_drawn_40 h
    · replace h := h.2 q6
      refine J_iload_n cx 2 dX4_drawn_20 rfl rfl ?_
      refine J_iconst cx dX4_drawn_21 (by decide : _ = ((nI 1) : Int32)) ?_
      refine J_ldc_w cx (v := (nI 999999)) dX4_drawn_22 gw_577 ?_
      refine J_cS cx dX4_drawn_25 S_X4_52 (by decide) (ct_X4_within   _ _ _ _ _ h) rfl rfl (Nat.le_of_ble_eq_true rfl) (k_i (fun r8 τ7 h => ?_))
      refine J_if_eq cx (tgt := 38) dX4_drawn_28 (by decide) (fun q9 => ?_) (fun q9 => ?_)
      · replace h := h.1 q9
        refine J_ldc cx (v := (-1000001)) dX4_drawn_38 gw_212 ?_
        exact J_iret cx dX4_drawn_40 h
      · replace h := h.2 q9
        refine J_iload_n cx 3 dX4_drawn_31 rfl rfl ?_
        refine J_cS cx dX4_drawn_32 S_X4_162 (by decide) (ct_X4_isBit   _ _ _ h) rfl rfl (Nat.le_of_ble_eq_true rfl) (k_i (fun r11 τ10 h => ?_))
        refine J_if_ne cx (tgt := 41) dX4_drawn_35 (by decide) (fun q12 => ?_) (fun q12 => ?_)
        · replace h := h.1 q12
          refine J_aload_n cx 0 dX4_drawn_41 rfl rfl ?_
          refine J_getR cx (j := (tc 1 0)) dX4_drawn_42 F_X4_41 (by decide) rfl rfl rfl ?_
          refine J_aload_n cx 0 dX4_drawn_45 rfl rfl ?_
          refine J_getR cx (j := (tc 0 0)) dX4_drawn_46 F_X4_37 (by decide) rfl rfl rfl ?_
          refine J_cV cx dX4_drawn_49 V_X4_115 (by decide) (tc_lt (by decide) (by decide)) (kq_t0 (by decide)) (ct_X3_copyFrom 1 0 (by decide) (by decide)  _ _ h) rfl rfl (Nat.le_of_ble_eq_true rfl) (k_v (fun τ13 h => ?_))
          refine J_iload_n cx 2 dX4_drawn_52 rfl rfl ?_
          refine J_i2l cx dX4_drawn_53 ?_
          refine J_topl (fun x14 e_x14 => ?_)
          replace h := h x14 e_x14
          refine J_lstore cx dX4_drawn_54 (by decide) rfl rfl ?_
          refine J_iconst cx dX4_drawn_56 (by decide : _ = ((nI 0) : Int32)) ?_
          refine J_istore cx dX4_drawn_57 (by decide) rfl rfl ?_
          refine J_iconst cx dX4_drawn_59 (by decide : _ = ((nI 0) : Int32)) ?_
          refine J_istore cx dX4_drawn_60 (by decide) rfl rfl ?_
          refine J_fg 2 rfl ?_
          exact j_X4_drawn_62     cx   _ _ _ _ _ _ h
        · replace h := h.2 q12
          refine J_ldc cx (v := (-1000001)) dX4_drawn_38 gw_212 ?_
          exact J_iret cx dX4_drawn_40 h
  · replace h := h.2 q3
    refine J_ldc cx (v := (-1000002)) dX4_drawn_7 gw_336 ?_
    exact J_iret cx dX4_drawn_9 h
def wp_X4_image (a0 : Int32) (σ : PI) (Q : Int32 → PI → Prop) : Prop := wp_X4_within a0 (nI 0) (nI 1) σ (fun r2 τ1 => ((¬ r2 = (nI 0) → wp_X4_hasTown  τ1 (fun r5 τ4 => ((¬ r5 = (nI 0) → vp_in a0 2 ∧ (wp_X3_copyFrom (2 + (a0 : Int32).toNatClampNeg) 0 τ4 (fun τ8 => (Q (nI 1) τ8)))) ∧ (r5 = (nI 0) → Q (-1000002) τ4)))) ∧ (r2 = (nI 0) → Q (-1000001) τ1)))
set_option maxRecDepth 100000 in
set_option maxHeartbeats 4000000 in
theorem ct_X4_image {l : Launch} {X : XP} (a0 : Int32) (σ : PI) (Q : Int32 → PI → Prop) (h : wp_X4_image  a0 σ Q) : Ct l yX4_image cX4_image 2 (some .int) 2 X [.ref (X.1 252), .int a0] σ (qI Q) := by
  refine Ct_of (L := [some (.ref (X.1 252)), some (.int a0)]) (by decide) (Nat.le_of_ble_eq_true rfl) rfl (fun M hl cx => ?_)
  subst hl
  unfold wp_X4_image at h
  refine J_iload_n cx 1 dX4_image_0 rfl rfl ?_
  refine J_iconst cx dX4_image_1 (by decide : _ = ((nI 0) : Int32)) ?_
  refine J_iconst cx dX4_image_2 (by decide : _ = ((nI 1) : Int32)) ?_
  refine J_cS cx dX4_image_3 S_X4_52 (by decide) (ct_X4_within   _ _ _ _ _ h) rfl rfl (Nat.le_of_ble_eq_true rfl) (k_i (fun r2 τ1 h => ?_))
  refine J_if_ne cx (tgt := 12) dX4_image_6 (by decide) (fun q3 => ?_) (fun q3 => ?_)
  · replace h := h.1 q3
    refine J_aload_n cx 0 dX4_image_12 rfl rfl ?_
    refine J_cV cx dX4_image_13 V_X4_130 (by decide) (by decide) rfl (ct_X4_hasTown    _ _ h) rfl rfl (Nat.le_of_ble_eq_true rfl) (k_i (fun r5 τ4 h => ?_))
    refine J_if_ne cx (tgt := 22) dX4_image_16 (by decide) (fun q6 => ?_) (fun q6 => ?_)
    · replace h := h.1 q6
      refine J_aload_n cx 0 dX4_image_22 rfl rfl ?_
      refine J_getR cx (j := 254) dX4_image_23 F_X4_18 (by decide) rfl rfl rfl ?_
      refine J_iload_n cx 1 dX4_image_26 rfl rfl ?_
      obtain ⟨s7, h⟩ := h
      refine J_aald cx dX4_image_27 (by decide) rfl (Or.inr rfl) s7 (rq_imgs _) ?_
      refine J_aload_n cx 0 dX4_image_28 rfl rfl ?_
      refine J_getR cx (j := (tc 0 0)) dX4_image_29 F_X4_37 (by decide) rfl rfl rfl ?_
      refine J_cV cx dX4_image_32 V_X4_115 (by decide) (tc_lt (twi s7) (by decide)) (kq_t0 (twi s7)) (ct_X3_copyFrom (2 + (a0 : Int32).toNatClampNeg) 0 (twi s7) (by decide)  _ _ h) rfl rfl (Nat.le_of_ble_eq_true rfl) (k_v (fun τ8 h => ?_))
      refine J_iconst cx dX4_image_35 (by decide : _ = ((nI 1) : Int32)) ?_
      exact J_iret cx dX4_image_36 h
    · replace h := h.2 q6
      refine J_ldc cx (v := (-1000002)) dX4_image_19 gw_336 ?_
      exact J_iret cx dX4_image_21 h
  · replace h := h.2 q3
    refine J_ldc cx (v := (-1000001)) dX4_image_9 gw_212 ?_
    exact J_iret cx dX4_image_11 h
def wp_X4_restore (a0 : Int32) (σ : PI) (Q : Int32 → PI → Prop) : Prop := wp_X4_within a0 (nI 0) (nI 1) σ (fun r2 τ1 => ((¬ r2 = (nI 0) → vp_in a0 2 ∧ ((¬ (τ1 (tc (2 + (a0 : Int32).toNatClampNeg) 0) 8) = (nI 0) → vp_in a0 2 ∧ (wp_X3_copyFrom 0 (2 + (a0 : Int32).toNatClampNeg) τ1 (fun τ7 => (wp_X0_forget  τ7 (fun τ8 => (Q (nI 1) τ8)))))) ∧ ((τ1 (tc (2 + (a0 : Int32).toNatClampNeg) 0) 8) = (nI 0) → Q (-1000002) τ1))) ∧ (r2 = (nI 0) → Q (-1000001) τ1)))
set_option maxRecDepth 100000 in
set_option maxHeartbeats 4000000 in
theorem ct_X4_restore {l : Launch} {X : XP} (a0 : Int32) (σ : PI) (Q : Int32 → PI → Prop) (h : wp_X4_restore  a0 σ Q) : Ct l yX4_restore cX4_restore 2 (some .int) 2 X [.ref (X.1 252), .int a0] σ (qI Q) := by
  refine Ct_of (L := [some (.ref (X.1 252)), some (.int a0)]) (by decide) (Nat.le_of_ble_eq_true rfl) rfl (fun M hl cx => ?_)
  subst hl
  unfold wp_X4_restore at h
  refine J_iload_n cx 1 dX4_restore_0 rfl rfl ?_
  refine J_iconst cx dX4_restore_1 (by decide : _ = ((nI 0) : Int32)) ?_
  refine J_iconst cx dX4_restore_2 (by decide : _ = ((nI 1) : Int32)) ?_
  refine J_cS cx dX4_restore_3 S_X4_52 (by decide) (ct_X4_within   _ _ _ _ _ h) rfl rfl (Nat.le_of_ble_eq_true rfl) (k_i (fun r2 τ1 h => ?_))
  refine J_if_ne cx (tgt := 12) dX4_restore_6 (by decide) (fun q3 => ?_) (fun q3 => ?_)
  · replace h := h.1 q3
    refine J_aload_n cx 0 dX4_restore_12 rfl rfl ?_
    refine J_getR cx (j := 254) dX4_restore_13 F_X4_18 (by decide) rfl rfl rfl ?_
    refine J_iload_n cx 1 dX4_restore_16 rfl rfl ?_
    obtain ⟨s4, h⟩ := h
    refine J_aald cx dX4_restore_17 (by decide) rfl (Or.inr rfl) s4 (rq_imgs _) ?_
    refine J_getI cx dX4_restore_18 F_X4_200 (tc_lt (twi s4) (by decide)) (kq_t0 (twi s4)) rfl ?_
    refine J_if_ne cx (tgt := 27) dX4_restore_21 (by decide) (fun q5 => ?_) (fun q5 => ?_)
    · replace h := h.1 q5
      refine J_aload_n cx 0 dX4_restore_27 rfl rfl ?_
      refine J_getR cx (j := (tc 0 0)) dX4_restore_28 F_X4_37 (by decide) rfl rfl rfl ?_
      refine J_aload_n cx 0 dX4_restore_31 rfl rfl ?_
      refine J_getR cx (j := 254) dX4_restore_32 F_X4_18 (by decide) rfl rfl rfl ?_
      refine J_iload_n cx 1 dX4_restore_35 rfl rfl ?_
      obtain ⟨s6, h⟩ := h
      refine J_aald cx dX4_restore_36 (by decide) rfl (Or.inr rfl) s6 (rq_imgs _) ?_
      refine J_cV cx dX4_restore_37 V_X4_115 (by decide) (tc_lt (by decide) (by decide)) (kq_t0 (by decide)) (ct_X3_copyFrom 0 (2 + (a0 : Int32).toNatClampNeg) (by decide) (twi s6)  _ _ h) rfl rfl (Nat.le_of_ble_eq_true rfl) (k_v (fun τ7 h => ?_))
      refine J_aload_n cx 0 dX4_restore_40 rfl rfl ?_
      refine J_getR cx (j := 256) dX4_restore_41 F_X4_33 (by decide) rfl rfl rfl ?_
      refine J_cV cx dX4_restore_44 V_X4_119 (by decide) (by decide) rfl (ct_X0_forget    _ _ h) rfl rfl (Nat.le_of_ble_eq_true rfl) (k_v (fun τ8 h => ?_))
      refine J_iconst cx dX4_restore_47 (by decide : _ = ((nI 1) : Int32)) ?_
      exact J_iret cx dX4_restore_48 h
    · replace h := h.2 q5
      refine J_ldc cx (v := (-1000002)) dX4_restore_24 gw_336 ?_
      exact J_iret cx dX4_restore_26 h
  · replace h := h.2 q3
    refine J_ldc cx (v := (-1000001)) dX4_restore_9 gw_212 ?_
    exact J_iret cx dX4_restore_11 h
def wp_X4_kind (a0 : Int32) (σ : PI) (Q : Int32 → PI → Prop) : Prop := wp_X4_isLeaver a0 σ (fun r2 τ1 => ((r2 = (nI 0) → Q (-1000001) τ1) ∧ (¬ r2 = (nI 0) → vp_in a0 6 ∧ (Q (τ1 (tc 0 3) (a0 : Int32).toNatClampNeg) τ1))))
set_option maxRecDepth 100000 in
set_option maxHeartbeats 4000000 in
theorem ct_X4_kind {l : Launch} {X : XP} (a0 : Int32) (σ : PI) (Q : Int32 → PI → Prop) (h : wp_X4_kind  a0 σ Q) : Ct l yX4_kind cX4_kind 2 (some .int) 2 X [.ref (X.1 252), .int a0] σ (qI Q) := by
  refine Ct_of (L := [some (.ref (X.1 252)), some (.int a0)]) (by decide) (Nat.le_of_ble_eq_true rfl) rfl (fun M hl cx => ?_)
  subst hl
  unfold wp_X4_kind at h
  refine J_aload_n cx 0 dX4_kind_0 rfl rfl ?_
  refine J_iload_n cx 1 dX4_kind_1 rfl rfl ?_
  refine J_cV cx dX4_kind_2 V_X4_147 (by decide) (by decide) rfl (ct_X4_isLeaver   _ _ _ h) rfl rfl (Nat.le_of_ble_eq_true rfl) (k_i (fun r2 τ1 h => ?_))
  refine J_if_eq cx (tgt := 20) dX4_kind_5 (by decide) (fun q3 => ?_) (fun q3 => ?_)
  · replace h := h.1 q3
    refine J_ldc cx (v := (-1000001)) dX4_kind_20 gw_212 ?_
    exact J_iret cx dX4_kind_22 h
  · replace h := h.2 q3
    refine J_aload_n cx 0 dX4_kind_8 rfl rfl ?_
    refine J_getR cx (j := (tc 0 0)) dX4_kind_9 F_X4_37 (by decide) rfl rfl rfl ?_
    refine J_getR cx (j := (tc 0 3)) dX4_kind_12 F_X4_274 (tc_lt (by decide) (by decide)) (kq_t0 (by decide)) rfl (rq_t (by decide)) ?_
    refine J_iload_n cx 1 dX4_kind_15 rfl rfl ?_
    obtain ⟨s4, h⟩ := h
    refine J_iald cx dX4_kind_16 (tc_lt (by decide) (by decide)) (kq_t (by decide) (by decide)) s4 ?_
    refine J_goto cx (tgt := 22) dX4_kind_17 (by decide) ?_
    exact J_iret cx dX4_kind_22 h
def w_X4_as_56 (Q : Int32 → PI → Prop) (l1 : Int32) (l2 : Int32) (l3 : Int32) (σ : PI) : Prop := (¬ l3 = l2 → wp_X4_found (nI 3) σ (fun r15 τ14 => (Q r15 τ14))) ∧ (l3 = l2 → wp_X4_unfound l1 σ (fun r17 τ16 => (Q r17 τ16)))
set_option maxRecDepth 100000 in
set_option maxHeartbeats 4000000 in
theorem j_X4_as_56 {M : MC} {X : XP} {Q : Int32 → PI → Prop} (cx : Cx M X RX4 cX4_as 5 (some .int) 2) (l1 : Int32) (l2 : Int32) (l3 : Int32) (σ : PI) (h : w_X4_as_56   Q l1 l2 l3 σ) : J M X (QF M X (qI Q)) σ 56 [some (.ref (X.1 252)), some (.int l1), some (.int l2), some (.int l3), none] [] := by
  unfold w_X4_as_56 at h
  refine J_iload_n cx 3 dX4_as_56 rfl rfl ?_
  refine J_iload_n cx 2 dX4_as_57 rfl rfl ?_
  refine J_icmp_ne cx (tgt := 69) dX4_as_58 (by decide) (fun q13 => ?_) (fun q13 => ?_)
  · replace h := h.1 q13
    refine J_aload_n cx 0 dX4_as_69 rfl rfl ?_
    refine J_iconst cx dX4_as_70 (by decide : _ = ((nI 3) : Int32)) ?_
    refine J_cV cx dX4_as_71 V_X4_57 (by decide) (by decide) rfl (ct_X4_found   _ _ _ h) rfl rfl (Nat.le_of_ble_eq_true rfl) (k_i (fun r15 τ14 h => ?_))
    exact J_iret cx dX4_as_74 h
  · replace h := h.2 q13
    refine J_aload_n cx 0 dX4_as_61 rfl rfl ?_
    refine J_iload_n cx 1 dX4_as_62 rfl rfl ?_
    refine J_cV cx dX4_as_63 V_X4_65 (by decide) (by decide) rfl (ct_X4_unfound   _ _ _ h) rfl rfl (Nat.le_of_ble_eq_true rfl) (k_i (fun r17 τ16 h => ?_))
    refine J_goto cx (tgt := 74) dX4_as_66 (by decide) ?_
    exact J_iret cx dX4_as_74 h
def B_X4_as_33 (K33 : (Int32 × Int32 × Int32 × Int32 × PI → Prop)) (Q : Int32 → PI → Prop) (l1 : Int32) (l2 : Int32) (l3 : Int32) (l4 : Int32) (σ : PI) : Prop := ((nI 5) < l4 → w_X4_as_56   Q l1 l2 l3 σ) ∧ (¬ (nI 5) < l4 → (l3 ≤ l2 → w_X4_as_56   Q l1 l2 l3 σ) ∧ (¬ l3 ≤ l2 → vp_in l3 6 ∧ (∀ x12 : Int32, x12 = (sArr 0 (l3 : Int32).toNatClampNeg) → (K33 (l1, l2, x12, (l4 + (nI 1)), σ)))))
def w_X4_as_33 (Q : Int32 → PI → Prop) (l1 : Int32) (l2 : Int32) (l3 : Int32) (l4 : Int32) (σ : PI) : Prop := ∃ n, Lp (fun K a => B_X4_as_33   K Q a.1 a.2.1 a.2.2.1 a.2.2.2.1 a.2.2.2.2) n (l1, l2, l3, l4, σ)
set_option maxRecDepth 100000 in
set_option maxHeartbeats 4000000 in
theorem j_X4_as_33 {M : MC} {X : XP} {Q : Int32 → PI → Prop} (cx : Cx M X RX4 cX4_as 5 (some .int) 2) (l1 : Int32) (l2 : Int32) (l3 : Int32) (l4 : Int32) (σ : PI) (h : w_X4_as_33   Q l1 l2 l3 l4 σ) : J M X (QF M X (qI Q)) σ 33 [some (.ref (X.1 252)), some (.int l1), some (.int l2), some (.int l3), some (.int l4)] [] := by
  refine Lp_J (P := fun (a : Int32 × Int32 × Int32 × Int32 × PI) => J M X (QF M X (qI Q)) (a.2.2.2.2) 33 [some (.ref (X.1 252)), some (.int a.1), some (.int a.2.1), some (.int a.2.2.1), some (.int a.2.2.2.1)] []) (fun K33 hK a h => ?_) h
  obtain ⟨l1, l2, l3, l4, σ⟩ := a
  have hK33 : ∀ (l1 : Int32) (l2 : Int32) (l3 : Int32) (l4 : Int32) (σ : PI), K33 (l1, l2, l3, l4, σ) → J M X (QF M X (qI Q)) σ 33 [some (.ref (X.1 252)), some (.int l1), some (.int l2), some (.int l3), some (.int l4)] [] := fun l1 l2 l3 l4 σ q => hK _ q
  replace h : B_X4_as_33   K33 Q l1 l2 l3 l4 σ := h
  show J M X (QF M X (qI Q)) σ 33 [some (.ref (X.1 252)), some (.int l1), some (.int l2), some (.int l3), some (.int l4)] []
  unfold B_X4_as_33 at h
  refine J_iload cx dX4_as_33 rfl ?_
  refine J_iconst cx dX4_as_35 (by decide : _ = ((nI 5) : Int32)) ?_
  refine J_icmp_gt cx (tgt := 56) dX4_as_36 (by decide) (fun q9 => ?_) (fun q9 => ?_)
  · replace h := h.1 q9
    refine J_fg 4 rfl ?_
    exact j_X4_as_56     cx   _ _ _ _ h
  · replace h := h.2 q9
    refine J_iload_n cx 3 dX4_as_39 rfl rfl ?_
    refine J_iload_n cx 2 dX4_as_40 rfl rfl ?_
    refine J_icmp_le cx (tgt := 56) dX4_as_41 (by decide) (fun q10 => ?_) (fun q10 => ?_)
    · replace h := h.1 q10
      refine J_fg 4 rfl ?_
      exact j_X4_as_56     cx   _ _ _ _ h
    · replace h := h.2 q10
      refine J_gets cx dX4_as_44 (by decide) gs_X4_277 ?_
      refine J_iload_n cx 3 dX4_as_47 rfl rfl ?_
      obtain ⟨s11, h⟩ := h
      refine J_sald cx dX4_as_48 (by decide) s11 ?_
      refine J_topi (fun x12 e_x12 => ?_)
      replace h := h x12 e_x12
      refine J_istore_n cx 3 dX4_as_49 rfl (by decide) rfl rfl ?_
      refine J_iinc cx dX4_as_50 rfl (by decide : _ = ((nI 1) : Int32)) (by decide) rfl rfl ?_
      refine J_goto cx (tgt := 33) dX4_as_53 (by decide) ?_
      exact hK33   _ _ _ _ _ h
def wp_X4_as (a0 : Int32) (a1 : Int32) (σ : PI) (Q : Int32 → PI → Prop) : Prop := wp_X4_isLeaver a0 σ (fun r2 τ1 => ((r2 = (nI 0) → Q (-1000001) τ1) ∧ (¬ r2 = (nI 0) → wp_X4_within a1 (nI 0) (nI 5) τ1 (fun r5 τ4 => ((¬ r5 = (nI 0) → vp_in a0 6 ∧ (∀ x8 : Int32, x8 = (τ4 (tc 0 3) (a0 : Int32).toNatClampNeg) → (w_X4_as_33   Q a0 a1 x8 (nI 0) τ4))) ∧ (r5 = (nI 0) → Q (-1000001) τ4))))))
set_option maxRecDepth 100000 in
set_option maxHeartbeats 4000000 in
theorem ct_X4_as {l : Launch} {X : XP} (a0 : Int32) (a1 : Int32) (σ : PI) (Q : Int32 → PI → Prop) (h : wp_X4_as  a0 a1 σ Q) : Ct l yX4_as cX4_as 5 (some .int) 2 X [.ref (X.1 252), .int a0, .int a1] σ (qI Q) := by
  refine Ct_of (L := [some (.ref (X.1 252)), some (.int a0), some (.int a1), none, none]) (by decide) (Nat.le_of_ble_eq_true rfl) rfl (fun M hl cx => ?_)
  subst hl
  unfold wp_X4_as at h
  refine J_aload_n cx 0 dX4_as_0 rfl rfl ?_
  refine J_iload_n cx 1 dX4_as_1 rfl rfl ?_
  refine J_cV cx dX4_as_2 V_X4_147 (by decide) (by decide) rfl (ct_X4_isLeaver   _ _ _ h) rfl rfl (Nat.le_of_ble_eq_true rfl) (k_i (fun r2 τ1 h => ?_))
  refine J_if_eq cx (tgt := 17) dX4_as_5 (by decide) (fun q3 => ?_) (fun q3 => ?_)
  · replace h := h.1 q3
    refine J_ldc cx (v := (-1000001)) dX4_as_17 gw_212 ?_
    exact J_iret cx dX4_as_19 h
  · replace h := h.2 q3
    refine J_iload_n cx 2 dX4_as_8 rfl rfl ?_
    refine J_iconst cx dX4_as_9 (by decide : _ = ((nI 0) : Int32)) ?_
    refine J_iconst cx dX4_as_10 (by decide : _ = ((nI 5) : Int32)) ?_
    refine J_cS cx dX4_as_11 S_X4_52 (by decide) (ct_X4_within   _ _ _ _ _ h) rfl rfl (Nat.le_of_ble_eq_true rfl) (k_i (fun r5 τ4 h => ?_))
    refine J_if_ne cx (tgt := 20) dX4_as_14 (by decide) (fun q6 => ?_) (fun q6 => ?_)
    · replace h := h.1 q6
      refine J_aload_n cx 0 dX4_as_20 rfl rfl ?_
      refine J_getR cx (j := (tc 0 0)) dX4_as_21 F_X4_37 (by decide) rfl rfl rfl ?_
      refine J_getR cx (j := (tc 0 3)) dX4_as_24 F_X4_274 (tc_lt (by decide) (by decide)) (kq_t0 (by decide)) rfl (rq_t (by decide)) ?_
      refine J_iload_n cx 1 dX4_as_27 rfl rfl ?_
      obtain ⟨s7, h⟩ := h
      refine J_iald cx dX4_as_28 (tc_lt (by decide) (by decide)) (kq_t (by decide) (by decide)) s7 ?_
      refine J_topi (fun x8 e_x8 => ?_)
      replace h := h x8 e_x8
      refine J_istore_n cx 3 dX4_as_29 rfl (by decide) rfl rfl ?_
      refine J_iconst cx dX4_as_30 (by decide : _ = ((nI 0) : Int32)) ?_
      refine J_istore cx dX4_as_31 (by decide) rfl rfl ?_
      exact j_X4_as_33     cx   _ _ _ _ _ h
    · replace h := h.2 q6
      refine J_ldc cx (v := (-1000001)) dX4_as_17 gw_212 ?_
      exact J_iret cx dX4_as_19 h
def wp_X4_leaveInTrace (a0 : Int32) (σ : PI) (Q : PI → Prop) : Prop := ((nI 16) ≤ (σ 252 7) → Q σ) ∧ (¬ (nI 16) ≤ (σ 252 7) → vp_in (σ 252 7) 16 ∧ (∀ τ3 : PI, τ3 = up σ 259 ((σ 252 7) : Int32).toNatClampNeg a0 → (∀ τ4 : PI, τ4 = up τ3 252 7 ((τ3 252 7) + (nI 1)) → (Q τ4))))
set_option maxRecDepth 100000 in
set_option maxHeartbeats 4000000 in
theorem ct_X4_leaveInTrace {l : Launch} {X : XP} (a0 : Int32) (σ : PI) (Q : PI → Prop) (h : wp_X4_leaveInTrace  a0 σ Q) : Ct l yX4_leaveInTrace cX4_leaveInTrace 2 none 0 X [.ref (X.1 252), .int a0] σ (qV Q) := by
  refine Ct_of (L := [some (.ref (X.1 252)), some (.int a0)]) (by decide) (Nat.le_of_ble_eq_true rfl) rfl (fun M hl cx => ?_)
  subst hl
  unfold wp_X4_leaveInTrace at h
  refine J_aload_n cx 0 dX4_leaveInTrace_0 rfl rfl ?_
  refine J_getI cx dX4_leaveInTrace_1 F_X4_280 (by decide) rfl rfl ?_
  refine J_bipush cx dX4_leaveInTrace_4 (by decide : _ = ((nI 16) : Int32)) ?_
  refine J_icmp_ge cx (tgt := 29) dX4_leaveInTrace_6 (by decide) (fun q1 => ?_) (fun q1 => ?_)
  · replace h := h.1 q1
    exact J_vret cx dX4_leaveInTrace_29 h
  · replace h := h.2 q1
    refine J_aload_n cx 0 dX4_leaveInTrace_9 rfl rfl ?_
    refine J_getR cx (j := 259) dX4_leaveInTrace_10 F_X4_44 (by decide) rfl rfl rfl ?_
    refine J_aload_n cx 0 dX4_leaveInTrace_13 rfl rfl ?_
    refine J_getI cx dX4_leaveInTrace_14 F_X4_280 (by decide) rfl rfl ?_
    refine J_iload_n cx 1 dX4_leaveInTrace_17 rfl rfl ?_
    obtain ⟨s2, h⟩ := h
    refine J_iast cx dX4_leaveInTrace_18 (by decide) rfl s2 ?_
    refine J_nm (fun τ3 e_τ3 => ?_)
    replace h := h τ3 e_τ3
    refine J_aload_n cx 0 dX4_leaveInTrace_19 rfl rfl ?_
    refine J_dup cx dX4_leaveInTrace_20 rfl ?_
    refine J_getI cx dX4_leaveInTrace_21 F_X4_280 (by decide) rfl rfl ?_
    refine J_iconst cx dX4_leaveInTrace_24 (by decide : _ = ((nI 1) : Int32)) ?_
    refine J_iadd cx dX4_leaveInTrace_25 ?_
    refine J_putI cx dX4_leaveInTrace_26 (P_X4_280 _) (by decide) rfl rfl ?_
    refine J_nm (fun τ4 e_τ4 => ?_)
    replace h := h τ4 e_τ4
    exact J_vret cx dX4_leaveInTrace_29 h
def B_X4_nearestBody_4 (o0 : Nat) (K4 : (Int32 × Int32 × PI → Prop)) (Q : Int32 → PI → Prop) (l2 : Int32) (l3 : Int32) (σ : PI) : Prop := ((nI 5) < l3 → vp_in l2 6 ∧ (Q (sArr o0 (l2 : Int32).toNatClampNeg) σ)) ∧ (¬ (nI 5) < l3 → (l2 ≤ (nI 0) → vp_in l2 6 ∧ (Q (sArr o0 (l2 : Int32).toNatClampNeg) σ)) ∧ (¬ l2 ≤ (nI 0) → vp_in l2 6 ∧ ((¬ (sArr o0 (l2 : Int32).toNatClampNeg) = (nI 0) → vp_in l2 6 ∧ (Q (sArr o0 (l2 : Int32).toNatClampNeg) σ)) ∧ ((sArr o0 (l2 : Int32).toNatClampNeg) = (nI 0) → vp_in l2 6 ∧ (∀ x9 : Int32, x9 = (sArr 0 (l2 : Int32).toNatClampNeg) → (K4 (x9, (l3 + (nI 1)), σ)))))))
def w_X4_nearestBody_4 (o0 : Nat) (Q : Int32 → PI → Prop) (l2 : Int32) (l3 : Int32) (σ : PI) : Prop := ∃ n, Lp (fun K a => B_X4_nearestBody_4 o0  K Q a.1 a.2.1 a.2.2) n (l2, l3, σ)
set_option maxRecDepth 100000 in
set_option maxHeartbeats 4000000 in
theorem j_X4_nearestBody_4 {M : MC} {X : XP} {Q : Int32 → PI → Prop} (o0 : Nat) (ho0 : o0 < 3) (cx : Cx M X RX4 cX4_nearestBody 4 (some .int) 0) (l2 : Int32) (l3 : Int32) (σ : PI) (h : w_X4_nearestBody_4 o0  Q l2 l3 σ) : J M X (QF M X (qI Q)) σ 4 [some (.ref (X.2.2.2.1 o0)), none, some (.int l2), some (.int l3)] [] := by
  refine Lp_J (P := fun (a : Int32 × Int32 × PI) => J M X (QF M X (qI Q)) (a.2.2) 4 [some (.ref (X.2.2.2.1 o0)), none, some (.int a.1), some (.int a.2.1)] []) (fun K4 hK a h => ?_) h
  obtain ⟨l2, l3, σ⟩ := a
  have hK4 : ∀ (l2 : Int32) (l3 : Int32) (σ : PI), K4 (l2, l3, σ) → J M X (QF M X (qI Q)) σ 4 [some (.ref (X.2.2.2.1 o0)), none, some (.int l2), some (.int l3)] [] := fun l2 l3 σ q => hK _ q
  replace h : B_X4_nearestBody_4 o0  K4 Q l2 l3 σ := h
  show J M X (QF M X (qI Q)) σ 4 [some (.ref (X.2.2.2.1 o0)), none, some (.int l2), some (.int l3)] []
  unfold B_X4_nearestBody_4 at h
  refine J_iload_n cx 3 dX4_nearestBody_4 rfl rfl ?_
  refine J_iconst cx dX4_nearestBody_5 (by decide : _ = ((nI 5) : Int32)) ?_
  refine J_icmp_gt cx (tgt := 31) dX4_nearestBody_6 (by decide) (fun q1 => ?_) (fun q1 => ?_)
  · replace h := h.1 q1
    refine J_aload_n cx 0 dX4_nearestBody_31 rfl rfl ?_
    refine J_iload_n cx 2 dX4_nearestBody_32 rfl rfl ?_
    obtain ⟨s2, h⟩ := h
    refine J_sald cx dX4_nearestBody_33 ho0 s2 ?_
    exact J_iret cx dX4_nearestBody_34 h
  · replace h := h.2 q1
    refine J_iload_n cx 2 dX4_nearestBody_9 rfl rfl ?_
    refine J_if_le cx (tgt := 31) dX4_nearestBody_10 (by decide) (fun q3 => ?_) (fun q3 => ?_)
    · replace h := h.1 q3
      refine J_aload_n cx 0 dX4_nearestBody_31 rfl rfl ?_
      refine J_iload_n cx 2 dX4_nearestBody_32 rfl rfl ?_
      obtain ⟨s4, h⟩ := h
      refine J_sald cx dX4_nearestBody_33 ho0 s4 ?_
      exact J_iret cx dX4_nearestBody_34 h
    · replace h := h.2 q3
      refine J_aload_n cx 0 dX4_nearestBody_13 rfl rfl ?_
      refine J_iload_n cx 2 dX4_nearestBody_14 rfl rfl ?_
      obtain ⟨s5, h⟩ := h
      refine J_sald cx dX4_nearestBody_15 ho0 s5 ?_
      refine J_if_ne cx (tgt := 31) dX4_nearestBody_16 (by decide) (fun q6 => ?_) (fun q6 => ?_)
      · replace h := h.1 q6
        refine J_aload_n cx 0 dX4_nearestBody_31 rfl rfl ?_
        refine J_iload_n cx 2 dX4_nearestBody_32 rfl rfl ?_
        obtain ⟨s7, h⟩ := h
        refine J_sald cx dX4_nearestBody_33 ho0 s7 ?_
        exact J_iret cx dX4_nearestBody_34 h
      · replace h := h.2 q6
        refine J_gets cx dX4_nearestBody_19 (by decide) gs_X4_277 ?_
        refine J_iload_n cx 2 dX4_nearestBody_22 rfl rfl ?_
        obtain ⟨s8, h⟩ := h
        refine J_sald cx dX4_nearestBody_23 (by decide) s8 ?_
        refine J_topi (fun x9 e_x9 => ?_)
        replace h := h x9 e_x9
        refine J_istore_n cx 2 dX4_nearestBody_24 rfl (by decide) rfl rfl ?_
        refine J_iinc cx dX4_nearestBody_25 rfl (by decide : _ = ((nI 1) : Int32)) (by decide) rfl rfl ?_
        refine J_goto cx (tgt := 4) dX4_nearestBody_28 (by decide) ?_
        exact hK4   _ _ _ h
def wp_X4_nearestBody (o0 : Nat) (a1 : Int32) (σ : PI) (Q : Int32 → PI → Prop) : Prop := w_X4_nearestBody_4 o0  Q a1 (nI 0) σ
set_option maxRecDepth 100000 in
set_option maxHeartbeats 4000000 in
theorem ct_X4_nearestBody {l : Launch} {X : XP} (o0 : Nat) (ho0 : o0 < 3) (a1 : Int32) (σ : PI) (Q : Int32 → PI → Prop) (h : wp_X4_nearestBody o0 a1 σ Q) : Ct l yX4_nearestBody cX4_nearestBody 4 (some .int) 0 X [.ref (X.2.2.2.1 o0), .int a1] σ (qI Q) := by
  refine Ct_of (L := [some (.ref (X.2.2.2.1 o0)), some (.int a1), none, none]) (by decide) (Nat.le_of_ble_eq_true rfl) rfl (fun M hl cx => ?_)
  subst hl
  unfold wp_X4_nearestBody at h
  refine J_iload_n cx 1 dX4_nearestBody_0 rfl rfl ?_
  refine J_istore_n cx 2 dX4_nearestBody_1 rfl (by decide) rfl rfl ?_
  refine J_iconst cx dX4_nearestBody_2 (by decide : _ = ((nI 0) : Int32)) ?_
  refine J_istore_n cx 3 dX4_nearestBody_3 rfl (by decide) rfl rfl ?_
  refine J_fg 1 rfl ?_
  exact j_X4_nearestBody_4 o0 ho0   cx   _ _ _ h
def wp_X4_markBody (a0 : Int32) (σ : PI) (Q : Int32 → PI → Prop) : Prop := vp_in a0 6 ∧ (wp_X4_nearestBody 2 (σ (tc 0 3) (a0 : Int32).toNatClampNeg) σ (fun r3 τ2 => (Q r3 τ2)))
set_option maxRecDepth 100000 in
set_option maxHeartbeats 4000000 in
theorem ct_X4_markBody {l : Launch} {X : XP} (a0 : Int32) (σ : PI) (Q : Int32 → PI → Prop) (h : wp_X4_markBody  a0 σ Q) : Ct l yX4_markBody cX4_markBody 2 (some .int) 1 X [.ref (X.1 252), .int a0] σ (qI Q) := by
  refine Ct_of (L := [some (.ref (X.1 252)), some (.int a0)]) (by decide) (Nat.le_of_ble_eq_true rfl) rfl (fun M hl cx => ?_)
  subst hl
  unfold wp_X4_markBody at h
  refine J_gets cx dX4_markBody_0 (by decide) gs_X4_311 ?_
  refine J_aload_n cx 0 dX4_markBody_3 rfl rfl ?_
  refine J_getR cx (j := (tc 0 0)) dX4_markBody_4 F_X4_37 (by decide) rfl rfl rfl ?_
  refine J_getR cx (j := (tc 0 3)) dX4_markBody_7 F_X4_274 (tc_lt (by decide) (by decide)) (kq_t0 (by decide)) rfl (rq_t (by decide)) ?_
  refine J_iload_n cx 1 dX4_markBody_10 rfl rfl ?_
  obtain ⟨s1, h⟩ := h
  refine J_iald cx dX4_markBody_11 (tc_lt (by decide) (by decide)) (kq_t (by decide) (by decide)) s1 ?_
  refine J_cS cx dX4_markBody_12 S_X4_307 (by decide) (ct_X4_nearestBody 2 (by decide) _ _ _ h) rfl rfl (Nat.le_of_ble_eq_true rfl) (k_i (fun r3 τ2 h => ?_))
  exact J_iret cx dX4_markBody_15 h
def wp_X4_sizeBody (a0 : Int32) (σ : PI) (Q : Int32 → PI → Prop) : Prop := vp_in a0 6 ∧ (wp_X4_nearestBody 1 (σ (tc 0 3) (a0 : Int32).toNatClampNeg) σ (fun r3 τ2 => (Q r3 τ2)))
set_option maxRecDepth 100000 in
set_option maxHeartbeats 4000000 in
theorem ct_X4_sizeBody {l : Launch} {X : XP} (a0 : Int32) (σ : PI) (Q : Int32 → PI → Prop) (h : wp_X4_sizeBody  a0 σ Q) : Ct l yX4_sizeBody cX4_sizeBody 2 (some .int) 1 X [.ref (X.1 252), .int a0] σ (qI Q) := by
  refine Ct_of (L := [some (.ref (X.1 252)), some (.int a0)]) (by decide) (Nat.le_of_ble_eq_true rfl) rfl (fun M hl cx => ?_)
  subst hl
  unfold wp_X4_sizeBody at h
  refine J_gets cx dX4_sizeBody_0 (by decide) gs_X4_304 ?_
  refine J_aload_n cx 0 dX4_sizeBody_3 rfl rfl ?_
  refine J_getR cx (j := (tc 0 0)) dX4_sizeBody_4 F_X4_37 (by decide) rfl rfl rfl ?_
  refine J_getR cx (j := (tc 0 3)) dX4_sizeBody_7 F_X4_274 (tc_lt (by decide) (by decide)) (kq_t0 (by decide)) rfl (rq_t (by decide)) ?_
  refine J_iload_n cx 1 dX4_sizeBody_10 rfl rfl ?_
  obtain ⟨s1, h⟩ := h
  refine J_iald cx dX4_sizeBody_11 (tc_lt (by decide) (by decide)) (kq_t (by decide) (by decide)) s1 ?_
  refine J_cS cx dX4_sizeBody_12 S_X4_307 (by decide) (ct_X4_nearestBody 1 (by decide) _ _ _ h) rfl rfl (Nat.le_of_ble_eq_true rfl) (k_i (fun r3 τ2 h => ?_))
  exact J_iret cx dX4_sizeBody_15 h
def B_X4_body (rec : Int32 → Int32 → Int32 → PI → (Int32 → PI → Prop) → Prop) (a0 : Int32) (a1 : Int32) (a2 : Int32) (σ : PI) (Q : Int32 → PI → Prop) : Prop := (a2 ≤ (nI 12) → wp_X4_leaveInTrace a0 σ (fun τ2 => (∀ x3 : Int32, x3 = (a2 + (nI 1)) → ((a0 = (nI 10) → vp_in a1 6 ∧ (Q (τ2 (tc 0 5) (a1 : Int32).toNatClampNeg) τ2)) ∧ (a0 = (nI 11) → rec (nI 10) a1 x3 τ2 (fun r8 τ7 => (wp_X4_markBody a1 τ7 (fun r10 τ9 => (rec r10 a1 x3 τ9 (fun r12 τ11 => (Q (r8 + r12) τ11))))))) ∧ (a0 = (nI 12) → rec (nI 11) a1 x3 τ2 (fun r15 τ14 => (Q (-r15) τ14))) ∧ (a0 = (nI 13) → rec (nI 10) a1 x3 τ2 (fun r18 τ17 => (Q (r18 - (nI 100)) τ17))) ∧ (a0 = (nI 14) → rec (nI 13) a1 x3 τ2 (fun r21 τ20 => (Q ((nI 2) * r21) τ20))) ∧ (a0 = (nI 15) → Q (nI 0) τ2) ∧ (a0 = (nI 16) → Q (nI 0) τ2) ∧ (a0 = (nI 17) → Q (nI 0) τ2) ∧ (a0 = (nI 18) → Q (nI 0) τ2) ∧ (a0 = (nI 19) → Q (nI 0) τ2) ∧ (a0 = (nI 20) → Q a1 τ2) ∧ (a0 = (nI 21) → rec (nI 20) a1 x3 τ2 (fun r30 τ29 => (wp_X3_makesToday 0 a1 τ29 (fun r32 τ31 => (Q (r30 + r32) τ31))))) ∧ (a0 = (nI 22) → rec (nI 21) a1 x3 τ2 (fun r35 τ34 => (Q (r35 - (nI 1000)) τ34))) ∧ (a0 = (nI 23) → rec (nI 20) a1 x3 τ2 (fun r38 τ37 => (wp_X4_sizeBody a1 τ37 (fun r40 τ39 => (rec r40 a1 x3 τ39 (fun r42 τ41 => (Q (r38 - r42) τ41))))))) ∧ (a0 = (nI 24) → rec (nI 21) a1 x3 τ2 (fun r45 τ44 => (Q ((nI 2) * r45) τ44))) ∧ ((a0 : Int32).toInt < 10 ∨ 24 < (a0 : Int32).toInt → Q (nI 0) τ2))))) ∧ (¬ a2 ≤ (nI 12) → Q (nI 0) σ)
def wpn_X4_body : Nat → Int32 → Int32 → Int32 → PI → (Int32 → PI → Prop) → Prop
  | 0, _, _, _, _, _ => False
  | d + 1, a0, a1, a2, σ, Q => B_X4_body (wpn_X4_body d) a0 a1 a2 σ Q
set_option maxRecDepth 100000 in
set_option maxHeartbeats 4000000 in
theorem ctn_X4_body {l : Launch} {X : XP} (d : Nat) : ∀ (a0 : Int32) (a1 : Int32) (a2 : Int32) (σ : PI) (Q : Int32 → PI → Prop), wpn_X4_body d a0 a1 a2 σ Q → Ct l yX4_body cX4_body 5 (some .int) (2 + d) X [.ref (X.1 252), .int a0, .int a1, .int a2] σ (qI Q) := by
  induction d with
  | zero => intro a0 a1 a2 σ Q h; exact h.elim
  | succ d ih =>
    intro a0 a1 a2 σ Q h
    refine Ct_of (L := [some (.ref (X.1 252)), some (.int a0), some (.int a1), some (.int a2), none]) (by decide) (Nat.le_of_ble_eq_true rfl) rfl (fun M hl cx => ?_)
    subst hl
    replace h : B_X4_body (wpn_X4_body d) a0 a1 a2 σ Q := h
    unfold B_X4_body at h
    refine J_iload_n cx 3 dX4_body_0 rfl rfl ?_
    refine J_bipush cx dX4_body_1 (by decide : _ = ((nI 12) : Int32)) ?_
    refine J_icmp_le cx (tgt := 8) dX4_body_3 (by decide) (fun q1 => ?_) (fun q1 => ?_)
    · replace h := h.1 q1
      refine J_aload_n cx 0 dX4_body_8 rfl rfl ?_
      refine J_iload_n cx 1 dX4_body_9 rfl rfl ?_
      refine J_cV cx dX4_body_10 V_X4_314 (by omega) (by decide) rfl (ct_X4_leaveInTrace   _ _ _ h) rfl rfl (Nat.le_of_ble_eq_true rfl) (k_v (fun τ2 h => ?_))
      refine J_iload_n cx 3 dX4_body_13 rfl rfl ?_
      refine J_iconst cx dX4_body_14 (by decide : _ = ((nI 1) : Int32)) ?_
      refine J_iadd cx dX4_body_15 ?_
      refine J_topi (fun x3 e_x3 => ?_)
      replace h := h x3 e_x3
      refine J_istore cx dX4_body_16 (by decide) rfl rfl ?_
      refine J_iload_n cx 1 dX4_body_18 rfl rfl ?_
      by_cases q4 : a0 = (nI 10)
      · refine J_tsI cx (tgt := 92) (nI 10) q4 dX4_body_19 (by decide) (by decide) rfl (by decide) ?_
        replace h := h.1 q4
        refine J_aload_n cx 0 dX4_body_92 rfl rfl ?_
        refine J_getR cx (j := (tc 0 0)) dX4_body_93 F_X4_37 (by decide) rfl rfl rfl ?_
        refine J_getR cx (j := (tc 0 5)) dX4_body_96 F_X4_159 (tc_lt (by decide) (by decide)) (kq_t0 (by decide)) rfl (rq_t (by decide)) ?_
        refine J_iload_n cx 2 dX4_body_99 rfl rfl ?_
        obtain ⟨s5, h⟩ := h
        refine J_iald cx dX4_body_100 (tc_lt (by decide) (by decide)) (kq_t (by decide) (by decide)) s5 ?_
        exact J_iret cx dX4_body_101 h
      by_cases q6 : a0 = (nI 11)
      · refine J_tsI cx (tgt := 102) (nI 11) q6 dX4_body_19 (by decide) (by decide) rfl (by decide) ?_
        replace h := h.2.1 q6
        refine J_aload_n cx 0 dX4_body_102 rfl rfl ?_
        refine J_bipush cx dX4_body_103 (by decide : _ = ((nI 10) : Int32)) ?_
        refine J_iload_n cx 2 dX4_body_105 rfl rfl ?_
        refine J_iload cx dX4_body_106 rfl ?_
        refine J_cV cx dX4_body_108 V_X4_289 (by omega) (by decide) rfl (ih _ _ _ _ _ h) rfl rfl (Nat.le_of_ble_eq_true rfl) (k_i (fun r8 τ7 h => ?_))
        refine J_aload_n cx 0 dX4_body_111 rfl rfl ?_
        refine J_aload_n cx 0 dX4_body_112 rfl rfl ?_
        refine J_iload_n cx 2 dX4_body_113 rfl rfl ?_
        refine J_cV cx dX4_body_114 V_X4_286 (by omega) (by decide) rfl (ct_X4_markBody   _ _ _ h) rfl rfl (Nat.le_of_ble_eq_true rfl) (k_i (fun r10 τ9 h => ?_))
        refine J_iload_n cx 2 dX4_body_117 rfl rfl ?_
        refine J_iload cx dX4_body_118 rfl ?_
        refine J_cV cx dX4_body_120 V_X4_289 (by omega) (by decide) rfl (ih _ _ _ _ _ h) rfl rfl (Nat.le_of_ble_eq_true rfl) (k_i (fun r12 τ11 h => ?_))
        refine J_iadd cx dX4_body_123 ?_
        exact J_iret cx dX4_body_124 h
      by_cases q13 : a0 = (nI 12)
      · refine J_tsI cx (tgt := 125) (nI 12) q13 dX4_body_19 (by decide) (by decide) rfl (by decide) ?_
        replace h := h.2.2.1 q13
        refine J_aload_n cx 0 dX4_body_125 rfl rfl ?_
        refine J_bipush cx dX4_body_126 (by decide : _ = ((nI 11) : Int32)) ?_
        refine J_iload_n cx 2 dX4_body_128 rfl rfl ?_
        refine J_iload cx dX4_body_129 rfl ?_
        refine J_cV cx dX4_body_131 V_X4_289 (by omega) (by decide) rfl (ih _ _ _ _ _ h) rfl rfl (Nat.le_of_ble_eq_true rfl) (k_i (fun r15 τ14 h => ?_))
        refine J_ineg cx dX4_body_134 ?_
        exact J_iret cx dX4_body_135 h
      by_cases q16 : a0 = (nI 13)
      · refine J_tsI cx (tgt := 136) (nI 13) q16 dX4_body_19 (by decide) (by decide) rfl (by decide) ?_
        replace h := h.2.2.2.1 q16
        refine J_aload_n cx 0 dX4_body_136 rfl rfl ?_
        refine J_bipush cx dX4_body_137 (by decide : _ = ((nI 10) : Int32)) ?_
        refine J_iload_n cx 2 dX4_body_139 rfl rfl ?_
        refine J_iload cx dX4_body_140 rfl ?_
        refine J_cV cx dX4_body_142 V_X4_289 (by omega) (by decide) rfl (ih _ _ _ _ _ h) rfl rfl (Nat.le_of_ble_eq_true rfl) (k_i (fun r18 τ17 h => ?_))
        refine J_bipush cx dX4_body_145 (by decide : _ = ((nI 100) : Int32)) ?_
        refine J_isub cx dX4_body_147 ?_
        exact J_iret cx dX4_body_148 h
      by_cases q19 : a0 = (nI 14)
      · refine J_tsI cx (tgt := 149) (nI 14) q19 dX4_body_19 (by decide) (by decide) rfl (by decide) ?_
        replace h := h.2.2.2.2.1 q19
        refine J_iconst cx dX4_body_149 (by decide : _ = ((nI 2) : Int32)) ?_
        refine J_aload_n cx 0 dX4_body_150 rfl rfl ?_
        refine J_bipush cx dX4_body_151 (by decide : _ = ((nI 13) : Int32)) ?_
        refine J_iload_n cx 2 dX4_body_153 rfl rfl ?_
        refine J_iload cx dX4_body_154 rfl ?_
        refine J_cV cx dX4_body_156 V_X4_289 (by omega) (by decide) rfl (ih _ _ _ _ _ h) rfl rfl (Nat.le_of_ble_eq_true rfl) (k_i (fun r21 τ20 h => ?_))
        refine J_imul cx dX4_body_159 ?_
        exact J_iret cx dX4_body_160 h
      by_cases q22 : a0 = (nI 15)
      · refine J_tsI cx (tgt := 231) (nI 15) q22 dX4_body_19 (by decide) (by decide) rfl (by decide) ?_
        replace h := h.2.2.2.2.2.1 q22
        refine J_iconst cx dX4_body_231 (by decide : _ = ((nI 0) : Int32)) ?_
        exact J_iret cx dX4_body_232 h
      by_cases q23 : a0 = (nI 16)
      · refine J_tsI cx (tgt := 231) (nI 16) q23 dX4_body_19 (by decide) (by decide) rfl (by decide) ?_
        replace h := h.2.2.2.2.2.2.1 q23
        refine J_iconst cx dX4_body_231 (by decide : _ = ((nI 0) : Int32)) ?_
        exact J_iret cx dX4_body_232 h
      by_cases q24 : a0 = (nI 17)
      · refine J_tsI cx (tgt := 231) (nI 17) q24 dX4_body_19 (by decide) (by decide) rfl (by decide) ?_
        replace h := h.2.2.2.2.2.2.2.1 q24
        refine J_iconst cx dX4_body_231 (by decide : _ = ((nI 0) : Int32)) ?_
        exact J_iret cx dX4_body_232 h
      by_cases q25 : a0 = (nI 18)
      · refine J_tsI cx (tgt := 231) (nI 18) q25 dX4_body_19 (by decide) (by decide) rfl (by decide) ?_
        replace h := h.2.2.2.2.2.2.2.2.1 q25
        refine J_iconst cx dX4_body_231 (by decide : _ = ((nI 0) : Int32)) ?_
        exact J_iret cx dX4_body_232 h
      by_cases q26 : a0 = (nI 19)
      · refine J_tsI cx (tgt := 231) (nI 19) q26 dX4_body_19 (by decide) (by decide) rfl (by decide) ?_
        replace h := h.2.2.2.2.2.2.2.2.2.1 q26
        refine J_iconst cx dX4_body_231 (by decide : _ = ((nI 0) : Int32)) ?_
        exact J_iret cx dX4_body_232 h
      by_cases q27 : a0 = (nI 20)
      · refine J_tsI cx (tgt := 161) (nI 20) q27 dX4_body_19 (by decide) (by decide) rfl (by decide) ?_
        replace h := h.2.2.2.2.2.2.2.2.2.2.1 q27
        refine J_iload_n cx 2 dX4_body_161 rfl rfl ?_
        exact J_iret cx dX4_body_162 h
      by_cases q28 : a0 = (nI 21)
      · refine J_tsI cx (tgt := 163) (nI 21) q28 dX4_body_19 (by decide) (by decide) rfl (by decide) ?_
        replace h := h.2.2.2.2.2.2.2.2.2.2.2.1 q28
        refine J_aload_n cx 0 dX4_body_163 rfl rfl ?_
        refine J_bipush cx dX4_body_164 (by decide : _ = ((nI 20) : Int32)) ?_
        refine J_iload_n cx 2 dX4_body_166 rfl rfl ?_
        refine J_iload cx dX4_body_167 rfl ?_
        refine J_cV cx dX4_body_169 V_X4_289 (by omega) (by decide) rfl (ih _ _ _ _ _ h) rfl rfl (Nat.le_of_ble_eq_true rfl) (k_i (fun r30 τ29 h => ?_))
        refine J_aload_n cx 0 dX4_body_172 rfl rfl ?_
        refine J_getR cx (j := (tc 0 0)) dX4_body_173 F_X4_37 (by decide) rfl rfl rfl ?_
        refine J_iload_n cx 2 dX4_body_176 rfl rfl ?_
        refine J_cV cx dX4_body_177 V_X4_180 (by omega) (tc_lt (by decide) (by decide)) (kq_t0 (by decide)) (ct_X3_makesToday 0 (by decide) _ _ _ h) rfl rfl (Nat.le_of_ble_eq_true rfl) (k_i (fun r32 τ31 h => ?_))
        refine J_iadd cx dX4_body_180 ?_
        exact J_iret cx dX4_body_181 h
      by_cases q33 : a0 = (nI 22)
      · refine J_tsI cx (tgt := 182) (nI 22) q33 dX4_body_19 (by decide) (by decide) rfl (by decide) ?_
        replace h := h.2.2.2.2.2.2.2.2.2.2.2.2.1 q33
        refine J_aload_n cx 0 dX4_body_182 rfl rfl ?_
        refine J_bipush cx dX4_body_183 (by decide : _ = ((nI 21) : Int32)) ?_
        refine J_iload_n cx 2 dX4_body_185 rfl rfl ?_
        refine J_iload cx dX4_body_186 rfl ?_
        refine J_cV cx dX4_body_188 V_X4_289 (by omega) (by decide) rfl (ih _ _ _ _ _ h) rfl rfl (Nat.le_of_ble_eq_true rfl) (k_i (fun r35 τ34 h => ?_))
        refine J_sipush cx dX4_body_191 (by decide : _ = ((nI 1000) : Int32)) ?_
        refine J_isub cx dX4_body_194 ?_
        exact J_iret cx dX4_body_195 h
      by_cases q36 : a0 = (nI 23)
      · refine J_tsI cx (tgt := 196) (nI 23) q36 dX4_body_19 (by decide) (by decide) rfl (by decide) ?_
        replace h := h.2.2.2.2.2.2.2.2.2.2.2.2.2.1 q36
        refine J_aload_n cx 0 dX4_body_196 rfl rfl ?_
        refine J_bipush cx dX4_body_197 (by decide : _ = ((nI 20) : Int32)) ?_
        refine J_iload_n cx 2 dX4_body_199 rfl rfl ?_
        refine J_iload cx dX4_body_200 rfl ?_
        refine J_cV cx dX4_body_202 V_X4_289 (by omega) (by decide) rfl (ih _ _ _ _ _ h) rfl rfl (Nat.le_of_ble_eq_true rfl) (k_i (fun r38 τ37 h => ?_))
        refine J_aload_n cx 0 dX4_body_205 rfl rfl ?_
        refine J_aload_n cx 0 dX4_body_206 rfl rfl ?_
        refine J_iload_n cx 2 dX4_body_207 rfl rfl ?_
        refine J_cV cx dX4_body_208 V_X4_283 (by omega) (by decide) rfl (ct_X4_sizeBody   _ _ _ h) rfl rfl (Nat.le_of_ble_eq_true rfl) (k_i (fun r40 τ39 h => ?_))
        refine J_iload_n cx 2 dX4_body_211 rfl rfl ?_
        refine J_iload cx dX4_body_212 rfl ?_
        refine J_cV cx dX4_body_214 V_X4_289 (by omega) (by decide) rfl (ih _ _ _ _ _ h) rfl rfl (Nat.le_of_ble_eq_true rfl) (k_i (fun r42 τ41 h => ?_))
        refine J_isub cx dX4_body_217 ?_
        exact J_iret cx dX4_body_218 h
      by_cases q43 : a0 = (nI 24)
      · refine J_tsI cx (tgt := 219) (nI 24) q43 dX4_body_19 (by decide) (by decide) rfl (by decide) ?_
        replace h := h.2.2.2.2.2.2.2.2.2.2.2.2.2.2.1 q43
        refine J_iconst cx dX4_body_219 (by decide : _ = ((nI 2) : Int32)) ?_
        refine J_aload_n cx 0 dX4_body_220 rfl rfl ?_
        refine J_bipush cx dX4_body_221 (by decide : _ = ((nI 21) : Int32)) ?_
        refine J_iload_n cx 2 dX4_body_223 rfl rfl ?_
        refine J_iload cx dX4_body_224 rfl ?_
        refine J_cV cx dX4_body_226 V_X4_289 (by omega) (by decide) rfl (ih _ _ _ _ _ h) rfl rfl (Nat.le_of_ble_eq_true rfl) (k_i (fun r45 τ44 h => ?_))
        refine J_imul cx dX4_body_229 ?_
        exact J_iret cx dX4_body_230 h
      have n_q4 := lv_neT (a := 10) q4 rfl
      have n_q6 := lv_neT (a := 11) q6 rfl
      have n_q13 := lv_neT (a := 12) q13 rfl
      have n_q16 := lv_neT (a := 13) q16 rfl
      have n_q19 := lv_neT (a := 14) q19 rfl
      have n_q22 := lv_neT (a := 15) q22 rfl
      have n_q23 := lv_neT (a := 16) q23 rfl
      have n_q24 := lv_neT (a := 17) q24 rfl
      have n_q25 := lv_neT (a := 18) q25 rfl
      have n_q26 := lv_neT (a := 19) q26 rfl
      have n_q27 := lv_neT (a := 20) q27 rfl
      have n_q28 := lv_neT (a := 21) q28 rfl
      have n_q33 := lv_neT (a := 22) q33 rfl
      have n_q36 := lv_neT (a := 23) q36 rfl
      have n_q43 := lv_neT (a := 24) q43 rfl
      have q46 : (a0 : Int32).toInt < 10 ∨ 24 < (a0 : Int32).toInt := by omega
      refine J_tsO cx (tgt := 231) dX4_body_19 q46 (by decide) ?_
      replace h := h.2.2.2.2.2.2.2.2.2.2.2.2.2.2.2 q46
      refine J_iconst cx dX4_body_231 (by decide : _ = ((nI 0) : Int32)) ?_
      exact J_iret cx dX4_body_232 h
    · replace h := h.2 q1
      refine J_iconst cx dX4_body_6 (by decide : _ = ((nI 0) : Int32)) ?_
      exact J_iret cx dX4_body_7 h
def wp_X4_body (a0 : Int32) (a1 : Int32) (a2 : Int32) (σ : PI) (Q : Int32 → PI → Prop) : Prop := wpn_X4_body 14 a0 a1 a2 σ Q
theorem ct_X4_body {l : Launch} {X : XP} (a0 : Int32) (a1 : Int32) (a2 : Int32) (σ : PI) (Q : Int32 → PI → Prop) (h : wp_X4_body a0 a1 a2 σ Q) : Ct l yX4_body cX4_body 5 (some .int) 16 X [.ref (X.1 252), .int a0, .int a1, .int a2] σ (qI Q) := ctn_X4_body 14 a0 a1 a2 σ Q h
def w_X4_ask_41 (Q : Int32 → PI → Prop) (l1 : Int32) (s0 : Int32) (σ : PI) : Prop := wp_X4_body s0 l1 (nI 0) σ (fun r14 τ13 => (Q r14 τ13))
set_option maxRecDepth 100000 in
set_option maxHeartbeats 4000000 in
theorem j_X4_ask_41 {M : MC} {X : XP} {Q : Int32 → PI → Prop} (cx : Cx M X RX4 cX4_ask 3 (some .int) 17) (l1 : Int32) (s0 : Int32) (σ : PI) (h : w_X4_ask_41   Q l1 s0 σ) : J M X (QF M X (qI Q)) σ 41 [none, some (.int l1), none] [.int s0, .ref (X.1 252)] := by
  unfold w_X4_ask_41 at h
  refine J_iload_n cx 1 dX4_ask_41 rfl rfl ?_
  refine J_iconst cx dX4_ask_42 (by decide : _ = ((nI 0) : Int32)) ?_
  refine J_cV cx dX4_ask_43 V_X4_289 (by decide) (by decide) rfl (ct_X4_body   _ _ _ _ _ h) rfl rfl (Nat.le_of_ble_eq_true rfl) (k_i (fun r14 τ13 h => ?_))
  exact J_iret cx dX4_ask_46 h
def wp_X4_ask (a0 : Int32) (a1 : Int32) (σ : PI) (Q : Int32 → PI → Prop) : Prop := wp_X4_isLeaver a0 σ (fun r2 τ1 => ((r2 = (nI 0) → Q (-1000001) τ1) ∧ (¬ r2 = (nI 0) → wp_X4_isBit a1 τ1 (fun r5 τ4 => ((¬ r5 = (nI 0) → ∀ τ7 : PI, τ7 = up τ4 252 7 (nI 0) → ((¬ a1 = (nI 0) → wp_X4_markBody a0 τ7 (fun r10 τ9 => (w_X4_ask_41   Q a0 r10 τ9))) ∧ (a1 = (nI 0) → wp_X4_sizeBody a0 τ7 (fun r12 τ11 => (w_X4_ask_41   Q a0 r12 τ11))))) ∧ (r5 = (nI 0) → Q (-1000001) τ4))))))
set_option maxRecDepth 100000 in
set_option maxHeartbeats 4000000 in
theorem ct_X4_ask {l : Launch} {X : XP} (a0 : Int32) (a1 : Int32) (σ : PI) (Q : Int32 → PI → Prop) (h : wp_X4_ask  a0 a1 σ Q) : Ct l yX4_ask cX4_ask 3 (some .int) 17 X [.ref (X.1 252), .int a0, .int a1] σ (qI Q) := by
  refine Ct_of (L := [some (.ref (X.1 252)), some (.int a0), some (.int a1)]) (by decide) (Nat.le_of_ble_eq_true rfl) rfl (fun M hl cx => ?_)
  subst hl
  unfold wp_X4_ask at h
  refine J_aload_n cx 0 dX4_ask_0 rfl rfl ?_
  refine J_iload_n cx 1 dX4_ask_1 rfl rfl ?_
  refine J_cV cx dX4_ask_2 V_X4_147 (by decide) (by decide) rfl (ct_X4_isLeaver   _ _ _ h) rfl rfl (Nat.le_of_ble_eq_true rfl) (k_i (fun r2 τ1 h => ?_))
  refine J_if_eq cx (tgt := 15) dX4_ask_5 (by decide) (fun q3 => ?_) (fun q3 => ?_)
  · replace h := h.1 q3
    refine J_ldc cx (v := (-1000001)) dX4_ask_15 gw_212 ?_
    exact J_iret cx dX4_ask_17 h
  · replace h := h.2 q3
    refine J_iload_n cx 2 dX4_ask_8 rfl rfl ?_
    refine J_cS cx dX4_ask_9 S_X4_162 (by decide) (ct_X4_isBit   _ _ _ h) rfl rfl (Nat.le_of_ble_eq_true rfl) (k_i (fun r5 τ4 h => ?_))
    refine J_if_ne cx (tgt := 18) dX4_ask_12 (by decide) (fun q6 => ?_) (fun q6 => ?_)
    · replace h := h.1 q6
      refine J_aload_n cx 0 dX4_ask_18 rfl rfl ?_
      refine J_iconst cx dX4_ask_19 (by decide : _ = ((nI 0) : Int32)) ?_
      refine J_putI cx dX4_ask_20 (P_X4_280 _) (by decide) rfl rfl ?_
      refine J_nm (fun τ7 e_τ7 => ?_)
      replace h := h τ7 e_τ7
      refine J_aload_n cx 0 dX4_ask_23 rfl rfl ?_
      refine J_iload_n cx 2 dX4_ask_24 rfl rfl ?_
      refine J_if_ne cx (tgt := 36) dX4_ask_25 (by decide) (fun q8 => ?_) (fun q8 => ?_)
      · replace h := h.1 q8
        refine J_aload_n cx 0 dX4_ask_36 rfl rfl ?_
        refine J_iload_n cx 1 dX4_ask_37 rfl rfl ?_
        refine J_cV cx dX4_ask_38 V_X4_286 (by decide) (by decide) rfl (ct_X4_markBody   _ _ _ h) rfl rfl (Nat.le_of_ble_eq_true rfl) (k_i (fun r10 τ9 h => ?_))
        refine J_fg 0 rfl ?_
        refine J_fg 2 rfl ?_
        exact j_X4_ask_41     cx   _ _ _ h
      · replace h := h.2 q8
        refine J_aload_n cx 0 dX4_ask_28 rfl rfl ?_
        refine J_iload_n cx 1 dX4_ask_29 rfl rfl ?_
        refine J_cV cx dX4_ask_30 V_X4_283 (by decide) (by decide) rfl (ct_X4_sizeBody   _ _ _ h) rfl rfl (Nat.le_of_ble_eq_true rfl) (k_i (fun r12 τ11 h => ?_))
        refine J_goto cx (tgt := 41) dX4_ask_33 (by decide) ?_
        refine J_fg 0 rfl ?_
        refine J_fg 2 rfl ?_
        exact j_X4_ask_41     cx   _ _ _ h
    · replace h := h.2 q6
      refine J_ldc cx (v := (-1000001)) dX4_ask_15 gw_212 ?_
      exact J_iret cx dX4_ask_17 h
def wp_X4_trace (a0 : Int32) (σ : PI) (Q : Int32 → PI → Prop) : Prop := wp_X4_within a0 (nI 0) ((σ 252 7) - (nI 1)) σ (fun r2 τ1 => ((r2 = (nI 0) → Q (-1000000) τ1) ∧ (¬ r2 = (nI 0) → vp_in a0 16 ∧ (Q (τ1 259 (a0 : Int32).toNatClampNeg) τ1))))
set_option maxRecDepth 100000 in
set_option maxHeartbeats 4000000 in
theorem ct_X4_trace {l : Launch} {X : XP} (a0 : Int32) (σ : PI) (Q : Int32 → PI → Prop) (h : wp_X4_trace  a0 σ Q) : Ct l yX4_trace cX4_trace 2 (some .int) 1 X [.ref (X.1 252), .int a0] σ (qI Q) := by
  refine Ct_of (L := [some (.ref (X.1 252)), some (.int a0)]) (by decide) (Nat.le_of_ble_eq_true rfl) rfl (fun M hl cx => ?_)
  subst hl
  unfold wp_X4_trace at h
  refine J_iload_n cx 1 dX4_trace_0 rfl rfl ?_
  refine J_iconst cx dX4_trace_1 (by decide : _ = ((nI 0) : Int32)) ?_
  refine J_aload_n cx 0 dX4_trace_2 rfl rfl ?_
  refine J_getI cx dX4_trace_3 F_X4_280 (by decide) rfl rfl ?_
  refine J_iconst cx dX4_trace_6 (by decide : _ = ((nI 1) : Int32)) ?_
  refine J_isub cx dX4_trace_7 ?_
  refine J_cS cx dX4_trace_8 S_X4_52 (by decide) (ct_X4_within   _ _ _ _ _ h) rfl rfl (Nat.le_of_ble_eq_true rfl) (k_i (fun r2 τ1 h => ?_))
  refine J_if_eq cx (tgt := 23) dX4_trace_11 (by decide) (fun q3 => ?_) (fun q3 => ?_)
  · replace h := h.1 q3
    refine J_ldc cx (v := (-1000000)) dX4_trace_23 gw_462 ?_
    exact J_iret cx dX4_trace_25 h
  · replace h := h.2 q3
    refine J_aload_n cx 0 dX4_trace_14 rfl rfl ?_
    refine J_getR cx (j := 259) dX4_trace_15 F_X4_44 (by decide) rfl rfl rfl ?_
    refine J_iload_n cx 1 dX4_trace_18 rfl rfl ?_
    obtain ⟨s4, h⟩ := h
    refine J_iald cx dX4_trace_19 (by decide) rfl s4 ?_
    refine J_goto cx (tgt := 25) dX4_trace_20 (by decide) ?_
    exact J_iret cx dX4_trace_25 h
def w_X4_rowsThere_25 (K4 : (Int32 × Int32 × PI → Prop)) (Q : Int32 → PI → Prop) (l1 : Int32) (l2 : Int32) (σ : PI) : Prop := K4 (l1, (l2 + (nI 1)), σ)
set_option maxRecDepth 100000 in
set_option maxHeartbeats 4000000 in
theorem j_X4_rowsThere_25 {M : MC} {X : XP} {Q : Int32 → PI → Prop} (K4 : (Int32 × Int32 × PI → Prop)) (hK4 : ∀ (l1 : Int32) (l2 : Int32) (σ : PI), K4 (l1, l2, σ) → J M X (QF M X (qI Q)) σ 4 [some (.ref (X.1 252)), some (.int l1), some (.int l2)] []) (cx : Cx M X RX4 cX4_rowsThere 3 (some .int) 0) (l1 : Int32) (l2 : Int32) (σ : PI) (h : w_X4_rowsThere_25  K4 Q l1 l2 σ) : J M X (QF M X (qI Q)) σ 25 [some (.ref (X.1 252)), some (.int l1), some (.int l2)] [] := by
  unfold w_X4_rowsThere_25 at h
  refine J_iinc cx dX4_rowsThere_25 rfl (by decide : _ = ((nI 1) : Int32)) (by decide) rfl rfl ?_
  refine J_goto cx (tgt := 4) dX4_rowsThere_28 (by decide) ?_
  exact hK4   _ _ _ h
def B_X4_rowsThere_4 (K4 : (Int32 × Int32 × PI → Prop)) (Q : Int32 → PI → Prop) (l1 : Int32) (l2 : Int32) (σ : PI) : Prop := ((nI 8) ≤ l2 → Q l1 σ) ∧ (¬ (nI 8) ≤ l2 → vp_in l2 8 ∧ (((σ (rc ((l2 : Int32).toNatClampNeg) 0) 1) = (nI 0) → w_X4_rowsThere_25  K4 Q l1 l2 σ) ∧ (¬ (σ (rc ((l2 : Int32).toNatClampNeg) 0) 1) = (nI 0) → w_X4_rowsThere_25  K4 Q (l1 + (nI 1)) l2 σ)))
def w_X4_rowsThere_4 (Q : Int32 → PI → Prop) (l1 : Int32) (l2 : Int32) (σ : PI) : Prop := ∃ n, Lp (fun K a => B_X4_rowsThere_4   K Q a.1 a.2.1 a.2.2) n (l1, l2, σ)
set_option maxRecDepth 100000 in
set_option maxHeartbeats 4000000 in
theorem j_X4_rowsThere_4 {M : MC} {X : XP} {Q : Int32 → PI → Prop} (cx : Cx M X RX4 cX4_rowsThere 3 (some .int) 0) (l1 : Int32) (l2 : Int32) (σ : PI) (h : w_X4_rowsThere_4   Q l1 l2 σ) : J M X (QF M X (qI Q)) σ 4 [some (.ref (X.1 252)), some (.int l1), some (.int l2)] [] := by
  refine Lp_J (P := fun (a : Int32 × Int32 × PI) => J M X (QF M X (qI Q)) (a.2.2) 4 [some (.ref (X.1 252)), some (.int a.1), some (.int a.2.1)] []) (fun K4 hK a h => ?_) h
  obtain ⟨l1, l2, σ⟩ := a
  have hK4 : ∀ (l1 : Int32) (l2 : Int32) (σ : PI), K4 (l1, l2, σ) → J M X (QF M X (qI Q)) σ 4 [some (.ref (X.1 252)), some (.int l1), some (.int l2)] [] := fun l1 l2 σ q => hK _ q
  replace h : B_X4_rowsThere_4   K4 Q l1 l2 σ := h
  show J M X (QF M X (qI Q)) σ 4 [some (.ref (X.1 252)), some (.int l1), some (.int l2)] []
  unfold B_X4_rowsThere_4 at h
  refine J_iload_n cx 2 dX4_rowsThere_4 rfl rfl ?_
  refine J_bipush cx dX4_rowsThere_5 (by decide : _ = ((nI 8) : Int32)) ?_
  refine J_icmp_ge cx (tgt := 31) dX4_rowsThere_7 (by decide) (fun q1 => ?_) (fun q1 => ?_)
  · replace h := h.1 q1
    refine J_iload_n cx 1 dX4_rowsThere_31 rfl rfl ?_
    exact J_iret cx dX4_rowsThere_32 h
  · replace h := h.2 q1
    refine J_aload_n cx 0 dX4_rowsThere_10 rfl rfl ?_
    refine J_getR cx (j := 253) dX4_rowsThere_11 F_X4_11 (by decide) rfl rfl rfl ?_
    refine J_iload_n cx 2 dX4_rowsThere_14 rfl rfl ?_
    obtain ⟨s2, h⟩ := h
    refine J_aald cx dX4_rowsThere_15 (by decide) rfl (Or.inl rfl) s2 (rq_rows _) ?_
    refine J_getI cx dX4_rowsThere_16 F_X4_68 (rc_lt (vp_lt s2) (by decide)) (kq_r0 (vp_lt s2)) rfl ?_
    refine J_if_eq cx (tgt := 25) dX4_rowsThere_19 (by decide) (fun q3 => ?_) (fun q3 => ?_)
    · replace h := h.1 q3
      exact j_X4_rowsThere_25   K4 hK4 cx   _ _ _ h
    · replace h := h.2 q3
      refine J_iinc cx dX4_rowsThere_22 rfl (by decide : _ = ((nI 1) : Int32)) (by decide) rfl rfl ?_
      exact j_X4_rowsThere_25   K4 hK4 cx   _ _ _ h
def wp_X4_rowsThere (σ : PI) (Q : Int32 → PI → Prop) : Prop := w_X4_rowsThere_4   Q (nI 0) (nI 0) σ
set_option maxRecDepth 100000 in
set_option maxHeartbeats 4000000 in
theorem ct_X4_rowsThere {l : Launch} {X : XP} (σ : PI) (Q : Int32 → PI → Prop) (h : wp_X4_rowsThere   σ Q) : Ct l yX4_rowsThere cX4_rowsThere 3 (some .int) 0 X [.ref (X.1 252)] σ (qI Q) := by
  refine Ct_of (L := [some (.ref (X.1 252)), none, none]) (by decide) (Nat.le_of_ble_eq_true rfl) rfl (fun M hl cx => ?_)
  subst hl
  unfold wp_X4_rowsThere at h
  refine J_iconst cx dX4_rowsThere_0 (by decide : _ = ((nI 0) : Int32)) ?_
  refine J_istore_n cx 1 dX4_rowsThere_1 rfl (by decide) rfl rfl ?_
  refine J_iconst cx dX4_rowsThere_2 (by decide : _ = ((nI 0) : Int32)) ?_
  refine J_istore_n cx 2 dX4_rowsThere_3 rfl (by decide) rfl rfl ?_
  exact j_X4_rowsThere_4     cx   _ _ _ h
def wp_X4_count (a0 : Int32) (σ : PI) (Q : Int32 → PI → Prop) : Prop := (a0 = (nI 0) → wp_X4_rowsThere  σ (fun r3 τ2 => (Q r3 τ2))) ∧ (a0 = (nI 1) → Q (σ (tc 0 0) 8) σ) ∧ (a0 = (nI 2) → Q (σ (tc 0 0) 9) σ) ∧ (a0 = (nI 3) → Q (σ (tc 0 0) 12) σ) ∧ (a0 = (nI 4) → wp_X3_feltByAll 0 σ (fun r9 τ8 => (Q r9 τ8))) ∧ (a0 = (nI 5) → Q (σ (tc 0 0) 13) σ) ∧ (a0 = (nI 6) → Q (σ 256 2) σ) ∧ (a0 = (nI 7) → Q (σ 257 1) σ) ∧ ((a0 : Int32).toInt < 0 ∨ 7 < (a0 : Int32).toInt → Q (-1000001) σ)
set_option maxRecDepth 100000 in
set_option maxHeartbeats 4000000 in
theorem ct_X4_count {l : Launch} {X : XP} (a0 : Int32) (σ : PI) (Q : Int32 → PI → Prop) (h : wp_X4_count  a0 σ Q) : Ct l yX4_count cX4_count 2 (some .int) 1 X [.ref (X.1 252), .int a0] σ (qI Q) := by
  refine Ct_of (L := [some (.ref (X.1 252)), some (.int a0)]) (by decide) (Nat.le_of_ble_eq_true rfl) rfl (fun M hl cx => ?_)
  subst hl
  unfold wp_X4_count at h
  refine J_iload_n cx 1 dX4_count_0 rfl rfl ?_
  by_cases q1 : a0 = (nI 0)
  · refine J_tsI cx (tgt := 48) (nI 0) q1 dX4_count_1 (by decide) (by decide) rfl (by decide) ?_
    replace h := h.1 q1
    refine J_aload_n cx 0 dX4_count_48 rfl rfl ?_
    refine J_cV cx dX4_count_49 V_X4_293 (by decide) (by decide) rfl (ct_X4_rowsThere    _ _ h) rfl rfl (Nat.le_of_ble_eq_true rfl) (k_i (fun r3 τ2 h => ?_))
    exact J_iret cx dX4_count_52 h
  by_cases q4 : a0 = (nI 1)
  · refine J_tsI cx (tgt := 53) (nI 1) q4 dX4_count_1 (by decide) (by decide) rfl (by decide) ?_
    replace h := h.2.1 q4
    refine J_aload_n cx 0 dX4_count_53 rfl rfl ?_
    refine J_getR cx (j := (tc 0 0)) dX4_count_54 F_X4_37 (by decide) rfl rfl rfl ?_
    refine J_getI cx dX4_count_57 F_X4_200 (tc_lt (by decide) (by decide)) (kq_t0 (by decide)) rfl ?_
    exact J_iret cx dX4_count_60 h
  by_cases q5 : a0 = (nI 2)
  · refine J_tsI cx (tgt := 61) (nI 2) q5 dX4_count_1 (by decide) (by decide) rfl (by decide) ?_
    replace h := h.2.2.1 q5
    refine J_aload_n cx 0 dX4_count_61 rfl rfl ?_
    refine J_getR cx (j := (tc 0 0)) dX4_count_62 F_X4_37 (by decide) rfl rfl rfl ?_
    refine J_getI cx dX4_count_65 F_X4_122 (tc_lt (by decide) (by decide)) (kq_t0 (by decide)) rfl ?_
    exact J_iret cx dX4_count_68 h
  by_cases q6 : a0 = (nI 3)
  · refine J_tsI cx (tgt := 69) (nI 3) q6 dX4_count_1 (by decide) (by decide) rfl (by decide) ?_
    replace h := h.2.2.2.1 q6
    refine J_aload_n cx 0 dX4_count_69 rfl rfl ?_
    refine J_getR cx (j := (tc 0 0)) dX4_count_70 F_X4_37 (by decide) rfl rfl rfl ?_
    refine J_getI cx dX4_count_73 F_X4_134 (tc_lt (by decide) (by decide)) (kq_t0 (by decide)) rfl ?_
    exact J_iret cx dX4_count_76 h
  by_cases q7 : a0 = (nI 4)
  · refine J_tsI cx (tgt := 77) (nI 4) q7 dX4_count_1 (by decide) (by decide) rfl (by decide) ?_
    replace h := h.2.2.2.2.1 q7
    refine J_aload_n cx 0 dX4_count_77 rfl rfl ?_
    refine J_getR cx (j := (tc 0 0)) dX4_count_78 F_X4_37 (by decide) rfl rfl rfl ?_
    refine J_cV cx dX4_count_81 V_X4_144 (by decide) (tc_lt (by decide) (by decide)) (kq_t0 (by decide)) (ct_X3_feltByAll 0 (by decide)  _ _ h) rfl rfl (Nat.le_of_ble_eq_true rfl) (k_i (fun r9 τ8 h => ?_))
    exact J_iret cx dX4_count_84 h
  by_cases q10 : a0 = (nI 5)
  · refine J_tsI cx (tgt := 85) (nI 5) q10 dX4_count_1 (by decide) (by decide) rfl (by decide) ?_
    replace h := h.2.2.2.2.2.1 q10
    refine J_aload_n cx 0 dX4_count_85 rfl rfl ?_
    refine J_getR cx (j := (tc 0 0)) dX4_count_86 F_X4_37 (by decide) rfl rfl rfl ?_
    refine J_getI cx dX4_count_89 F_X4_165 (tc_lt (by decide) (by decide)) (kq_t0 (by decide)) rfl ?_
    exact J_iret cx dX4_count_92 h
  by_cases q11 : a0 = (nI 6)
  · refine J_tsI cx (tgt := 93) (nI 6) q11 dX4_count_1 (by decide) (by decide) rfl (by decide) ?_
    replace h := h.2.2.2.2.2.2.1 q11
    refine J_aload_n cx 0 dX4_count_93 rfl rfl ?_
    refine J_getR cx (j := 256) dX4_count_94 F_X4_33 (by decide) rfl rfl rfl ?_
    refine J_getI cx dX4_count_97 F_X4_128 (by decide) rfl rfl ?_
    exact J_iret cx dX4_count_100 h
  by_cases q12 : a0 = (nI 7)
  · refine J_tsI cx (tgt := 101) (nI 7) q12 dX4_count_1 (by decide) (by decide) rfl (by decide) ?_
    replace h := h.2.2.2.2.2.2.2.1 q12
    refine J_aload_n cx 0 dX4_count_101 rfl rfl ?_
    refine J_getR cx (j := 257) dX4_count_102 F_X4_26 (by decide) rfl rfl rfl ?_
    refine J_getI cx dX4_count_105 F_X4_99 (by decide) rfl rfl ?_
    exact J_iret cx dX4_count_108 h
  have n_q1 := lv_neT (a := 0) q1 rfl
  have n_q4 := lv_neT (a := 1) q4 rfl
  have n_q5 := lv_neT (a := 2) q5 rfl
  have n_q6 := lv_neT (a := 3) q6 rfl
  have n_q7 := lv_neT (a := 4) q7 rfl
  have n_q10 := lv_neT (a := 5) q10 rfl
  have n_q11 := lv_neT (a := 6) q11 rfl
  have n_q12 := lv_neT (a := 7) q12 rfl
  have q13 : (a0 : Int32).toInt < 0 ∨ 7 < (a0 : Int32).toInt := by omega
  refine J_tsO cx (tgt := 109) dX4_count_1 q13 (by decide) ?_
  replace h := h.2.2.2.2.2.2.2.2 q13
  refine J_ldc cx (v := (-1000001)) dX4_count_109 gw_212 ?_
  exact J_iret cx dX4_count_111 h
def wp_X4_status (σ : PI) (Q : Int32 → PI → Prop) : Prop := Q (σ 252 9) σ
set_option maxRecDepth 100000 in
set_option maxHeartbeats 4000000 in
theorem ct_X4_status {l : Launch} {X : XP} (σ : PI) (Q : Int32 → PI → Prop) (h : wp_X4_status   σ Q) : Ct l yX4_status cX4_status 1 (some .int) 0 X [.ref (X.1 252)] σ (qI Q) := by
  refine Ct_of (L := [some (.ref (X.1 252))]) (by decide) (Nat.le_of_ble_eq_true rfl) rfl (fun M hl cx => ?_)
  subst hl
  unfold wp_X4_status at h
  refine J_aload_n cx 0 dX4_status_0 rfl rfl ?_
  refine J_getI cx dX4_status_1 F_X4_296 (by decide) rfl rfl ?_
  exact J_iret cx dX4_status_4 h
