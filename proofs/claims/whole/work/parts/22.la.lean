def wp_X4_found (a0 : Int32) (σ : PI) (Q : Int32 → PI → Prop) : Prop := ∀ τ1 : PI, τ1 = up σ 252 9 a0 → (Q ((-1000010) - a0) τ1)
set_option maxRecDepth 100000 in
set_option maxHeartbeats 4000000 in
theorem ct_X4_found {l : Launch} {X : XP} (a0 : Int32) (σ : PI) (Q : Int32 → PI → Prop) (h : wp_X4_found  a0 σ Q) : Ct l yX4_found cX4_found 2 (some .int) 0 X [.ref (X.1 252), .int a0] σ (qI Q) := by
  refine Ct_of (L := [some (.ref (X.1 252)), some (.int a0)]) (by decide) (Nat.le_of_ble_eq_true rfl) rfl (fun M hl cx => ?_)
  subst hl
  unfold wp_X4_found at h
  refine J_aload_n cx 0 dX4_found_0 rfl rfl ?_
  refine J_iload_n cx 1 dX4_found_1 rfl rfl ?_
  refine J_putI cx dX4_found_2 (P_X4_296 _) (by decide) rfl rfl ?_
  refine J_nm (fun τ1 e_τ1 => ?_)
  replace h := h τ1 e_τ1
  refine J_ldc_w cx (v := (-1000010)) dX4_found_5 gw_217 ?_
  refine J_iload_n cx 1 dX4_found_8 rfl rfl ?_
  refine J_isub cx dX4_found_9 ?_
  exact J_iret cx dX4_found_10 h
def wp_X4_isRow (a0 : Int32) (σ : PI) (Q : Int32 → PI → Prop) : Prop := wp_X4_within a0 (nI 0) (nI 7) σ (fun r2 τ1 => (bz r2 ∧ Q r2 τ1))
set_option maxRecDepth 100000 in
set_option maxHeartbeats 4000000 in
theorem ct_X4_isRow {l : Launch} {X : XP} (a0 : Int32) (σ : PI) (Q : Int32 → PI → Prop) (h : wp_X4_isRow  a0 σ Q) : Ct l yX4_isRow cX4_isRow 2 (some .boolean) 1 X [.ref (X.1 252), .int a0] σ (qI Q) := by
  refine Ct_of (L := [some (.ref (X.1 252)), some (.int a0)]) (by decide) (Nat.le_of_ble_eq_true rfl) rfl (fun M hl cx => ?_)
  subst hl
  unfold wp_X4_isRow at h
  refine J_iload_n cx 1 dX4_isRow_0 rfl rfl ?_
  refine J_iconst cx dX4_isRow_1 (by decide : _ = ((nI 0) : Int32)) ?_
  refine J_bipush cx dX4_isRow_2 (by decide : _ = ((nI 7) : Int32)) ?_
  refine J_cS cx dX4_isRow_4 S_X4_52 (by decide) (ct_X4_within   _ _ _ _ _ h) rfl rfl (Nat.le_of_ble_eq_true rfl) (k_i (fun r2 τ1 h => ?_))
  exact J_zret cx dX4_isRow_7 h.1 h.2
def wp_X4_unfound (a0 : Int32) (σ : PI) (Q : Int32 → PI → Prop) : Prop := ∀ τ1 : PI, τ1 = up σ 252 9 (nI 0) → (Q a0 τ1)
set_option maxRecDepth 100000 in
set_option maxHeartbeats 4000000 in
theorem ct_X4_unfound {l : Launch} {X : XP} (a0 : Int32) (σ : PI) (Q : Int32 → PI → Prop) (h : wp_X4_unfound  a0 σ Q) : Ct l yX4_unfound cX4_unfound 2 (some .int) 0 X [.ref (X.1 252), .int a0] σ (qI Q) := by
  refine Ct_of (L := [some (.ref (X.1 252)), some (.int a0)]) (by decide) (Nat.le_of_ble_eq_true rfl) rfl (fun M hl cx => ?_)
  subst hl
  unfold wp_X4_unfound at h
  refine J_aload_n cx 0 dX4_unfound_0 rfl rfl ?_
  refine J_iconst cx dX4_unfound_1 (by decide : _ = ((nI 0) : Int32)) ?_
  refine J_putI cx dX4_unfound_2 (P_X4_296 _) (by decide) rfl rfl ?_
  refine J_nm (fun τ1 e_τ1 => ?_)
  replace h := h τ1 e_τ1
  refine J_iload_n cx 1 dX4_unfound_5 rfl rfl ?_
  exact J_iret cx dX4_unfound_6 h
def wp_X4_row (a0 : Int32) (a1 : Int32) (a2 : Int32) (σ : PI) (Q : Int32 → PI → Prop) : Prop := wp_X4_isRow a0 σ (fun r2 τ1 => ((r2 = (nI 0) → Q (-1000001) τ1) ∧ (¬ r2 = (nI 0) → wp_X4_within a1 (nI 0) (nI 2) τ1 (fun r5 τ4 => ((r5 = (nI 0) → Q (-1000001) τ4) ∧ (¬ r5 = (nI 0) → (a2 ≤ (nI 40) → ((nI 0) ≤ a2 → vp_in a0 8 ∧ (wp_X2_make ((a0 : Int32).toNatClampNeg) a1 a2 τ4 (fun τ10 => (wp_X4_unfound a2 τ10 (fun r12 τ11 => (Q r12 τ11)))))) ∧ (¬ (nI 0) ≤ a2 → wp_X4_found (nI 4) τ4 (fun r14 τ13 => (Q r14 τ13)))) ∧ (¬ a2 ≤ (nI 40) → Q (-1000001) τ4)))))))
set_option maxRecDepth 100000 in
set_option maxHeartbeats 4000000 in
theorem ct_X4_row {l : Launch} {X : XP} (a0 : Int32) (a1 : Int32) (a2 : Int32) (σ : PI) (Q : Int32 → PI → Prop) (h : wp_X4_row  a0 a1 a2 σ Q) : Ct l yX4_row cX4_row 4 (some .int) 2 X [.ref (X.1 252), .int a0, .int a1, .int a2] σ (qI Q) := by
  refine Ct_of (L := [some (.ref (X.1 252)), some (.int a0), some (.int a1), some (.int a2)]) (by decide) (Nat.le_of_ble_eq_true rfl) rfl (fun M hl cx => ?_)
  subst hl
  unfold wp_X4_row at h
  refine J_aload_n cx 0 dX4_row_0 rfl rfl ?_
  refine J_iload_n cx 1 dX4_row_1 rfl rfl ?_
  refine J_cV cx dX4_row_2 V_X4_48 (by decide) (by decide) rfl (ct_X4_isRow   _ _ _ h) rfl rfl (Nat.le_of_ble_eq_true rfl) (k_i (fun r2 τ1 h => ?_))
  refine J_if_eq cx (tgt := 23) dX4_row_5 (by decide) (fun q3 => ?_) (fun q3 => ?_)
  · replace h := h.1 q3
    refine J_ldc cx (v := (-1000001)) dX4_row_23 gw_212 ?_
    exact J_iret cx dX4_row_25 h
  · replace h := h.2 q3
    refine J_iload_n cx 2 dX4_row_8 rfl rfl ?_
    refine J_iconst cx dX4_row_9 (by decide : _ = ((nI 0) : Int32)) ?_
    refine J_iconst cx dX4_row_10 (by decide : _ = ((nI 2) : Int32)) ?_
    refine J_cS cx dX4_row_11 S_X4_52 (by decide) (ct_X4_within   _ _ _ _ _ h) rfl rfl (Nat.le_of_ble_eq_true rfl) (k_i (fun r5 τ4 h => ?_))
    refine J_if_eq cx (tgt := 23) dX4_row_14 (by decide) (fun q6 => ?_) (fun q6 => ?_)
    · replace h := h.1 q6
      refine J_ldc cx (v := (-1000001)) dX4_row_23 gw_212 ?_
      exact J_iret cx dX4_row_25 h
    · replace h := h.2 q6
      refine J_iload_n cx 3 dX4_row_17 rfl rfl ?_
      refine J_bipush cx dX4_row_18 (by decide : _ = ((nI 40) : Int32)) ?_
      refine J_icmp_le cx (tgt := 26) dX4_row_20 (by decide) (fun q7 => ?_) (fun q7 => ?_)
      · replace h := h.1 q7
        refine J_iload_n cx 3 dX4_row_26 rfl rfl ?_
        refine J_if_ge cx (tgt := 36) dX4_row_27 (by decide) (fun q8 => ?_) (fun q8 => ?_)
        · replace h := h.1 q8
          refine J_aload_n cx 0 dX4_row_36 rfl rfl ?_
          refine J_getR cx (j := 253) dX4_row_37 F_X4_11 (by decide) rfl rfl rfl ?_
          refine J_iload_n cx 1 dX4_row_40 rfl rfl ?_
          obtain ⟨s9, h⟩ := h
          refine J_aald cx dX4_row_41 (by decide) rfl (Or.inl rfl) s9 (rq_rows _) ?_
          refine J_iload_n cx 2 dX4_row_42 rfl rfl ?_
          refine J_iload_n cx 3 dX4_row_43 rfl rfl ?_
          refine J_cV cx dX4_row_44 V_X4_61 (by decide) (rc_lt (vp_lt s9) (by decide)) (kq_r0 (vp_lt s9)) (ct_X2_make ((a0 : Int32).toNatClampNeg) (vp_lt s9) _ _ _ _ h) rfl rfl (Nat.le_of_ble_eq_true rfl) (k_v (fun τ10 h => ?_))
          refine J_aload_n cx 0 dX4_row_47 rfl rfl ?_
          refine J_iload_n cx 3 dX4_row_48 rfl rfl ?_
          refine J_cV cx dX4_row_49 V_X4_65 (by decide) (by decide) rfl (ct_X4_unfound   _ _ _ h) rfl rfl (Nat.le_of_ble_eq_true rfl) (k_i (fun r12 τ11 h => ?_))
          exact J_iret cx dX4_row_52 h
        · replace h := h.2 q8
          refine J_aload_n cx 0 dX4_row_30 rfl rfl ?_
          refine J_iconst cx dX4_row_31 (by decide : _ = ((nI 4) : Int32)) ?_
          refine J_cV cx dX4_row_32 V_X4_57 (by decide) (by decide) rfl (ct_X4_found   _ _ _ h) rfl rfl (Nat.le_of_ble_eq_true rfl) (k_i (fun r14 τ13 h => ?_))
          exact J_iret cx dX4_row_35 h
      · replace h := h.2 q7
        refine J_ldc cx (v := (-1000001)) dX4_row_23 gw_212 ?_
        exact J_iret cx dX4_row_25 h
def wp_X4_set (a0 : Int32) (a1 : Int32) (a2 : Int32) (σ : PI) (Q : Int32 → PI → Prop) : Prop := wp_X4_isRow a0 σ (fun r2 τ1 => ((¬ r2 = (nI 0) → vp_in a0 8 ∧ ((¬ (τ1 (rc ((a0 : Int32).toNatClampNeg) 0) 1) = (nI 0) → vp_in a0 8 ∧ (wp_X2_holds ((a0 : Int32).toNatClampNeg) a1 (nI 1) τ1 (fun r8 τ7 => ((¬ r8 = (nI 0) → vp_in a0 8 ∧ (wp_X2_put ((a0 : Int32).toNatClampNeg) a1 a2 τ7 (fun r12 τ11 => (wp_X4_unfound r12 τ11 (fun r14 τ13 => (Q r14 τ13)))))) ∧ (r8 = (nI 0) → wp_X4_found (nI 2) τ7 (fun r16 τ15 => (Q r16 τ15))))))) ∧ ((τ1 (rc ((a0 : Int32).toNatClampNeg) 0) 1) = (nI 0) → wp_X4_found (nI 1) τ1 (fun r18 τ17 => (Q r18 τ17))))) ∧ (r2 = (nI 0) → Q (-1000001) τ1)))
set_option maxRecDepth 100000 in
set_option maxHeartbeats 4000000 in
theorem ct_X4_set {l : Launch} {X : XP} (a0 : Int32) (a1 : Int32) (a2 : Int32) (σ : PI) (Q : Int32 → PI → Prop) (h : wp_X4_set  a0 a1 a2 σ Q) : Ct l yX4_set cX4_set 4 (some .int) 2 X [.ref (X.1 252), .int a0, .int a1, .int a2] σ (qI Q) := by
  refine Ct_of (L := [some (.ref (X.1 252)), some (.int a0), some (.int a1), some (.int a2)]) (by decide) (Nat.le_of_ble_eq_true rfl) rfl (fun M hl cx => ?_)
  subst hl
  unfold wp_X4_set at h
  refine J_aload_n cx 0 dX4_set_0 rfl rfl ?_
  refine J_iload_n cx 1 dX4_set_1 rfl rfl ?_
  refine J_cV cx dX4_set_2 V_X4_48 (by decide) (by decide) rfl (ct_X4_isRow   _ _ _ h) rfl rfl (Nat.le_of_ble_eq_true rfl) (k_i (fun r2 τ1 h => ?_))
  refine J_if_ne cx (tgt := 11) dX4_set_5 (by decide) (fun q3 => ?_) (fun q3 => ?_)
  · replace h := h.1 q3
    refine J_aload_n cx 0 dX4_set_11 rfl rfl ?_
    refine J_getR cx (j := 253) dX4_set_12 F_X4_11 (by decide) rfl rfl rfl ?_
    refine J_iload_n cx 1 dX4_set_15 rfl rfl ?_
    obtain ⟨s4, h⟩ := h
    refine J_aald cx dX4_set_16 (by decide) rfl (Or.inl rfl) s4 (rq_rows _) ?_
    refine J_getI cx dX4_set_17 F_X4_68 (rc_lt (vp_lt s4) (by decide)) (kq_r0 (vp_lt s4)) rfl ?_
    refine J_if_ne cx (tgt := 29) dX4_set_20 (by decide) (fun q5 => ?_) (fun q5 => ?_)
    · replace h := h.1 q5
      refine J_aload_n cx 0 dX4_set_29 rfl rfl ?_
      refine J_getR cx (j := 253) dX4_set_30 F_X4_11 (by decide) rfl rfl rfl ?_
      refine J_iload_n cx 1 dX4_set_33 rfl rfl ?_
      obtain ⟨s6, h⟩ := h
      refine J_aald cx dX4_set_34 (by decide) rfl (Or.inl rfl) s6 (rq_rows _) ?_
      refine J_iload_n cx 2 dX4_set_35 rfl rfl ?_
      refine J_iconst cx dX4_set_36 (by decide : _ = ((nI 1) : Int32)) ?_
      refine J_cV cx dX4_set_37 V_X4_72 (by decide) (rc_lt (vp_lt s6) (by decide)) (kq_r0 (vp_lt s6)) (ct_X2_holds ((a0 : Int32).toNatClampNeg) (vp_lt s6) _ _ _ _ h) rfl rfl (Nat.le_of_ble_eq_true rfl) (k_i (fun r8 τ7 h => ?_))
      refine J_if_ne cx (tgt := 49) dX4_set_40 (by decide) (fun q9 => ?_) (fun q9 => ?_)
      · replace h := h.1 q9
        refine J_aload_n cx 0 dX4_set_49 rfl rfl ?_
        refine J_aload_n cx 0 dX4_set_50 rfl rfl ?_
        refine J_getR cx (j := 253) dX4_set_51 F_X4_11 (by decide) rfl rfl rfl ?_
        refine J_iload_n cx 1 dX4_set_54 rfl rfl ?_
        obtain ⟨s10, h⟩ := h
        refine J_aald cx dX4_set_55 (by decide) rfl (Or.inl rfl) s10 (rq_rows _) ?_
        refine J_iload_n cx 2 dX4_set_56 rfl rfl ?_
        refine J_iload_n cx 3 dX4_set_57 rfl rfl ?_
        refine J_cV cx dX4_set_58 V_X4_76 (by decide) (rc_lt (vp_lt s10) (by decide)) (kq_r0 (vp_lt s10)) (ct_X2_put ((a0 : Int32).toNatClampNeg) (vp_lt s10) _ _ _ _ h) rfl rfl (Nat.le_of_ble_eq_true rfl) (k_i (fun r12 τ11 h => ?_))
        refine J_cV cx dX4_set_61 V_X4_65 (by decide) (by decide) rfl (ct_X4_unfound   _ _ _ h) rfl rfl (Nat.le_of_ble_eq_true rfl) (k_i (fun r14 τ13 h => ?_))
        exact J_iret cx dX4_set_64 h
      · replace h := h.2 q9
        refine J_aload_n cx 0 dX4_set_43 rfl rfl ?_
        refine J_iconst cx dX4_set_44 (by decide : _ = ((nI 2) : Int32)) ?_
        refine J_cV cx dX4_set_45 V_X4_57 (by decide) (by decide) rfl (ct_X4_found   _ _ _ h) rfl rfl (Nat.le_of_ble_eq_true rfl) (k_i (fun r16 τ15 h => ?_))
        exact J_iret cx dX4_set_48 h
    · replace h := h.2 q5
      refine J_aload_n cx 0 dX4_set_23 rfl rfl ?_
      refine J_iconst cx dX4_set_24 (by decide : _ = ((nI 1) : Int32)) ?_
      refine J_cV cx dX4_set_25 V_X4_57 (by decide) (by decide) rfl (ct_X4_found   _ _ _ h) rfl rfl (Nat.le_of_ble_eq_true rfl) (k_i (fun r18 τ17 h => ?_))
      exact J_iret cx dX4_set_28 h
  · replace h := h.2 q3
    refine J_ldc cx (v := (-1000001)) dX4_set_8 gw_212 ?_
    exact J_iret cx dX4_set_10 h
def w_X4_copy_99 (Q : Int32 → PI → Prop) (σ : PI) : Prop := wp_X4_found (nI 2) σ (fun r31 τ30 => (Q r31 τ30))
set_option maxRecDepth 100000 in
set_option maxHeartbeats 4000000 in
theorem j_X4_copy_99 {M : MC} {X : XP} {Q : Int32 → PI → Prop} (cx : Cx M X RX4 cX4_copy 8 (some .int) 2) (σ : PI) (h : w_X4_copy_99   Q  σ) : J M X (QF M X (qI Q)) σ 99 [some (.ref (X.1 252)), none, none, none, none, none, none, none] [] := by
  unfold w_X4_copy_99 at h
  refine J_aload_n cx 0 dX4_copy_99 rfl rfl ?_
  refine J_iconst cx dX4_copy_100 (by decide : _ = ((nI 2) : Int32)) ?_
  refine J_cV cx dX4_copy_101 V_X4_57 (by decide) (by decide) rfl (ct_X4_found   _ _ _ h) rfl rfl (Nat.le_of_ble_eq_true rfl) (k_i (fun r31 τ30 h => ?_))
  exact J_iret cx dX4_copy_104 h
def w_X4_copy_51 (Q : Int32 → PI → Prop) (σ : PI) : Prop := wp_X4_found (nI 1) σ (fun r29 τ28 => (Q r29 τ28))
set_option maxRecDepth 100000 in
set_option maxHeartbeats 4000000 in
theorem j_X4_copy_51 {M : MC} {X : XP} {Q : Int32 → PI → Prop} (cx : Cx M X RX4 cX4_copy 8 (some .int) 2) (σ : PI) (h : w_X4_copy_51   Q  σ) : J M X (QF M X (qI Q)) σ 51 [some (.ref (X.1 252)), none, none, none, none, none, none, none] [] := by
  unfold w_X4_copy_51 at h
  refine J_aload_n cx 0 dX4_copy_51 rfl rfl ?_
  refine J_iconst cx dX4_copy_52 (by decide : _ = ((nI 1) : Int32)) ?_
  refine J_cV cx dX4_copy_53 V_X4_57 (by decide) (by decide) rfl (ct_X4_found   _ _ _ h) rfl rfl (Nat.le_of_ble_eq_true rfl) (k_i (fun r29 τ28 h => ?_))
  exact J_iret cx dX4_copy_56 h
def wp_X4_copy (a0 : Int32) (a1 : Int32) (a2 : Int32) (a3 : Int32) (a4 : Int32) (σ : PI) (Q : Int32 → PI → Prop) : Prop := wp_X4_isRow a0 σ (fun r2 τ1 => ((r2 = (nI 0) → Q (-1000001) τ1) ∧ (¬ r2 = (nI 0) → wp_X4_isRow a2 τ1 (fun r5 τ4 => ((¬ r5 = (nI 0) → vp_in a0 8 ∧ (vp_in a2 8 ∧ (((τ4 (rc ((a0 : Int32).toNatClampNeg) 0) 1) = (nI 0) → w_X4_copy_51   Q  τ4) ∧ (¬ (τ4 (rc ((a0 : Int32).toNatClampNeg) 0) 1) = (nI 0) → (¬ (τ4 (rc ((a2 : Int32).toNatClampNeg) 0) 1) = (nI 0) → ((τ4 (rc ((a0 : Int32).toNatClampNeg) 0) 2) = (τ4 (rc ((a2 : Int32).toNatClampNeg) 0) 2) → wp_X2_holds ((a0 : Int32).toNatClampNeg) a1 a4 τ4 (fun r13 τ12 => ((r13 = (nI 0) → w_X4_copy_99   Q  τ12) ∧ (¬ r13 = (nI 0) → wp_X2_holds ((a2 : Int32).toNatClampNeg) a3 a4 τ12 (fun r16 τ15 => ((¬ r16 = (nI 0) → ¬ a1 < (nI 0) ∧ (¬ a3 < (nI 0) ∧ (¬ a4 < (nI 0) ∧ ((a1 : Int32).toNatClampNeg + (a4 : Int32).toNatClampNeg ≤ 40 ∧ ((a3 : Int32).toNatClampNeg + (a4 : Int32).toNatClampNeg ≤ 40 ∧ (∀ τ23 : PI, τ23 = upA τ15 (rc ((a2 : Int32).toNatClampNeg) 1) (va_cpy (τ15 (rc ((a0 : Int32).toNatClampNeg) 1)) (τ15 (rc ((a2 : Int32).toNatClampNeg) 1)) (a1 : Int32).toNatClampNeg (a3 : Int32).toNatClampNeg (a4 : Int32).toNatClampNeg) → (wp_X4_unfound a4 τ23 (fun r25 τ24 => (Q r25 τ24))))))))) ∧ (r16 = (nI 0) → w_X4_copy_99   Q  τ15))))))) ∧ (¬ (τ4 (rc ((a0 : Int32).toNatClampNeg) 0) 2) = (τ4 (rc ((a2 : Int32).toNatClampNeg) 0) 2) → wp_X4_found (nI 5) τ4 (fun r27 τ26 => (Q r27 τ26)))) ∧ ((τ4 (rc ((a2 : Int32).toNatClampNeg) 0) 1) = (nI 0) → w_X4_copy_51   Q  τ4))))) ∧ (r5 = (nI 0) → Q (-1000001) τ4))))))
set_option maxRecDepth 100000 in
set_option maxHeartbeats 4000000 in
theorem ct_X4_copy {l : Launch} {X : XP} (a0 : Int32) (a1 : Int32) (a2 : Int32) (a3 : Int32) (a4 : Int32) (σ : PI) (Q : Int32 → PI → Prop) (h : wp_X4_copy  a0 a1 a2 a3 a4 σ Q) : Ct l yX4_copy cX4_copy 8 (some .int) 2 X [.ref (X.1 252), .int a0, .int a1, .int a2, .int a3, .int a4] σ (qI Q) := by
  refine Ct_of (L := [some (.ref (X.1 252)), some (.int a0), some (.int a1), some (.int a2), some (.int a3), some (.int a4), none, none]) (by decide) (Nat.le_of_ble_eq_true rfl) rfl (fun M hl cx => ?_)
  subst hl
  unfold wp_X4_copy at h
  refine J_aload_n cx 0 dX4_copy_0 rfl rfl ?_
  refine J_iload_n cx 1 dX4_copy_1 rfl rfl ?_
  refine J_cV cx dX4_copy_2 V_X4_48 (by decide) (by decide) rfl (ct_X4_isRow   _ _ _ h) rfl rfl (Nat.le_of_ble_eq_true rfl) (k_i (fun r2 τ1 h => ?_))
  refine J_if_eq cx (tgt := 16) dX4_copy_5 (by decide) (fun q3 => ?_) (fun q3 => ?_)
  · replace h := h.1 q3
    refine J_ldc cx (v := (-1000001)) dX4_copy_16 gw_212 ?_
    exact J_iret cx dX4_copy_18 h
  · replace h := h.2 q3
    refine J_aload_n cx 0 dX4_copy_8 rfl rfl ?_
    refine J_iload_n cx 3 dX4_copy_9 rfl rfl ?_
    refine J_cV cx dX4_copy_10 V_X4_48 (by decide) (by decide) rfl (ct_X4_isRow   _ _ _ h) rfl rfl (Nat.le_of_ble_eq_true rfl) (k_i (fun r5 τ4 h => ?_))
    refine J_if_ne cx (tgt := 19) dX4_copy_13 (by decide) (fun q6 => ?_) (fun q6 => ?_)
    · replace h := h.1 q6
      refine J_aload_n cx 0 dX4_copy_19 rfl rfl ?_
      refine J_getR cx (j := 253) dX4_copy_20 F_X4_11 (by decide) rfl rfl rfl ?_
      refine J_iload_n cx 1 dX4_copy_23 rfl rfl ?_
      obtain ⟨s7, h⟩ := h
      refine J_aald cx dX4_copy_24 (by decide) rfl (Or.inl rfl) s7 (rq_rows _) ?_
      refine J_astore cx dX4_copy_25 (by decide) rfl rfl ?_
      refine J_aload_n cx 0 dX4_copy_27 rfl rfl ?_
      refine J_getR cx (j := 253) dX4_copy_28 F_X4_11 (by decide) rfl rfl rfl ?_
      refine J_iload_n cx 3 dX4_copy_31 rfl rfl ?_
      obtain ⟨s8, h⟩ := h
      refine J_aald cx dX4_copy_32 (by decide) rfl (Or.inl rfl) s8 (rq_rows _) ?_
      refine J_astore cx dX4_copy_33 (by decide) rfl rfl ?_
      refine J_aload cx dX4_copy_35 rfl ?_
      refine J_getI cx dX4_copy_37 F_X4_68 (rc_lt (vp_lt s7) (by decide)) (kq_r0 (vp_lt s7)) rfl ?_
      refine J_if_eq cx (tgt := 51) dX4_copy_40 (by decide) (fun q9 => ?_) (fun q9 => ?_)
      · replace h := h.1 q9
        refine J_fg 1 rfl ?_
        refine J_fg 2 rfl ?_
        refine J_fg 3 rfl ?_
        refine J_fg 4 rfl ?_
        refine J_fg 5 rfl ?_
        refine J_fg 6 rfl ?_
        refine J_fg 7 rfl ?_
        exact j_X4_copy_51     cx   _ h
      · replace h := h.2 q9
        refine J_aload cx dX4_copy_43 rfl ?_
        refine J_getI cx dX4_copy_45 F_X4_68 (rc_lt (vp_lt s8) (by decide)) (kq_r0 (vp_lt s8)) rfl ?_
        refine J_if_ne cx (tgt := 57) dX4_copy_48 (by decide) (fun q10 => ?_) (fun q10 => ?_)
        · replace h := h.1 q10
          refine J_aload cx dX4_copy_57 rfl ?_
          refine J_getI cx dX4_copy_59 F_X4_80 (rc_lt (vp_lt s7) (by decide)) (kq_r0 (vp_lt s7)) rfl ?_
          refine J_aload cx dX4_copy_62 rfl ?_
          refine J_getI cx dX4_copy_64 F_X4_80 (rc_lt (vp_lt s8) (by decide)) (kq_r0 (vp_lt s8)) rfl ?_
          refine J_icmp_eq cx (tgt := 76) dX4_copy_67 (by decide) (fun q11 => ?_) (fun q11 => ?_)
          · replace h := h.1 q11
            refine J_aload cx dX4_copy_76 rfl ?_
            refine J_iload_n cx 2 dX4_copy_78 rfl rfl ?_
            refine J_iload cx dX4_copy_79 rfl ?_
            refine J_cV cx dX4_copy_81 V_X4_72 (by decide) (rc_lt (vp_lt s7) (by decide)) (kq_r0 (vp_lt s7)) (ct_X2_holds ((a0 : Int32).toNatClampNeg) (vp_lt s7) _ _ _ _ h) rfl rfl (Nat.le_of_ble_eq_true rfl) (k_i (fun r13 τ12 h => ?_))
            refine J_if_eq cx (tgt := 99) dX4_copy_84 (by decide) (fun q14 => ?_) (fun q14 => ?_)
            · replace h := h.1 q14
              refine J_fg 1 rfl ?_
              refine J_fg 2 rfl ?_
              refine J_fg 3 rfl ?_
              refine J_fg 4 rfl ?_
              refine J_fg 5 rfl ?_
              refine J_fg 6 rfl ?_
              refine J_fg 7 rfl ?_
              exact j_X4_copy_99     cx   _ h
            · replace h := h.2 q14
              refine J_aload cx dX4_copy_87 rfl ?_
              refine J_iload cx dX4_copy_89 rfl ?_
              refine J_iload cx dX4_copy_91 rfl ?_
              refine J_cV cx dX4_copy_93 V_X4_72 (by decide) (rc_lt (vp_lt s8) (by decide)) (kq_r0 (vp_lt s8)) (ct_X2_holds ((a2 : Int32).toNatClampNeg) (vp_lt s8) _ _ _ _ h) rfl rfl (Nat.le_of_ble_eq_true rfl) (k_i (fun r16 τ15 h => ?_))
              refine J_if_ne cx (tgt := 105) dX4_copy_96 (by decide) (fun q17 => ?_) (fun q17 => ?_)
              · replace h := h.1 q17
                refine J_aload cx dX4_copy_105 rfl ?_
                refine J_getR cx (j := (rc ((a0 : Int32).toNatClampNeg) 1)) dX4_copy_107 F_X4_84 (rc_lt (vp_lt s7) (by decide)) (kq_r0 (vp_lt s7)) rfl (rq_r (vp_lt s7)) ?_
                refine J_iload_n cx 2 dX4_copy_110 rfl rfl ?_
                refine J_aload cx dX4_copy_111 rfl ?_
                refine J_getR cx (j := (rc ((a2 : Int32).toNatClampNeg) 1)) dX4_copy_113 F_X4_84 (rc_lt (vp_lt s8) (by decide)) (kq_r0 (vp_lt s8)) rfl (rq_r (vp_lt s8)) ?_
                refine J_iload cx dX4_copy_116 rfl ?_
                refine J_iload cx dX4_copy_118 rfl ?_
                obtain ⟨s18, h⟩ := h
                obtain ⟨s19, h⟩ := h
                obtain ⟨s20, h⟩ := h
                obtain ⟨s21, h⟩ := h
                obtain ⟨s22, h⟩ := h
                refine J_copy cx dX4_copy_120 gw_242 (by decide) (Nat.le_of_ble_eq_true rfl) (rc_lt (vp_lt s7) (by decide)) (kq_r1 (vp_lt s7)) (rc_lt (vp_lt s8) (by decide)) (kq_r1 (vp_lt s8)) s18 s19 s20 s21 s22 ?_
                refine J_nm (fun τ23 e_τ23 => ?_)
                replace h := h τ23 e_τ23
                refine J_aload_n cx 0 dX4_copy_123 rfl rfl ?_
                refine J_iload cx dX4_copy_124 rfl ?_
                refine J_cV cx dX4_copy_126 V_X4_65 (by decide) (by decide) rfl (ct_X4_unfound   _ _ _ h) rfl rfl (Nat.le_of_ble_eq_true rfl) (k_i (fun r25 τ24 h => ?_))
                exact J_iret cx dX4_copy_129 h
              · replace h := h.2 q17
                refine J_fg 1 rfl ?_
                refine J_fg 2 rfl ?_
                refine J_fg 3 rfl ?_
                refine J_fg 4 rfl ?_
                refine J_fg 5 rfl ?_
                refine J_fg 6 rfl ?_
                refine J_fg 7 rfl ?_
                exact j_X4_copy_99     cx   _ h
          · replace h := h.2 q11
            refine J_aload_n cx 0 dX4_copy_70 rfl rfl ?_
            refine J_iconst cx dX4_copy_71 (by decide : _ = ((nI 5) : Int32)) ?_
            refine J_cV cx dX4_copy_72 V_X4_57 (by decide) (by decide) rfl (ct_X4_found   _ _ _ h) rfl rfl (Nat.le_of_ble_eq_true rfl) (k_i (fun r27 τ26 h => ?_))
            exact J_iret cx dX4_copy_75 h
        · replace h := h.2 q10
          refine J_fg 1 rfl ?_
          refine J_fg 2 rfl ?_
          refine J_fg 3 rfl ?_
          refine J_fg 4 rfl ?_
          refine J_fg 5 rfl ?_
          refine J_fg 6 rfl ?_
          refine J_fg 7 rfl ?_
          exact j_X4_copy_51     cx   _ h
    · replace h := h.2 q6
      refine J_ldc cx (v := (-1000001)) dX4_copy_16 gw_212 ?_
      exact J_iret cx dX4_copy_18 h
def wp_X4_drop (a0 : Int32) (σ : PI) (Q : Int32 → PI → Prop) : Prop := wp_X4_isRow a0 σ (fun r2 τ1 => ((¬ r2 = (nI 0) → vp_in a0 8 ∧ ((¬ (τ1 (rc ((a0 : Int32).toNatClampNeg) 0) 1) = (nI 0) → vp_in a0 8 ∧ (∀ τ7 : PI, τ7 = up τ1 (rc ((a0 : Int32).toNatClampNeg) 0) 1 (nI 0) → (vp_in a0 8 ∧ (wp_X4_unfound (τ7 (rc ((a0 : Int32).toNatClampNeg) 0) 3) τ7 (fun r10 τ9 => (Q r10 τ9)))))) ∧ ((τ1 (rc ((a0 : Int32).toNatClampNeg) 0) 1) = (nI 0) → wp_X4_found (nI 1) τ1 (fun r12 τ11 => (Q r12 τ11))))) ∧ (r2 = (nI 0) → Q (-1000001) τ1)))
set_option maxRecDepth 100000 in
set_option maxHeartbeats 4000000 in
theorem ct_X4_drop {l : Launch} {X : XP} (a0 : Int32) (σ : PI) (Q : Int32 → PI → Prop) (h : wp_X4_drop  a0 σ Q) : Ct l yX4_drop cX4_drop 2 (some .int) 2 X [.ref (X.1 252), .int a0] σ (qI Q) := by
  refine Ct_of (L := [some (.ref (X.1 252)), some (.int a0)]) (by decide) (Nat.le_of_ble_eq_true rfl) rfl (fun M hl cx => ?_)
  subst hl
  unfold wp_X4_drop at h
  refine J_aload_n cx 0 dX4_drop_0 rfl rfl ?_
  refine J_iload_n cx 1 dX4_drop_1 rfl rfl ?_
  refine J_cV cx dX4_drop_2 V_X4_48 (by decide) (by decide) rfl (ct_X4_isRow   _ _ _ h) rfl rfl (Nat.le_of_ble_eq_true rfl) (k_i (fun r2 τ1 h => ?_))
  refine J_if_ne cx (tgt := 11) dX4_drop_5 (by decide) (fun q3 => ?_) (fun q3 => ?_)
  · replace h := h.1 q3
    refine J_aload_n cx 0 dX4_drop_11 rfl rfl ?_
    refine J_getR cx (j := 253) dX4_drop_12 F_X4_11 (by decide) rfl rfl rfl ?_
    refine J_iload_n cx 1 dX4_drop_15 rfl rfl ?_
    obtain ⟨s4, h⟩ := h
    refine J_aald cx dX4_drop_16 (by decide) rfl (Or.inl rfl) s4 (rq_rows _) ?_
    refine J_getI cx dX4_drop_17 F_X4_68 (rc_lt (vp_lt s4) (by decide)) (kq_r0 (vp_lt s4)) rfl ?_
    refine J_if_ne cx (tgt := 29) dX4_drop_20 (by decide) (fun q5 => ?_) (fun q5 => ?_)
    · replace h := h.1 q5
      refine J_aload_n cx 0 dX4_drop_29 rfl rfl ?_
      refine J_getR cx (j := 253) dX4_drop_30 F_X4_11 (by decide) rfl rfl rfl ?_
      refine J_iload_n cx 1 dX4_drop_33 rfl rfl ?_
      obtain ⟨s6, h⟩ := h
      refine J_aald cx dX4_drop_34 (by decide) rfl (Or.inl rfl) s6 (rq_rows _) ?_
      refine J_iconst cx dX4_drop_35 (by decide : _ = ((nI 0) : Int32)) ?_
      refine J_putI cx dX4_drop_36 P_X4_68_0 (rc_lt (vp_lt s6) (by decide)) (kq_r0 (vp_lt s6)) rfl ?_
      refine J_nm (fun τ7 e_τ7 => ?_)
      replace h := h τ7 e_τ7
      refine J_aload_n cx 0 dX4_drop_39 rfl rfl ?_
      refine J_aload_n cx 0 dX4_drop_40 rfl rfl ?_
      refine J_getR cx (j := 253) dX4_drop_41 F_X4_11 (by decide) rfl rfl rfl ?_
      refine J_iload_n cx 1 dX4_drop_44 rfl rfl ?_
      obtain ⟨s8, h⟩ := h
      refine J_aald cx dX4_drop_45 (by decide) rfl (Or.inl rfl) s8 (rq_rows _) ?_
      refine J_getI cx dX4_drop_46 F_X4_93 (rc_lt (vp_lt s8) (by decide)) (kq_r0 (vp_lt s8)) rfl ?_
      refine J_cV cx dX4_drop_49 V_X4_65 (by decide) (by decide) rfl (ct_X4_unfound   _ _ _ h) rfl rfl (Nat.le_of_ble_eq_true rfl) (k_i (fun r10 τ9 h => ?_))
      exact J_iret cx dX4_drop_52 h
    · replace h := h.2 q5
      refine J_aload_n cx 0 dX4_drop_23 rfl rfl ?_
      refine J_iconst cx dX4_drop_24 (by decide : _ = ((nI 1) : Int32)) ?_
      refine J_cV cx dX4_drop_25 V_X4_57 (by decide) (by decide) rfl (ct_X4_found   _ _ _ h) rfl rfl (Nat.le_of_ble_eq_true rfl) (k_i (fun r12 τ11 h => ?_))
      exact J_iret cx dX4_drop_28 h
  · replace h := h.2 q3
    refine J_ldc cx (v := (-1000001)) dX4_drop_8 gw_212 ?_
    exact J_iret cx dX4_drop_10 h
def wp_X4_feed (a0 : Int32) (σ : PI) (Q : Int32 → PI → Prop) : Prop := wp_X4_within a0 (nI 0) (nI 255) σ (fun r2 τ1 => ((¬ r2 = (nI 0) → wp_X1_add a0 τ1 (fun r5 τ4 => ((r5 = (nI 0) → Q (-1000003) τ4) ∧ (¬ r5 = (nI 0) → Q (τ4 257 1) τ4)))) ∧ (r2 = (nI 0) → Q (-1000001) τ1)))
set_option maxRecDepth 100000 in
set_option maxHeartbeats 4000000 in
theorem ct_X4_feed {l : Launch} {X : XP} (a0 : Int32) (σ : PI) (Q : Int32 → PI → Prop) (h : wp_X4_feed  a0 σ Q) : Ct l yX4_feed cX4_feed 2 (some .int) 1 X [.ref (X.1 252), .int a0] σ (qI Q) := by
  refine Ct_of (L := [some (.ref (X.1 252)), some (.int a0)]) (by decide) (Nat.le_of_ble_eq_true rfl) rfl (fun M hl cx => ?_)
  subst hl
  unfold wp_X4_feed at h
  refine J_iload_n cx 1 dX4_feed_0 rfl rfl ?_
  refine J_iconst cx dX4_feed_1 (by decide : _ = ((nI 0) : Int32)) ?_
  refine J_sipush cx dX4_feed_2 (by decide : _ = ((nI 255) : Int32)) ?_
  refine J_cS cx dX4_feed_5 S_X4_52 (by decide) (ct_X4_within   _ _ _ _ _ h) rfl rfl (Nat.le_of_ble_eq_true rfl) (k_i (fun r2 τ1 h => ?_))
  refine J_if_ne cx (tgt := 14) dX4_feed_8 (by decide) (fun q3 => ?_) (fun q3 => ?_)
  · replace h := h.1 q3
    refine J_aload_n cx 0 dX4_feed_14 rfl rfl ?_
    refine J_getR cx (j := 257) dX4_feed_15 F_X4_26 (by decide) rfl rfl rfl ?_
    refine J_iload_n cx 1 dX4_feed_18 rfl rfl ?_
    refine J_cV cx dX4_feed_19 V_X4_96 (by decide) (by decide) rfl (ct_X1_add   _ _ _ h) rfl rfl (Nat.le_of_ble_eq_true rfl) (k_i (fun r5 τ4 h => ?_))
    refine J_if_eq cx (tgt := 35) dX4_feed_22 (by decide) (fun q6 => ?_) (fun q6 => ?_)
    · replace h := h.1 q6
      refine J_ldc cx (v := (-1000003)) dX4_feed_35 gw_257 ?_
      exact J_iret cx dX4_feed_37 h
    · replace h := h.2 q6
      refine J_aload_n cx 0 dX4_feed_25 rfl rfl ?_
      refine J_getR cx (j := 257) dX4_feed_26 F_X4_26 (by decide) rfl rfl rfl ?_
      refine J_getI cx dX4_feed_29 F_X4_99 (by decide) rfl rfl ?_
      refine J_goto cx (tgt := 37) dX4_feed_32 (by decide) ?_
      exact J_iret cx dX4_feed_37 h
  · replace h := h.2 q3
    refine J_ldc cx (v := (-1000001)) dX4_feed_11 gw_212 ?_
    exact J_iret cx dX4_feed_13 h
def wp_X4_town (σ : PI) (Q : Int32 → PI → Prop) : Prop := wp_X1_read 1 σ (fun r2 τ1 => ((¬ r2 = (nI 0) → wp_X3_copyFrom 0 1 τ1 (fun τ4 => (wp_X0_forget  τ4 (fun τ5 => (Q (τ5 (tc 0 0) 9) τ5))))) ∧ (r2 = (nI 0) → ∀ τ6 : PI, τ6 = up τ1 252 8 (τ1 257 2) → (Q ((-1000100) - (τ6 257 3)) τ6))))
set_option maxRecDepth 100000 in
set_option maxHeartbeats 4000000 in
theorem ct_X4_town {l : Launch} {X : XP} (σ : PI) (Q : Int32 → PI → Prop) (h : wp_X4_town   σ Q) : Ct l yX4_town cX4_town 1 (some .int) 6 X [.ref (X.1 252)] σ (qI Q) := by
  refine Ct_of (L := [some (.ref (X.1 252))]) (by decide) (Nat.le_of_ble_eq_true rfl) rfl (fun M hl cx => ?_)
  subst hl
  unfold wp_X4_town at h
  refine J_aload_n cx 0 dX4_town_0 rfl rfl ?_
  refine J_getR cx (j := 257) dX4_town_1 F_X4_26 (by decide) rfl rfl rfl ?_
  refine J_aload_n cx 0 dX4_town_4 rfl rfl ?_
  refine J_getR cx (j := (tc 1 0)) dX4_town_5 F_X4_41 (by decide) rfl rfl rfl ?_
  refine J_cV cx dX4_town_8 V_X4_101 (by decide) (by decide) rfl (ct_X1_read 1 (by decide)  _ _ h) rfl rfl (Nat.le_of_ble_eq_true rfl) (k_i (fun r2 τ1 h => ?_))
  refine J_if_ne cx (tgt := 36) dX4_town_11 (by decide) (fun q3 => ?_) (fun q3 => ?_)
  · replace h := h.1 q3
    refine J_aload_n cx 0 dX4_town_36 rfl rfl ?_
    refine J_getR cx (j := (tc 0 0)) dX4_town_37 F_X4_37 (by decide) rfl rfl rfl ?_
    refine J_aload_n cx 0 dX4_town_40 rfl rfl ?_
    refine J_getR cx (j := (tc 1 0)) dX4_town_41 F_X4_41 (by decide) rfl rfl rfl ?_
    refine J_cV cx dX4_town_44 V_X4_115 (by decide) (tc_lt (by decide) (by decide)) (kq_t0 (by decide)) (ct_X3_copyFrom 0 1 (by decide) (by decide)  _ _ h) rfl rfl (Nat.le_of_ble_eq_true rfl) (k_v (fun τ4 h => ?_))
    refine J_aload_n cx 0 dX4_town_47 rfl rfl ?_
    refine J_getR cx (j := 256) dX4_town_48 F_X4_33 (by decide) rfl rfl rfl ?_
    refine J_cV cx dX4_town_51 V_X4_119 (by decide) (by decide) rfl (ct_X0_forget    _ _ h) rfl rfl (Nat.le_of_ble_eq_true rfl) (k_v (fun τ5 h => ?_))
    refine J_aload_n cx 0 dX4_town_54 rfl rfl ?_
    refine J_getR cx (j := (tc 0 0)) dX4_town_55 F_X4_37 (by decide) rfl rfl rfl ?_
    refine J_getI cx dX4_town_58 F_X4_122 (tc_lt (by decide) (by decide)) (kq_t0 (by decide)) rfl ?_
    exact J_iret cx dX4_town_61 h
  · replace h := h.2 q3
    refine J_aload_n cx 0 dX4_town_14 rfl rfl ?_
    refine J_aload_n cx 0 dX4_town_15 rfl rfl ?_
    refine J_getR cx (j := 257) dX4_town_16 F_X4_26 (by decide) rfl rfl rfl ?_
    refine J_getI cx dX4_town_19 F_X4_105 (by decide) rfl rfl ?_
    refine J_putI cx dX4_town_22 (P_X4_108 _) (by decide) rfl rfl ?_
    refine J_nm (fun τ6 e_τ6 => ?_)
    replace h := h τ6 e_τ6
    refine J_ldc cx (v := (-1000100)) dX4_town_25 gw_313 ?_
    refine J_aload_n cx 0 dX4_town_27 rfl rfl ?_
    refine J_getR cx (j := 257) dX4_town_28 F_X4_26 (by decide) rfl rfl rfl ?_
    refine J_getI cx dX4_town_31 F_X4_112 (by decide) rfl rfl ?_
    refine J_isub cx dX4_town_34 ?_
    exact J_iret cx dX4_town_35 h
def wp_X4_fault (σ : PI) (Q : Int32 → PI → Prop) : Prop := Q (σ 252 8) σ
set_option maxRecDepth 100000 in
set_option maxHeartbeats 4000000 in
theorem ct_X4_fault {l : Launch} {X : XP} (σ : PI) (Q : Int32 → PI → Prop) (h : wp_X4_fault   σ Q) : Ct l yX4_fault cX4_fault 1 (some .int) 0 X [.ref (X.1 252)] σ (qI Q) := by
  refine Ct_of (L := [some (.ref (X.1 252))]) (by decide) (Nat.le_of_ble_eq_true rfl) rfl (fun M hl cx => ?_)
  subst hl
  unfold wp_X4_fault at h
  refine J_aload_n cx 0 dX4_fault_0 rfl rfl ?_
  refine J_getI cx dX4_fault_1 F_X4_108 (by decide) rfl rfl ?_
  exact J_iret cx dX4_fault_4 h
def wp_X4_undo (σ : PI) (Q : Int32 → PI → Prop) : Prop := wp_X0_takeBack 0 σ (fun r2 τ1 => ((r2 = (nI 0) → Q (-1000002) τ1) ∧ (¬ r2 = (nI 0) → Q (τ1 256 2) τ1)))
set_option maxRecDepth 100000 in
set_option maxHeartbeats 4000000 in
theorem ct_X4_undo {l : Launch} {X : XP} (σ : PI) (Q : Int32 → PI → Prop) (h : wp_X4_undo   σ Q) : Ct l yX4_undo cX4_undo 1 (some .int) 3 X [.ref (X.1 252)] σ (qI Q) := by
  refine Ct_of (L := [some (.ref (X.1 252))]) (by decide) (Nat.le_of_ble_eq_true rfl) rfl (fun M hl cx => ?_)
  subst hl
  unfold wp_X4_undo at h
  refine J_aload_n cx 0 dX4_undo_0 rfl rfl ?_
  refine J_getR cx (j := 256) dX4_undo_1 F_X4_33 (by decide) rfl rfl rfl ?_
  refine J_aload_n cx 0 dX4_undo_4 rfl rfl ?_
  refine J_getR cx (j := (tc 0 0)) dX4_undo_5 F_X4_37 (by decide) rfl rfl rfl ?_
  refine J_cV cx dX4_undo_8 V_X4_125 (by decide) (by decide) rfl (ct_X0_takeBack 0 (by decide)  _ _ h) rfl rfl (Nat.le_of_ble_eq_true rfl) (k_i (fun r2 τ1 h => ?_))
  refine J_if_eq cx (tgt := 24) dX4_undo_11 (by decide) (fun q3 => ?_) (fun q3 => ?_)
  · replace h := h.1 q3
    refine J_ldc cx (v := (-1000002)) dX4_undo_24 gw_336 ?_
    exact J_iret cx dX4_undo_26 h
  · replace h := h.2 q3
    refine J_aload_n cx 0 dX4_undo_14 rfl rfl ?_
    refine J_getR cx (j := 256) dX4_undo_15 F_X4_33 (by decide) rfl rfl rfl ?_
    refine J_getI cx dX4_undo_18 F_X4_128 (by decide) rfl rfl ?_
    refine J_goto cx (tgt := 26) dX4_undo_21 (by decide) ?_
    exact J_iret cx dX4_undo_26 h
def wp_X4_hasTown (σ : PI) (Q : Int32 → PI → Prop) : Prop := ((σ (tc 0 0) 8) ≤ (nI 0) → Q (nI 0) σ) ∧ (¬ (σ (tc 0 0) 8) ≤ (nI 0) → Q (nI 1) σ)
set_option maxRecDepth 100000 in
set_option maxHeartbeats 4000000 in
theorem ct_X4_hasTown {l : Launch} {X : XP} (σ : PI) (Q : Int32 → PI → Prop) (h : wp_X4_hasTown   σ Q) : Ct l yX4_hasTown cX4_hasTown 1 (some .boolean) 0 X [.ref (X.1 252)] σ (qI Q) := by
  refine Ct_of (L := [some (.ref (X.1 252))]) (by decide) (Nat.le_of_ble_eq_true rfl) rfl (fun M hl cx => ?_)
  subst hl
  unfold wp_X4_hasTown at h
  refine J_aload_n cx 0 dX4_hasTown_0 rfl rfl ?_
  refine J_getR cx (j := (tc 0 0)) dX4_hasTown_1 F_X4_37 (by decide) rfl rfl rfl ?_
  refine J_getI cx dX4_hasTown_4 F_X4_200 (tc_lt (by decide) (by decide)) (kq_t0 (by decide)) rfl ?_
  refine J_if_le cx (tgt := 14) dX4_hasTown_7 (by decide) (fun q1 => ?_) (fun q1 => ?_)
  · replace h := h.1 q1
    refine J_iconst cx dX4_hasTown_14 (by decide : _ = ((nI 0) : Int32)) ?_
    exact J_zret cx dX4_hasTown_15 (Or.inl rfl) h
  · replace h := h.2 q1
    refine J_iconst cx dX4_hasTown_10 (by decide : _ = ((nI 1) : Int32)) ?_
    refine J_goto cx (tgt := 15) dX4_hasTown_11 (by decide) ?_
    exact J_zret cx dX4_hasTown_15 (Or.inr rfl) h
def B_X4_days_43 (K43 : (Int32 × Int32 × PI → Prop)) (Q : Int32 → PI → Prop) (l1 : Int32) (l2 : Int32) (σ : PI) : Prop := (l1 ≤ l2 → wp_X3_feltByAll 0 σ (fun r10 τ9 => (Q r10 τ9))) ∧ (¬ l1 ≤ l2 → wp_X0_keep 0 σ (fun τ11 => (wp_X3_passDay 0 τ11 (fun r13 τ12 => (K43 (l1, (l2 + (nI 1)), τ12))))))
def w_X4_days_43 (Q : Int32 → PI → Prop) (l1 : Int32) (l2 : Int32) (σ : PI) : Prop := ∃ n, Lp (fun K a => B_X4_days_43   K Q a.1 a.2.1 a.2.2) n (l1, l2, σ)
set_option maxRecDepth 100000 in
set_option maxHeartbeats 4000000 in
theorem j_X4_days_43 {M : MC} {X : XP} {Q : Int32 → PI → Prop} (cx : Cx M X RX4 cX4_days 3 (some .int) 4) (l1 : Int32) (l2 : Int32) (σ : PI) (h : w_X4_days_43   Q l1 l2 σ) : J M X (QF M X (qI Q)) σ 43 [some (.ref (X.1 252)), some (.int l1), some (.int l2)] [] := by
  refine Lp_J (P := fun (a : Int32 × Int32 × PI) => J M X (QF M X (qI Q)) (a.2.2) 43 [some (.ref (X.1 252)), some (.int a.1), some (.int a.2.1)] []) (fun K43 hK a h => ?_) h
  obtain ⟨l1, l2, σ⟩ := a
  have hK43 : ∀ (l1 : Int32) (l2 : Int32) (σ : PI), K43 (l1, l2, σ) → J M X (QF M X (qI Q)) σ 43 [some (.ref (X.1 252)), some (.int l1), some (.int l2)] [] := fun l1 l2 σ q => hK _ q
  replace h : B_X4_days_43   K43 Q l1 l2 σ := h
  show J M X (QF M X (qI Q)) σ 43 [some (.ref (X.1 252)), some (.int l1), some (.int l2)] []
  unfold B_X4_days_43 at h
  refine J_iload_n cx 2 dX4_days_43 rfl rfl ?_
  refine J_iload_n cx 1 dX4_days_44 rfl rfl ?_
  refine J_icmp_ge cx (tgt := 73) dX4_days_45 (by decide) (fun q8 => ?_) (fun q8 => ?_)
  · replace h := h.1 q8
    refine J_aload_n cx 0 dX4_days_73 rfl rfl ?_
    refine J_getR cx (j := (tc 0 0)) dX4_days_74 F_X4_37 (by decide) rfl rfl rfl ?_
    refine J_cV cx dX4_days_77 V_X4_144 (by decide) (tc_lt (by decide) (by decide)) (kq_t0 (by decide)) (ct_X3_feltByAll 0 (by decide)  _ _ h) rfl rfl (Nat.le_of_ble_eq_true rfl) (k_i (fun r10 τ9 h => ?_))
    exact J_iret cx dX4_days_80 h
  · replace h := h.2 q8
    refine J_aload_n cx 0 dX4_days_48 rfl rfl ?_
    refine J_getR cx (j := 256) dX4_days_49 F_X4_33 (by decide) rfl rfl rfl ?_
    refine J_aload_n cx 0 dX4_days_52 rfl rfl ?_
    refine J_getR cx (j := (tc 0 0)) dX4_days_53 F_X4_37 (by decide) rfl rfl rfl ?_
    refine J_cV cx dX4_days_56 V_X4_137 (by decide) (by decide) rfl (ct_X0_keep 0 (by decide)  _ _ h) rfl rfl (Nat.le_of_ble_eq_true rfl) (k_v (fun τ11 h => ?_))
    refine J_aload_n cx 0 dX4_days_59 rfl rfl ?_
    refine J_getR cx (j := (tc 0 0)) dX4_days_60 F_X4_37 (by decide) rfl rfl rfl ?_
    refine J_cV cx dX4_days_63 V_X4_140 (by decide) (tc_lt (by decide) (by decide)) (kq_t0 (by decide)) (ct_X3_passDay 0 (by decide)  _ _ h) rfl rfl (Nat.le_of_ble_eq_true rfl) (k_i (fun r13 τ12 h => ?_))
    refine J_pop cx dX4_days_66 rfl ?_
    refine J_iinc cx dX4_days_67 rfl (by decide : _ = ((nI 1) : Int32)) (by decide) rfl rfl ?_
    refine J_goto cx (tgt := 43) dX4_days_70 (by decide) ?_
    exact hK43   _ _ _ h
def wp_X4_days (a0 : Int32) (σ : PI) (Q : Int32 → PI → Prop) : Prop := wp_X4_hasTown  σ (fun r2 τ1 => ((¬ r2 = (nI 0) → wp_X4_within a0 (nI 1) (nI 24) τ1 (fun r5 τ4 => ((¬ r5 = (nI 0) → (((τ4 (tc 0 0) 12) + a0) ≤ (nI 999) → w_X4_days_43   Q a0 (nI 0) τ4) ∧ (¬ ((τ4 (tc 0 0) 12) + a0) ≤ (nI 999) → Q (-1000003) τ4)) ∧ (r5 = (nI 0) → Q (-1000001) τ4)))) ∧ (r2 = (nI 0) → Q (-1000002) τ1)))
set_option maxRecDepth 100000 in
set_option maxHeartbeats 4000000 in
theorem ct_X4_days {l : Launch} {X : XP} (a0 : Int32) (σ : PI) (Q : Int32 → PI → Prop) (h : wp_X4_days  a0 σ Q) : Ct l yX4_days cX4_days 3 (some .int) 4 X [.ref (X.1 252), .int a0] σ (qI Q) := by
  refine Ct_of (L := [some (.ref (X.1 252)), some (.int a0), none]) (by decide) (Nat.le_of_ble_eq_true rfl) rfl (fun M hl cx => ?_)
  subst hl
  unfold wp_X4_days at h
  refine J_aload_n cx 0 dX4_days_0 rfl rfl ?_
  refine J_cV cx dX4_days_1 V_X4_130 (by decide) (by decide) rfl (ct_X4_hasTown    _ _ h) rfl rfl (Nat.le_of_ble_eq_true rfl) (k_i (fun r2 τ1 h => ?_))
  refine J_if_ne cx (tgt := 10) dX4_days_4 (by decide) (fun q3 => ?_) (fun q3 => ?_)
  · replace h := h.1 q3
    refine J_iload_n cx 1 dX4_days_10 rfl rfl ?_
    refine J_iconst cx dX4_days_11 (by decide : _ = ((nI 1) : Int32)) ?_
    refine J_bipush cx dX4_days_12 (by decide : _ = ((nI 24) : Int32)) ?_
    refine J_cS cx dX4_days_14 S_X4_52 (by decide) (ct_X4_within   _ _ _ _ _ h) rfl rfl (Nat.le_of_ble_eq_true rfl) (k_i (fun r5 τ4 h => ?_))
    refine J_if_ne cx (tgt := 23) dX4_days_17 (by decide) (fun q6 => ?_) (fun q6 => ?_)
    · replace h := h.1 q6
      refine J_aload_n cx 0 dX4_days_23 rfl rfl ?_
      refine J_getR cx (j := (tc 0 0)) dX4_days_24 F_X4_37 (by decide) rfl rfl rfl ?_
      refine J_getI cx dX4_days_27 F_X4_134 (tc_lt (by decide) (by decide)) (kq_t0 (by decide)) rfl ?_
      refine J_iload_n cx 1 dX4_days_30 rfl rfl ?_
      refine J_iadd cx dX4_days_31 ?_
      refine J_sipush cx dX4_days_32 (by decide : _ = ((nI 999) : Int32)) ?_
      refine J_icmp_le cx (tgt := 41) dX4_days_35 (by decide) (fun q7 => ?_) (fun q7 => ?_)
      · replace h := h.1 q7
        refine J_iconst cx dX4_days_41 (by decide : _ = ((nI 0) : Int32)) ?_
        refine J_istore_n cx 2 dX4_days_42 rfl (by decide) rfl rfl ?_
        exact j_X4_days_43     cx   _ _ _ h
      · replace h := h.2 q7
        refine J_ldc cx (v := (-1000003)) dX4_days_38 gw_257 ?_
        exact J_iret cx dX4_days_40 h
    · replace h := h.2 q6
      refine J_ldc cx (v := (-1000001)) dX4_days_20 gw_212 ?_
      exact J_iret cx dX4_days_22 h
  · replace h := h.2 q3
    refine J_ldc cx (v := (-1000002)) dX4_days_7 gw_336 ?_
    exact J_iret cx dX4_days_9 h
def wp_X4_isLeaver (a0 : Int32) (σ : PI) (Q : Int32 → PI → Prop) : Prop := wp_X4_within a0 (nI 0) ((σ (tc 0 0) 9) - (nI 1)) σ (fun r2 τ1 => (bz r2 ∧ Q r2 τ1))
set_option maxRecDepth 100000 in
set_option maxHeartbeats 4000000 in
theorem ct_X4_isLeaver {l : Launch} {X : XP} (a0 : Int32) (σ : PI) (Q : Int32 → PI → Prop) (h : wp_X4_isLeaver  a0 σ Q) : Ct l yX4_isLeaver cX4_isLeaver 2 (some .boolean) 1 X [.ref (X.1 252), .int a0] σ (qI Q) := by
  refine Ct_of (L := [some (.ref (X.1 252)), some (.int a0)]) (by decide) (Nat.le_of_ble_eq_true rfl) rfl (fun M hl cx => ?_)
  subst hl
  unfold wp_X4_isLeaver at h
  refine J_iload_n cx 1 dX4_isLeaver_0 rfl rfl ?_
  refine J_iconst cx dX4_isLeaver_1 (by decide : _ = ((nI 0) : Int32)) ?_
  refine J_aload_n cx 0 dX4_isLeaver_2 rfl rfl ?_
  refine J_getR cx (j := (tc 0 0)) dX4_isLeaver_3 F_X4_37 (by decide) rfl rfl rfl ?_
  refine J_getI cx dX4_isLeaver_6 F_X4_122 (tc_lt (by decide) (by decide)) (kq_t0 (by decide)) rfl ?_
  refine J_iconst cx dX4_isLeaver_9 (by decide : _ = ((nI 1) : Int32)) ?_
  refine J_isub cx dX4_isLeaver_10 ?_
  refine J_cS cx dX4_isLeaver_11 S_X4_52 (by decide) (ct_X4_within   _ _ _ _ _ h) rfl rfl (Nat.le_of_ble_eq_true rfl) (k_i (fun r2 τ1 h => ?_))
  exact J_zret cx dX4_isLeaver_14 h.1 h.2
def wp_X4_isMan (a0 : Int32) (σ : PI) (Q : Int32 → PI → Prop) : Prop := wp_X4_within a0 (nI 0) ((σ (tc 0 0) 8) - (nI 1)) σ (fun r2 τ1 => (bz r2 ∧ Q r2 τ1))
set_option maxRecDepth 100000 in
set_option maxHeartbeats 4000000 in
theorem ct_X4_isMan {l : Launch} {X : XP} (a0 : Int32) (σ : PI) (Q : Int32 → PI → Prop) (h : wp_X4_isMan  a0 σ Q) : Ct l yX4_isMan cX4_isMan 2 (some .boolean) 1 X [.ref (X.1 252), .int a0] σ (qI Q) := by
  refine Ct_of (L := [some (.ref (X.1 252)), some (.int a0)]) (by decide) (Nat.le_of_ble_eq_true rfl) rfl (fun M hl cx => ?_)
  subst hl
  unfold wp_X4_isMan at h
  refine J_iload_n cx 1 dX4_isMan_0 rfl rfl ?_
  refine J_iconst cx dX4_isMan_1 (by decide : _ = ((nI 0) : Int32)) ?_
  refine J_aload_n cx 0 dX4_isMan_2 rfl rfl ?_
  refine J_getR cx (j := (tc 0 0)) dX4_isMan_3 F_X4_37 (by decide) rfl rfl rfl ?_
  refine J_getI cx dX4_isMan_6 F_X4_200 (tc_lt (by decide) (by decide)) (kq_t0 (by decide)) rfl ?_
  refine J_iconst cx dX4_isMan_9 (by decide : _ = ((nI 1) : Int32)) ?_
  refine J_isub cx dX4_isMan_10 ?_
  refine J_cS cx dX4_isMan_11 S_X4_52 (by decide) (ct_X4_within   _ _ _ _ _ h) rfl rfl (Nat.le_of_ble_eq_true rfl) (k_i (fun r2 τ1 h => ?_))
  exact J_zret cx dX4_isMan_14 h.1 h.2
def wp_X4_send (a0 : Int32) (a1 : Int32) (σ : PI) (Q : Int32 → PI → Prop) : Prop := wp_X4_isLeaver a0 σ (fun r2 τ1 => ((r2 = (nI 0) → Q (-1000001) τ1) ∧ (¬ r2 = (nI 0) → wp_X4_isMan a1 τ1 (fun r5 τ4 => ((¬ r5 = (nI 0) → vp_in a0 6 ∧ (∀ x8 : Int32, x8 = (τ4 (tc 0 4) (a0 : Int32).toNatClampNeg) → (wp_X0_keep 0 τ4 (fun τ9 => (wp_X3_sendTo 0 a0 a1 τ9 (fun τ10 => (Q x8 τ10))))))) ∧ (r5 = (nI 0) → Q (-1000001) τ4))))))
set_option maxRecDepth 100000 in
set_option maxHeartbeats 4000000 in
theorem ct_X4_send {l : Launch} {X : XP} (a0 : Int32) (a1 : Int32) (σ : PI) (Q : Int32 → PI → Prop) (h : wp_X4_send  a0 a1 σ Q) : Ct l yX4_send cX4_send 4 (some .int) 3 X [.ref (X.1 252), .int a0, .int a1] σ (qI Q) := by
  refine Ct_of (L := [some (.ref (X.1 252)), some (.int a0), some (.int a1), none]) (by decide) (Nat.le_of_ble_eq_true rfl) rfl (fun M hl cx => ?_)
  subst hl
  unfold wp_X4_send at h
  refine J_aload_n cx 0 dX4_send_0 rfl rfl ?_
  refine J_iload_n cx 1 dX4_send_1 rfl rfl ?_
  refine J_cV cx dX4_send_2 V_X4_147 (by decide) (by decide) rfl (ct_X4_isLeaver   _ _ _ h) rfl rfl (Nat.le_of_ble_eq_true rfl) (k_i (fun r2 τ1 h => ?_))
  refine J_if_eq cx (tgt := 16) dX4_send_5 (by decide) (fun q3 => ?_) (fun q3 => ?_)
  · replace h := h.1 q3
    refine J_ldc cx (v := (-1000001)) dX4_send_16 gw_212 ?_
    exact J_iret cx dX4_send_18 h
  · replace h := h.2 q3
    refine J_aload_n cx 0 dX4_send_8 rfl rfl ?_
    refine J_iload_n cx 2 dX4_send_9 rfl rfl ?_
    refine J_cV cx dX4_send_10 V_X4_150 (by decide) (by decide) rfl (ct_X4_isMan   _ _ _ h) rfl rfl (Nat.le_of_ble_eq_true rfl) (k_i (fun r5 τ4 h => ?_))
    refine J_if_ne cx (tgt := 19) dX4_send_13 (by decide) (fun q6 => ?_) (fun q6 => ?_)
    · replace h := h.1 q6
      refine J_aload_n cx 0 dX4_send_19 rfl rfl ?_
      refine J_getR cx (j := (tc 0 0)) dX4_send_20 F_X4_37 (by decide) rfl rfl rfl ?_
      refine J_getR cx (j := (tc 0 4)) dX4_send_23 F_X4_153 (tc_lt (by decide) (by decide)) (kq_t0 (by decide)) rfl (rq_t (by decide)) ?_
      refine J_iload_n cx 1 dX4_send_26 rfl rfl ?_
      obtain ⟨s7, h⟩ := h
      refine J_iald cx dX4_send_27 (tc_lt (by decide) (by decide)) (kq_t (by decide) (by decide)) s7 ?_
      refine J_topi (fun x8 e_x8 => ?_)
      replace h := h x8 e_x8
      refine J_istore_n cx 3 dX4_send_28 rfl (by decide) rfl rfl ?_
      refine J_aload_n cx 0 dX4_send_29 rfl rfl ?_
      refine J_getR cx (j := 256) dX4_send_30 F_X4_33 (by decide) rfl rfl rfl ?_
      refine J_aload_n cx 0 dX4_send_33 rfl rfl ?_
      refine J_getR cx (j := (tc 0 0)) dX4_send_34 F_X4_37 (by decide) rfl rfl rfl ?_
      refine J_cV cx dX4_send_37 V_X4_137 (by decide) (by decide) rfl (ct_X0_keep 0 (by decide)  _ _ h) rfl rfl (Nat.le_of_ble_eq_true rfl) (k_v (fun τ9 h => ?_))
      refine J_aload_n cx 0 dX4_send_40 rfl rfl ?_
      refine J_getR cx (j := (tc 0 0)) dX4_send_41 F_X4_37 (by decide) rfl rfl rfl ?_
      refine J_iload_n cx 1 dX4_send_44 rfl rfl ?_
      refine J_iload_n cx 2 dX4_send_45 rfl rfl ?_
      refine J_cV cx dX4_send_46 V_X4_156 (by decide) (tc_lt (by decide) (by decide)) (kq_t0 (by decide)) (ct_X3_sendTo 0 (by decide) _ _ _ _ h) rfl rfl (Nat.le_of_ble_eq_true rfl) (k_v (fun τ10 h => ?_))
      refine J_iload_n cx 3 dX4_send_49 rfl rfl ?_
      exact J_iret cx dX4_send_50 h
    · replace h := h.2 q6
      refine J_ldc cx (v := (-1000001)) dX4_send_16 gw_212 ?_
      exact J_iret cx dX4_send_18 h
def wp_X4_weight (a0 : Int32) (a1 : Int32) (σ : PI) (Q : Int32 → PI → Prop) : Prop := wp_X4_isLeaver a0 σ (fun r2 τ1 => ((r2 = (nI 0) → Q (-1000001) τ1) ∧ (¬ r2 = (nI 0) → wp_X4_within a1 (nI 1) (nI 9) τ1 (fun r5 τ4 => ((¬ r5 = (nI 0) → vp_in a0 6 ∧ (∀ x8 : Int32, x8 = (τ4 (tc 0 5) (a0 : Int32).toNatClampNeg) → (wp_X0_keep 0 τ4 (fun τ9 => (vp_in a0 6 ∧ (∀ τ11 : PI, τ11 = up τ9 (tc 0 5) (a0 : Int32).toNatClampNeg a1 → (Q x8 τ11))))))) ∧ (r5 = (nI 0) → Q (-1000001) τ4))))))
set_option maxRecDepth 100000 in
set_option maxHeartbeats 4000000 in
theorem ct_X4_weight {l : Launch} {X : XP} (a0 : Int32) (a1 : Int32) (σ : PI) (Q : Int32 → PI → Prop) (h : wp_X4_weight  a0 a1 σ Q) : Ct l yX4_weight cX4_weight 4 (some .int) 3 X [.ref (X.1 252), .int a0, .int a1] σ (qI Q) := by
  refine Ct_of (L := [some (.ref (X.1 252)), some (.int a0), some (.int a1), none]) (by decide) (Nat.le_of_ble_eq_true rfl) rfl (fun M hl cx => ?_)
  subst hl
  unfold wp_X4_weight at h
  refine J_aload_n cx 0 dX4_weight_0 rfl rfl ?_
  refine J_iload_n cx 1 dX4_weight_1 rfl rfl ?_
  refine J_cV cx dX4_weight_2 V_X4_147 (by decide) (by decide) rfl (ct_X4_isLeaver   _ _ _ h) rfl rfl (Nat.le_of_ble_eq_true rfl) (k_i (fun r2 τ1 h => ?_))
  refine J_if_eq cx (tgt := 18) dX4_weight_5 (by decide) (fun q3 => ?_) (fun q3 => ?_)
  · replace h := h.1 q3
    refine J_ldc cx (v := (-1000001)) dX4_weight_18 gw_212 ?_
    exact J_iret cx dX4_weight_20 h
  · replace h := h.2 q3
    refine J_iload_n cx 2 dX4_weight_8 rfl rfl ?_
    refine J_iconst cx dX4_weight_9 (by decide : _ = ((nI 1) : Int32)) ?_
    refine J_bipush cx dX4_weight_10 (by decide : _ = ((nI 9) : Int32)) ?_
    refine J_cS cx dX4_weight_12 S_X4_52 (by decide) (ct_X4_within   _ _ _ _ _ h) rfl rfl (Nat.le_of_ble_eq_true rfl) (k_i (fun r5 τ4 h => ?_))
    refine J_if_ne cx (tgt := 21) dX4_weight_15 (by decide) (fun q6 => ?_) (fun q6 => ?_)
    · replace h := h.1 q6
      refine J_aload_n cx 0 dX4_weight_21 rfl rfl ?_
      refine J_getR cx (j := (tc 0 0)) dX4_weight_22 F_X4_37 (by decide) rfl rfl rfl ?_
      refine J_getR cx (j := (tc 0 5)) dX4_weight_25 F_X4_159 (tc_lt (by decide) (by decide)) (kq_t0 (by decide)) rfl (rq_t (by decide)) ?_
      refine J_iload_n cx 1 dX4_weight_28 rfl rfl ?_
      obtain ⟨s7, h⟩ := h
      refine J_iald cx dX4_weight_29 (tc_lt (by decide) (by decide)) (kq_t (by decide) (by decide)) s7 ?_
      refine J_topi (fun x8 e_x8 => ?_)
      replace h := h x8 e_x8
      refine J_istore_n cx 3 dX4_weight_30 rfl (by decide) rfl rfl ?_
      refine J_aload_n cx 0 dX4_weight_31 rfl rfl ?_
      refine J_getR cx (j := 256) dX4_weight_32 F_X4_33 (by decide) rfl rfl rfl ?_
      refine J_aload_n cx 0 dX4_weight_35 rfl rfl ?_
      refine J_getR cx (j := (tc 0 0)) dX4_weight_36 F_X4_37 (by decide) rfl rfl rfl ?_
      refine J_cV cx dX4_weight_39 V_X4_137 (by decide) (by decide) rfl (ct_X0_keep 0 (by decide)  _ _ h) rfl rfl (Nat.le_of_ble_eq_true rfl) (k_v (fun τ9 h => ?_))
      refine J_aload_n cx 0 dX4_weight_42 rfl rfl ?_
      refine J_getR cx (j := (tc 0 0)) dX4_weight_43 F_X4_37 (by decide) rfl rfl rfl ?_
      refine J_getR cx (j := (tc 0 5)) dX4_weight_46 F_X4_159 (tc_lt (by decide) (by decide)) (kq_t0 (by decide)) rfl (rq_t (by decide)) ?_
      refine J_iload_n cx 1 dX4_weight_49 rfl rfl ?_
      refine J_iload_n cx 2 dX4_weight_50 rfl rfl ?_
      obtain ⟨s10, h⟩ := h
      refine J_iast cx dX4_weight_51 (tc_lt (by decide) (by decide)) (kq_t (by decide) (by decide)) s10 ?_
      refine J_nm (fun τ11 e_τ11 => ?_)
      replace h := h τ11 e_τ11
      refine J_iload_n cx 3 dX4_weight_52 rfl rfl ?_
      exact J_iret cx dX4_weight_53 h
    · replace h := h.2 q6
      refine J_ldc cx (v := (-1000001)) dX4_weight_18 gw_212 ?_
      exact J_iret cx dX4_weight_20 h
def w_X4_isBit_9 (Q : Int32 → PI → Prop) (σ : PI) : Prop := Q (nI 1) σ
set_option maxRecDepth 100000 in
set_option maxHeartbeats 4000000 in
theorem j_X4_isBit_9 {M : MC} {X : XP} {Q : Int32 → PI → Prop} (cx : Cx M X RX4 cX4_isBit 1 (some .boolean) 0) (σ : PI) (h : w_X4_isBit_9   Q  σ) : J M X (QF M X (qI Q)) σ 9 [none] [] := by
  unfold w_X4_isBit_9 at h
  refine J_iconst cx dX4_isBit_9 (by decide : _ = ((nI 1) : Int32)) ?_
  refine J_goto cx (tgt := 14) dX4_isBit_10 (by decide) ?_
  exact J_zret cx dX4_isBit_14 (Or.inr rfl) h
def wp_X4_isBit (a0 : Int32) (σ : PI) (Q : Int32 → PI → Prop) : Prop := (a0 = (nI 0) → w_X4_isBit_9   Q  σ) ∧ (¬ a0 = (nI 0) → (¬ a0 = (nI 1) → Q (nI 0) σ) ∧ (a0 = (nI 1) → w_X4_isBit_9   Q  σ))
set_option maxRecDepth 100000 in
set_option maxHeartbeats 4000000 in
theorem ct_X4_isBit {l : Launch} {X : XP} (a0 : Int32) (σ : PI) (Q : Int32 → PI → Prop) (h : wp_X4_isBit  a0 σ Q) : Ct l yX4_isBit cX4_isBit 1 (some .boolean) 0 X [.int a0] σ (qI Q) := by
  refine Ct_of (L := [some (.int a0)]) (by decide) (Nat.le_of_ble_eq_true rfl) rfl (fun M hl cx => ?_)
  subst hl
  unfold wp_X4_isBit at h
  refine J_iload_n cx 0 dX4_isBit_0 rfl rfl ?_
  refine J_if_eq cx (tgt := 9) dX4_isBit_1 (by decide) (fun q1 => ?_) (fun q1 => ?_)
  · replace h := h.1 q1
    refine J_fg 0 rfl ?_
    exact j_X4_isBit_9     cx   _ h
  · replace h := h.2 q1
    refine J_iload_n cx 0 dX4_isBit_4 rfl rfl ?_
    refine J_iconst cx dX4_isBit_5 (by decide : _ = ((nI 1) : Int32)) ?_
    refine J_icmp_ne cx (tgt := 13) dX4_isBit_6 (by decide) (fun q2 => ?_) (fun q2 => ?_)
    · replace h := h.1 q2
      refine J_iconst cx dX4_isBit_13 (by decide : _ = ((nI 0) : Int32)) ?_
      exact J_zret cx dX4_isBit_14 (Or.inl rfl) h
    · replace h := h.2 q2
      refine J_fg 0 rfl ?_
      exact j_X4_isBit_9     cx   _ h
def wp_X4_bar (a0 : Int32) (a1 : Int32) (σ : PI) (Q : Int32 → PI → Prop) : Prop := wp_X4_isMan a0 σ (fun r2 τ1 => ((r2 = (nI 0) → Q (-1000001) τ1) ∧ (¬ r2 = (nI 0) → wp_X4_isBit a1 τ1 (fun r5 τ4 => ((¬ r5 = (nI 0) → wp_X4_bit (τ4 (tc 0 0) 13) a0 τ4 (fun r8 τ7 => ((¬ r8 = a1 → wp_X0_keep 0 τ7 (fun τ10 => (∀ τ11 : PI, τ11 = up τ10 (tc 0 0) 13 ((τ10 (tc 0 0) 13) ^^^ ((nI 1) <<< (a0 &&& 31))) → (Q (τ11 (tc 0 0) 13) τ11)))) ∧ (r8 = a1 → Q (-1000002) τ7)))) ∧ (r5 = (nI 0) → Q (-1000001) τ4))))))
set_option maxRecDepth 100000 in
set_option maxHeartbeats 4000000 in
theorem ct_X4_bar {l : Launch} {X : XP} (a0 : Int32) (a1 : Int32) (σ : PI) (Q : Int32 → PI → Prop) (h : wp_X4_bar  a0 a1 σ Q) : Ct l yX4_bar cX4_bar 3 (some .int) 3 X [.ref (X.1 252), .int a0, .int a1] σ (qI Q) := by
  refine Ct_of (L := [some (.ref (X.1 252)), some (.int a0), some (.int a1)]) (by decide) (Nat.le_of_ble_eq_true rfl) rfl (fun M hl cx => ?_)
  subst hl
  unfold wp_X4_bar at h
  refine J_aload_n cx 0 dX4_bar_0 rfl rfl ?_
  refine J_iload_n cx 1 dX4_bar_1 rfl rfl ?_
  refine J_cV cx dX4_bar_2 V_X4_150 (by decide) (by decide) rfl (ct_X4_isMan   _ _ _ h) rfl rfl (Nat.le_of_ble_eq_true rfl) (k_i (fun r2 τ1 h => ?_))
  refine J_if_eq cx (tgt := 15) dX4_bar_5 (by decide) (fun q3 => ?_) (fun q3 => ?_)
  · replace h := h.1 q3
    refine J_ldc cx (v := (-1000001)) dX4_bar_15 gw_212 ?_
    exact J_iret cx dX4_bar_17 h
  · replace h := h.2 q3
    refine J_iload_n cx 2 dX4_bar_8 rfl rfl ?_
    refine J_cS cx dX4_bar_9 S_X4_162 (by decide) (ct_X4_isBit   _ _ _ h) rfl rfl (Nat.le_of_ble_eq_true rfl) (k_i (fun r5 τ4 h => ?_))
    refine J_if_ne cx (tgt := 18) dX4_bar_12 (by decide) (fun q6 => ?_) (fun q6 => ?_)
    · replace h := h.1 q6
      refine J_aload_n cx 0 dX4_bar_18 rfl rfl ?_
      refine J_getR cx (j := (tc 0 0)) dX4_bar_19 F_X4_37 (by decide) rfl rfl rfl ?_
      refine J_getI cx dX4_bar_22 F_X4_165 (tc_lt (by decide) (by decide)) (kq_t0 (by decide)) rfl ?_
      refine J_iload_n cx 1 dX4_bar_25 rfl rfl ?_
      refine J_cS cx dX4_bar_26 S_X4_168 (by decide) (ct_X4_bit   _ _ _ _ h) rfl rfl (Nat.le_of_ble_eq_true rfl) (k_i (fun r8 τ7 h => ?_))
      refine J_iload_n cx 2 dX4_bar_29 rfl rfl ?_
      refine J_icmp_ne cx (tgt := 36) dX4_bar_30 (by decide) (fun q9 => ?_) (fun q9 => ?_)
      · replace h := h.1 q9
        refine J_aload_n cx 0 dX4_bar_36 rfl rfl ?_
        refine J_getR cx (j := 256) dX4_bar_37 F_X4_33 (by decide) rfl rfl rfl ?_
        refine J_aload_n cx 0 dX4_bar_40 rfl rfl ?_
        refine J_getR cx (j := (tc 0 0)) dX4_bar_41 F_X4_37 (by decide) rfl rfl rfl ?_
        refine J_cV cx dX4_bar_44 V_X4_137 (by decide) (by decide) rfl (ct_X0_keep 0 (by decide)  _ _ h) rfl rfl (Nat.le_of_ble_eq_true rfl) (k_v (fun τ10 h => ?_))
        refine J_aload_n cx 0 dX4_bar_47 rfl rfl ?_
        refine J_getR cx (j := (tc 0 0)) dX4_bar_48 F_X4_37 (by decide) rfl rfl rfl ?_
        refine J_dup cx dX4_bar_51 rfl ?_
        refine J_getI cx dX4_bar_52 F_X4_165 (tc_lt (by decide) (by decide)) (kq_t0 (by decide)) rfl ?_
        refine J_iconst cx dX4_bar_55 (by decide : _ = ((nI 1) : Int32)) ?_
        refine J_iload_n cx 1 dX4_bar_56 rfl rfl ?_
        refine J_ishl cx dX4_bar_57 ?_
        refine J_ixor cx dX4_bar_58 ?_
        refine J_putI cx dX4_bar_59 (P_X4_165 _) (tc_lt (by decide) (by decide)) (kq_t0 (by decide)) rfl ?_
        refine J_nm (fun τ11 e_τ11 => ?_)
        replace h := h τ11 e_τ11
        refine J_aload_n cx 0 dX4_bar_62 rfl rfl ?_
        refine J_getR cx (j := (tc 0 0)) dX4_bar_63 F_X4_37 (by decide) rfl rfl rfl ?_
        refine J_getI cx dX4_bar_66 F_X4_165 (tc_lt (by decide) (by decide)) (kq_t0 (by decide)) rfl ?_
        exact J_iret cx dX4_bar_69 h
      · replace h := h.2 q9
        refine J_ldc cx (v := (-1000002)) dX4_bar_33 gw_336 ?_
        exact J_iret cx dX4_bar_35 h
    · replace h := h.2 q6
      refine J_ldc cx (v := (-1000001)) dX4_bar_15 gw_212 ?_
      exact J_iret cx dX4_bar_17 h
def wp_X4_patience (a0 : Int32) (a1 : Int32) (σ : PI) (Q : Int32 → PI → Prop) : Prop := wp_X4_isMan a0 σ (fun r2 τ1 => ((r2 = (nI 0) → Q (-1000001) τ1) ∧ (¬ r2 = (nI 0) → wp_X4_within a1 (nI 0) (nI 9) τ1 (fun r5 τ4 => ((¬ r5 = (nI 0) → vp_in a0 5 ∧ (∀ x8 : Int32, x8 = (τ4 (tc 0 2) (a0 : Int32).toNatClampNeg) → (wp_X0_keep 0 τ4 (fun τ9 => (vp_in a0 5 ∧ (∀ τ11 : PI, τ11 = up τ9 (tc 0 2) (a0 : Int32).toNatClampNeg a1 → (Q x8 τ11))))))) ∧ (r5 = (nI 0) → Q (-1000001) τ4))))))
set_option maxRecDepth 100000 in
set_option maxHeartbeats 4000000 in
theorem ct_X4_patience {l : Launch} {X : XP} (a0 : Int32) (a1 : Int32) (σ : PI) (Q : Int32 → PI → Prop) (h : wp_X4_patience  a0 a1 σ Q) : Ct l yX4_patience cX4_patience 4 (some .int) 3 X [.ref (X.1 252), .int a0, .int a1] σ (qI Q) := by
  refine Ct_of (L := [some (.ref (X.1 252)), some (.int a0), some (.int a1), none]) (by decide) (Nat.le_of_ble_eq_true rfl) rfl (fun M hl cx => ?_)
  subst hl
  unfold wp_X4_patience at h
  refine J_aload_n cx 0 dX4_patience_0 rfl rfl ?_
  refine J_iload_n cx 1 dX4_patience_1 rfl rfl ?_
  refine J_cV cx dX4_patience_2 V_X4_150 (by decide) (by decide) rfl (ct_X4_isMan   _ _ _ h) rfl rfl (Nat.le_of_ble_eq_true rfl) (k_i (fun r2 τ1 h => ?_))
  refine J_if_eq cx (tgt := 18) dX4_patience_5 (by decide) (fun q3 => ?_) (fun q3 => ?_)
  · replace h := h.1 q3
    refine J_ldc cx (v := (-1000001)) dX4_patience_18 gw_212 ?_
    exact J_iret cx dX4_patience_20 h
  · replace h := h.2 q3
    refine J_iload_n cx 2 dX4_patience_8 rfl rfl ?_
    refine J_iconst cx dX4_patience_9 (by decide : _ = ((nI 0) : Int32)) ?_
    refine J_bipush cx dX4_patience_10 (by decide : _ = ((nI 9) : Int32)) ?_
    refine J_cS cx dX4_patience_12 S_X4_52 (by decide) (ct_X4_within   _ _ _ _ _ h) rfl rfl (Nat.le_of_ble_eq_true rfl) (k_i (fun r5 τ4 h => ?_))
    refine J_if_ne cx (tgt := 21) dX4_patience_15 (by decide) (fun q6 => ?_) (fun q6 => ?_)
    · replace h := h.1 q6
      refine J_aload_n cx 0 dX4_patience_21 rfl rfl ?_
      refine J_getR cx (j := (tc 0 0)) dX4_patience_22 F_X4_37 (by decide) rfl rfl rfl ?_
      refine J_getR cx (j := (tc 0 2)) dX4_patience_25 F_X4_171 (tc_lt (by decide) (by decide)) (kq_t0 (by decide)) rfl (rq_t (by decide)) ?_
      refine J_iload_n cx 1 dX4_patience_28 rfl rfl ?_
      obtain ⟨s7, h⟩ := h
      refine J_iald cx dX4_patience_29 (tc_lt (by decide) (by decide)) (kq_t (by decide) (by decide)) s7 ?_
      refine J_topi (fun x8 e_x8 => ?_)
      replace h := h x8 e_x8
      refine J_istore_n cx 3 dX4_patience_30 rfl (by decide) rfl rfl ?_
      refine J_aload_n cx 0 dX4_patience_31 rfl rfl ?_
      refine J_getR cx (j := 256) dX4_patience_32 F_X4_33 (by decide) rfl rfl rfl ?_
      refine J_aload_n cx 0 dX4_patience_35 rfl rfl ?_
      refine J_getR cx (j := (tc 0 0)) dX4_patience_36 F_X4_37 (by decide) rfl rfl rfl ?_
      refine J_cV cx dX4_patience_39 V_X4_137 (by decide) (by decide) rfl (ct_X0_keep 0 (by decide)  _ _ h) rfl rfl (Nat.le_of_ble_eq_true rfl) (k_v (fun τ9 h => ?_))
      refine J_aload_n cx 0 dX4_patience_42 rfl rfl ?_
      refine J_getR cx (j := (tc 0 0)) dX4_patience_43 F_X4_37 (by decide) rfl rfl rfl ?_
      refine J_getR cx (j := (tc 0 2)) dX4_patience_46 F_X4_171 (tc_lt (by decide) (by decide)) (kq_t0 (by decide)) rfl (rq_t (by decide)) ?_
      refine J_iload_n cx 1 dX4_patience_49 rfl rfl ?_
      refine J_iload_n cx 2 dX4_patience_50 rfl rfl ?_
      obtain ⟨s10, h⟩ := h
      refine J_iast cx dX4_patience_51 (tc_lt (by decide) (by decide)) (kq_t (by decide) (by decide)) s10 ?_
      refine J_nm (fun τ11 e_τ11 => ?_)
      replace h := h τ11 e_τ11
      refine J_iload_n cx 3 dX4_patience_52 rfl rfl ?_
      exact J_iret cx dX4_patience_53 h
    · replace h := h.2 q6
      refine J_ldc cx (v := (-1000001)) dX4_patience_18 gw_212 ?_
      exact J_iret cx dX4_patience_20 h
def wp_X4_leaver (a0 : Int32) (a1 : Int32) (σ : PI) (Q : Int32 → PI → Prop) : Prop := wp_X4_isLeaver a0 σ (fun r2 τ1 => ((¬ r2 = (nI 0) → (a1 = (nI 0) → vp_in a0 6 ∧ (Q (τ1 (tc 0 4) (a0 : Int32).toNatClampNeg) τ1)) ∧ (a1 = (nI 1) → vp_in a0 6 ∧ (Q (τ1 (tc 0 5) (a0 : Int32).toNatClampNeg) τ1)) ∧ (a1 = (nI 2) → vp_in a0 6 ∧ (Q (τ1 (tc 0 6) (a0 : Int32).toNatClampNeg) τ1)) ∧ (a1 = (nI 3) → wp_X3_houseToday 0 a0 τ1 (fun r12 τ11 => (Q r12 τ11))) ∧ (a1 = (nI 4) → wp_X3_makesToday 0 a0 τ1 (fun r15 τ14 => (Q r15 τ14))) ∧ (a1 = (nI 5) → wp_X3_houseToday 0 a0 τ1 (fun r18 τ17 => (wp_X3_timesAway 0 a0 r18 τ17 (fun r20 τ19 => (Q r20 τ19))))) ∧ ((a1 : Int32).toInt < 0 ∨ 5 < (a1 : Int32).toInt → Q (-1000001) τ1)) ∧ (r2 = (nI 0) → Q (-1000001) τ1)))
set_option maxRecDepth 100000 in
set_option maxHeartbeats 4000000 in
theorem ct_X4_leaver {l : Launch} {X : XP} (a0 : Int32) (a1 : Int32) (σ : PI) (Q : Int32 → PI → Prop) (h : wp_X4_leaver  a0 a1 σ Q) : Ct l yX4_leaver cX4_leaver 3 (some .int) 2 X [.ref (X.1 252), .int a0, .int a1] σ (qI Q) := by
  refine Ct_of (L := [some (.ref (X.1 252)), some (.int a0), some (.int a1)]) (by decide) (Nat.le_of_ble_eq_true rfl) rfl (fun M hl cx => ?_)
  subst hl
  unfold wp_X4_leaver at h
  refine J_aload_n cx 0 dX4_leaver_0 rfl rfl ?_
  refine J_iload_n cx 1 dX4_leaver_1 rfl rfl ?_
  refine J_cV cx dX4_leaver_2 V_X4_147 (by decide) (by decide) rfl (ct_X4_isLeaver   _ _ _ h) rfl rfl (Nat.le_of_ble_eq_true rfl) (k_i (fun r2 τ1 h => ?_))
  refine J_if_ne cx (tgt := 11) dX4_leaver_5 (by decide) (fun q3 => ?_) (fun q3 => ?_)
  · replace h := h.1 q3
    refine J_iload_n cx 2 dX4_leaver_11 rfl rfl ?_
    by_cases q4 : a1 = (nI 0)
    · refine J_tsI cx (tgt := 52) (nI 0) q4 dX4_leaver_12 (by decide) (by decide) rfl (by decide) ?_
      replace h := h.1 q4
      refine J_aload_n cx 0 dX4_leaver_52 rfl rfl ?_
      refine J_getR cx (j := (tc 0 0)) dX4_leaver_53 F_X4_37 (by decide) rfl rfl rfl ?_
      refine J_getR cx (j := (tc 0 4)) dX4_leaver_56 F_X4_153 (tc_lt (by decide) (by decide)) (kq_t0 (by decide)) rfl (rq_t (by decide)) ?_
      refine J_iload_n cx 1 dX4_leaver_59 rfl rfl ?_
      obtain ⟨s5, h⟩ := h
      refine J_iald cx dX4_leaver_60 (tc_lt (by decide) (by decide)) (kq_t (by decide) (by decide)) s5 ?_
      exact J_iret cx dX4_leaver_61 h
    by_cases q6 : a1 = (nI 1)
    · refine J_tsI cx (tgt := 62) (nI 1) q6 dX4_leaver_12 (by decide) (by decide) rfl (by decide) ?_
      replace h := h.2.1 q6
      refine J_aload_n cx 0 dX4_leaver_62 rfl rfl ?_
      refine J_getR cx (j := (tc 0 0)) dX4_leaver_63 F_X4_37 (by decide) rfl rfl rfl ?_
      refine J_getR cx (j := (tc 0 5)) dX4_leaver_66 F_X4_159 (tc_lt (by decide) (by decide)) (kq_t0 (by decide)) rfl (rq_t (by decide)) ?_
      refine J_iload_n cx 1 dX4_leaver_69 rfl rfl ?_
      obtain ⟨s7, h⟩ := h
      refine J_iald cx dX4_leaver_70 (tc_lt (by decide) (by decide)) (kq_t (by decide) (by decide)) s7 ?_
      exact J_iret cx dX4_leaver_71 h
    by_cases q8 : a1 = (nI 2)
    · refine J_tsI cx (tgt := 72) (nI 2) q8 dX4_leaver_12 (by decide) (by decide) rfl (by decide) ?_
      replace h := h.2.2.1 q8
      refine J_aload_n cx 0 dX4_leaver_72 rfl rfl ?_
      refine J_getR cx (j := (tc 0 0)) dX4_leaver_73 F_X4_37 (by decide) rfl rfl rfl ?_
      refine J_getR cx (j := (tc 0 6)) dX4_leaver_76 F_X4_174 (tc_lt (by decide) (by decide)) (kq_t0 (by decide)) rfl (rq_t (by decide)) ?_
      refine J_iload_n cx 1 dX4_leaver_79 rfl rfl ?_
      obtain ⟨s9, h⟩ := h
      refine J_iald cx dX4_leaver_80 (tc_lt (by decide) (by decide)) (kq_t (by decide) (by decide)) s9 ?_
      exact J_iret cx dX4_leaver_81 h
    by_cases q10 : a1 = (nI 3)
    · refine J_tsI cx (tgt := 82) (nI 3) q10 dX4_leaver_12 (by decide) (by decide) rfl (by decide) ?_
      replace h := h.2.2.2.1 q10
      refine J_aload_n cx 0 dX4_leaver_82 rfl rfl ?_
      refine J_getR cx (j := (tc 0 0)) dX4_leaver_83 F_X4_37 (by decide) rfl rfl rfl ?_
      refine J_iload_n cx 1 dX4_leaver_86 rfl rfl ?_
      refine J_cV cx dX4_leaver_87 V_X4_177 (by decide) (tc_lt (by decide) (by decide)) (kq_t0 (by decide)) (ct_X3_houseToday 0 (by decide) _ _ _ h) rfl rfl (Nat.le_of_ble_eq_true rfl) (k_i (fun r12 τ11 h => ?_))
      exact J_iret cx dX4_leaver_90 h
    by_cases q13 : a1 = (nI 4)
    · refine J_tsI cx (tgt := 91) (nI 4) q13 dX4_leaver_12 (by decide) (by decide) rfl (by decide) ?_
      replace h := h.2.2.2.2.1 q13
      refine J_aload_n cx 0 dX4_leaver_91 rfl rfl ?_
      refine J_getR cx (j := (tc 0 0)) dX4_leaver_92 F_X4_37 (by decide) rfl rfl rfl ?_
      refine J_iload_n cx 1 dX4_leaver_95 rfl rfl ?_
      refine J_cV cx dX4_leaver_96 V_X4_180 (by decide) (tc_lt (by decide) (by decide)) (kq_t0 (by decide)) (ct_X3_makesToday 0 (by decide) _ _ _ h) rfl rfl (Nat.le_of_ble_eq_true rfl) (k_i (fun r15 τ14 h => ?_))
      exact J_iret cx dX4_leaver_99 h
    by_cases q16 : a1 = (nI 5)
    · refine J_tsI cx (tgt := 100) (nI 5) q16 dX4_leaver_12 (by decide) (by decide) rfl (by decide) ?_
      replace h := h.2.2.2.2.2.1 q16
      refine J_aload_n cx 0 dX4_leaver_100 rfl rfl ?_
      refine J_getR cx (j := (tc 0 0)) dX4_leaver_101 F_X4_37 (by decide) rfl rfl rfl ?_
      refine J_iload_n cx 1 dX4_leaver_104 rfl rfl ?_
      refine J_aload_n cx 0 dX4_leaver_105 rfl rfl ?_
      refine J_getR cx (j := (tc 0 0)) dX4_leaver_106 F_X4_37 (by decide) rfl rfl rfl ?_
      refine J_iload_n cx 1 dX4_leaver_109 rfl rfl ?_
      refine J_cV cx dX4_leaver_110 V_X4_177 (by decide) (tc_lt (by decide) (by decide)) (kq_t0 (by decide)) (ct_X3_houseToday 0 (by decide) _ _ _ h) rfl rfl (Nat.le_of_ble_eq_true rfl) (k_i (fun r18 τ17 h => ?_))
      refine J_cV cx dX4_leaver_113 V_X4_183 (by decide) (tc_lt (by decide) (by decide)) (kq_t0 (by decide)) (ct_X3_timesAway 0 (by decide) _ _ _ _ h) rfl rfl (Nat.le_of_ble_eq_true rfl) (k_i (fun r20 τ19 h => ?_))
      exact J_iret cx dX4_leaver_116 h
    have n_q4 := lv_neT (a := 0) q4 rfl
    have n_q6 := lv_neT (a := 1) q6 rfl
    have n_q8 := lv_neT (a := 2) q8 rfl
    have n_q10 := lv_neT (a := 3) q10 rfl
    have n_q13 := lv_neT (a := 4) q13 rfl
    have n_q16 := lv_neT (a := 5) q16 rfl
    have q21 : (a1 : Int32).toInt < 0 ∨ 5 < (a1 : Int32).toInt := by omega
    refine J_tsO cx (tgt := 117) dX4_leaver_12 q21 (by decide) ?_
    replace h := h.2.2.2.2.2.2 q21
    refine J_ldc cx (v := (-1000001)) dX4_leaver_117 gw_212 ?_
    exact J_iret cx dX4_leaver_119 h
  · replace h := h.2 q3
    refine J_ldc cx (v := (-1000001)) dX4_leaver_8 gw_212 ?_
    exact J_iret cx dX4_leaver_10 h
def wp_X4_man (a0 : Int32) (a1 : Int32) (σ : PI) (Q : Int32 → PI → Prop) : Prop := wp_X4_isMan a0 σ (fun r2 τ1 => ((¬ r2 = (nI 0) → (a1 = (nI 0) → vp_in a0 5 ∧ (Q (τ1 (tc 0 1) (a0 : Int32).toNatClampNeg) τ1)) ∧ (a1 = (nI 1) → vp_in a0 5 ∧ (Q (τ1 (tc 0 2) (a0 : Int32).toNatClampNeg) τ1)) ∧ (a1 = (nI 2) → wp_X4_bit (τ1 (tc 0 0) 13) a0 τ1 (fun r10 τ9 => (Q r10 τ9))) ∧ (a1 = (nI 3) → wp_X3_awayFrom 0 a0 τ1 (fun r13 τ12 => (Q r13 τ12))) ∧ (a1 = (nI 4) → wp_X3_madeAt 0 a0 τ1 (fun r16 τ15 => (Q r16 τ15))) ∧ ((a1 : Int32).toInt < 0 ∨ 4 < (a1 : Int32).toInt → Q (-1000001) τ1)) ∧ (r2 = (nI 0) → Q (-1000001) τ1)))
set_option maxRecDepth 100000 in
set_option maxHeartbeats 4000000 in
theorem ct_X4_man {l : Launch} {X : XP} (a0 : Int32) (a1 : Int32) (σ : PI) (Q : Int32 → PI → Prop) (h : wp_X4_man  a0 a1 σ Q) : Ct l yX4_man cX4_man 3 (some .int) 3 X [.ref (X.1 252), .int a0, .int a1] σ (qI Q) := by
  refine Ct_of (L := [some (.ref (X.1 252)), some (.int a0), some (.int a1)]) (by decide) (Nat.le_of_ble_eq_true rfl) rfl (fun M hl cx => ?_)
  subst hl
  unfold wp_X4_man at h
  refine J_aload_n cx 0 dX4_man_0 rfl rfl ?_
  refine J_iload_n cx 1 dX4_man_1 rfl rfl ?_
  refine J_cV cx dX4_man_2 V_X4_150 (by decide) (by decide) rfl (ct_X4_isMan   _ _ _ h) rfl rfl (Nat.le_of_ble_eq_true rfl) (k_i (fun r2 τ1 h => ?_))
  refine J_if_ne cx (tgt := 11) dX4_man_5 (by decide) (fun q3 => ?_) (fun q3 => ?_)
  · replace h := h.1 q3
    refine J_iload_n cx 2 dX4_man_11 rfl rfl ?_
    by_cases q4 : a1 = (nI 0)
    · refine J_tsI cx (tgt := 48) (nI 0) q4 dX4_man_12 (by decide) (by decide) rfl (by decide) ?_
      replace h := h.1 q4
      refine J_aload_n cx 0 dX4_man_48 rfl rfl ?_
      refine J_getR cx (j := (tc 0 0)) dX4_man_49 F_X4_37 (by decide) rfl rfl rfl ?_
      refine J_getR cx (j := (tc 0 1)) dX4_man_52 F_X4_186 (tc_lt (by decide) (by decide)) (kq_t0 (by decide)) rfl (rq_t (by decide)) ?_
      refine J_iload_n cx 1 dX4_man_55 rfl rfl ?_
      obtain ⟨s5, h⟩ := h
      refine J_iald cx dX4_man_56 (tc_lt (by decide) (by decide)) (kq_t (by decide) (by decide)) s5 ?_
      exact J_iret cx dX4_man_57 h
    by_cases q6 : a1 = (nI 1)
    · refine J_tsI cx (tgt := 58) (nI 1) q6 dX4_man_12 (by decide) (by decide) rfl (by decide) ?_
      replace h := h.2.1 q6
      refine J_aload_n cx 0 dX4_man_58 rfl rfl ?_
      refine J_getR cx (j := (tc 0 0)) dX4_man_59 F_X4_37 (by decide) rfl rfl rfl ?_
      refine J_getR cx (j := (tc 0 2)) dX4_man_62 F_X4_171 (tc_lt (by decide) (by decide)) (kq_t0 (by decide)) rfl (rq_t (by decide)) ?_
      refine J_iload_n cx 1 dX4_man_65 rfl rfl ?_
      obtain ⟨s7, h⟩ := h
      refine J_iald cx dX4_man_66 (tc_lt (by decide) (by decide)) (kq_t (by decide) (by decide)) s7 ?_
      exact J_iret cx dX4_man_67 h
    by_cases q8 : a1 = (nI 2)
    · refine J_tsI cx (tgt := 68) (nI 2) q8 dX4_man_12 (by decide) (by decide) rfl (by decide) ?_
      replace h := h.2.2.1 q8
      refine J_aload_n cx 0 dX4_man_68 rfl rfl ?_
      refine J_getR cx (j := (tc 0 0)) dX4_man_69 F_X4_37 (by decide) rfl rfl rfl ?_
      refine J_getI cx dX4_man_72 F_X4_165 (tc_lt (by decide) (by decide)) (kq_t0 (by decide)) rfl ?_
      refine J_iload_n cx 1 dX4_man_75 rfl rfl ?_
      refine J_cS cx dX4_man_76 S_X4_168 (by decide) (ct_X4_bit   _ _ _ _ h) rfl rfl (Nat.le_of_ble_eq_true rfl) (k_i (fun r10 τ9 h => ?_))
      exact J_iret cx dX4_man_79 h
    by_cases q11 : a1 = (nI 3)
    · refine J_tsI cx (tgt := 80) (nI 3) q11 dX4_man_12 (by decide) (by decide) rfl (by decide) ?_
      replace h := h.2.2.2.1 q11
      refine J_aload_n cx 0 dX4_man_80 rfl rfl ?_
      refine J_getR cx (j := (tc 0 0)) dX4_man_81 F_X4_37 (by decide) rfl rfl rfl ?_
      refine J_iload_n cx 1 dX4_man_84 rfl rfl ?_
      refine J_cV cx dX4_man_85 V_X4_189 (by decide) (tc_lt (by decide) (by decide)) (kq_t0 (by decide)) (ct_X3_awayFrom 0 (by decide) _ _ _ h) rfl rfl (Nat.le_of_ble_eq_true rfl) (k_i (fun r13 τ12 h => ?_))
      exact J_iret cx dX4_man_88 h
    by_cases q14 : a1 = (nI 4)
    · refine J_tsI cx (tgt := 89) (nI 4) q14 dX4_man_12 (by decide) (by decide) rfl (by decide) ?_
      replace h := h.2.2.2.2.1 q14
      refine J_aload_n cx 0 dX4_man_89 rfl rfl ?_
      refine J_getR cx (j := (tc 0 0)) dX4_man_90 F_X4_37 (by decide) rfl rfl rfl ?_
      refine J_iload_n cx 1 dX4_man_93 rfl rfl ?_
      refine J_cV cx dX4_man_94 V_X4_192 (by decide) (tc_lt (by decide) (by decide)) (kq_t0 (by decide)) (ct_X3_madeAt 0 (by decide) _ _ _ h) rfl rfl (Nat.le_of_ble_eq_true rfl) (k_i (fun r16 τ15 h => ?_))
      exact J_iret cx dX4_man_97 h
    have n_q4 := lv_neT (a := 0) q4 rfl
    have n_q6 := lv_neT (a := 1) q6 rfl
    have n_q8 := lv_neT (a := 2) q8 rfl
    have n_q11 := lv_neT (a := 3) q11 rfl
    have n_q14 := lv_neT (a := 4) q14 rfl
    have q17 : (a1 : Int32).toInt < 0 ∨ 4 < (a1 : Int32).toInt := by omega
    refine J_tsO cx (tgt := 98) dX4_man_12 q17 (by decide) ?_
    replace h := h.2.2.2.2.2 q17
    refine J_ldc cx (v := (-1000001)) dX4_man_98 gw_212 ?_
    exact J_iret cx dX4_man_100 h
  · replace h := h.2 q3
    refine J_ldc cx (v := (-1000001)) dX4_man_8 gw_212 ?_
    exact J_iret cx dX4_man_10 h
def wp_X4_ahead (a0 : Int32) (a1 : Int32) (σ : PI) (Q : Int32 → PI → Prop) : Prop := wp_X4_isMan a0 σ (fun r2 τ1 => ((r2 = (nI 0) → Q (-1000001) τ1) ∧ (¬ r2 = (nI 0) → wp_X4_within a1 (nI 0) (nI 60) τ1 (fun r5 τ4 => ((¬ r5 = (nI 0) → wp_X3_copyFrom 1 0 τ4 (fun τ7 => (wp_X3_passDays 1 a1 τ7 (fun τ8 => (vp_in a0 5 ∧ (Q (τ8 (tc 1 1) (a0 : Int32).toNatClampNeg) τ8)))))) ∧ (r5 = (nI 0) → Q (-1000001) τ4))))))
set_option maxRecDepth 100000 in
set_option maxHeartbeats 4000000 in
theorem ct_X4_ahead {l : Launch} {X : XP} (a0 : Int32) (a1 : Int32) (σ : PI) (Q : Int32 → PI → Prop) (h : wp_X4_ahead  a0 a1 σ Q) : Ct l yX4_ahead cX4_ahead 3 (some .int) 5 X [.ref (X.1 252), .int a0, .int a1] σ (qI Q) := by
  refine Ct_of (L := [some (.ref (X.1 252)), some (.int a0), some (.int a1)]) (by decide) (Nat.le_of_ble_eq_true rfl) rfl (fun M hl cx => ?_)
  subst hl
  unfold wp_X4_ahead at h
  refine J_aload_n cx 0 dX4_ahead_0 rfl rfl ?_
  refine J_iload_n cx 1 dX4_ahead_1 rfl rfl ?_
  refine J_cV cx dX4_ahead_2 V_X4_150 (by decide) (by decide) rfl (ct_X4_isMan   _ _ _ h) rfl rfl (Nat.le_of_ble_eq_true rfl) (k_i (fun r2 τ1 h => ?_))
  refine J_if_eq cx (tgt := 18) dX4_ahead_5 (by decide) (fun q3 => ?_) (fun q3 => ?_)
  · replace h := h.1 q3
    refine J_ldc cx (v := (-1000001)) dX4_ahead_18 gw_212 ?_
    exact J_iret cx dX4_ahead_20 h
  · replace h := h.2 q3
    refine J_iload_n cx 2 dX4_ahead_8 rfl rfl ?_
    refine J_iconst cx dX4_ahead_9 (by decide : _ = ((nI 0) : Int32)) ?_
    refine J_bipush cx dX4_ahead_10 (by decide : _ = ((nI 60) : Int32)) ?_
    refine J_cS cx dX4_ahead_12 S_X4_52 (by decide) (ct_X4_within   _ _ _ _ _ h) rfl rfl (Nat.le_of_ble_eq_true rfl) (k_i (fun r5 τ4 h => ?_))
    refine J_if_ne cx (tgt := 21) dX4_ahead_15 (by decide) (fun q6 => ?_) (fun q6 => ?_)
    · replace h := h.1 q6
      refine J_aload_n cx 0 dX4_ahead_21 rfl rfl ?_
      refine J_getR cx (j := (tc 1 0)) dX4_ahead_22 F_X4_41 (by decide) rfl rfl rfl ?_
      refine J_aload_n cx 0 dX4_ahead_25 rfl rfl ?_
      refine J_getR cx (j := (tc 0 0)) dX4_ahead_26 F_X4_37 (by decide) rfl rfl rfl ?_
      refine J_cV cx dX4_ahead_29 V_X4_115 (by decide) (tc_lt (by decide) (by decide)) (kq_t0 (by decide)) (ct_X3_copyFrom 1 0 (by decide) (by decide)  _ _ h) rfl rfl (Nat.le_of_ble_eq_true rfl) (k_v (fun τ7 h => ?_))
      refine J_aload_n cx 0 dX4_ahead_32 rfl rfl ?_
      refine J_getR cx (j := (tc 1 0)) dX4_ahead_33 F_X4_41 (by decide) rfl rfl rfl ?_
      refine J_iload_n cx 2 dX4_ahead_36 rfl rfl ?_
      refine J_cV cx dX4_ahead_37 V_X4_195 (by decide) (tc_lt (by decide) (by decide)) (kq_t0 (by decide)) (ct_X3_passDays 1 (by decide) _ _ _ h) rfl rfl (Nat.le_of_ble_eq_true rfl) (k_v (fun τ8 h => ?_))
      refine J_aload_n cx 0 dX4_ahead_40 rfl rfl ?_
      refine J_getR cx (j := (tc 1 0)) dX4_ahead_41 F_X4_41 (by decide) rfl rfl rfl ?_
      refine J_getR cx (j := (tc 1 1)) dX4_ahead_44 F_X4_186 (tc_lt (by decide) (by decide)) (kq_t0 (by decide)) rfl (rq_t (by decide)) ?_
      refine J_iload_n cx 1 dX4_ahead_47 rfl rfl ?_
      obtain ⟨s9, h⟩ := h
      refine J_iald cx dX4_ahead_48 (tc_lt (by decide) (by decide)) (kq_t (by decide) (by decide)) s9 ?_
      exact J_iret cx dX4_ahead_49 h
    · replace h := h.2 q6
      refine J_ldc cx (v := (-1000001)) dX4_ahead_18 gw_212 ?_
      exact J_iret cx dX4_ahead_20 h
def wp_X4_awayAhead (a0 : Int32) (a1 : Int32) (σ : PI) (Q : Int32 → PI → Prop) : Prop := wp_X4_isMan a0 σ (fun r2 τ1 => ((r2 = (nI 0) → Q (-1000001) τ1) ∧ (¬ r2 = (nI 0) → wp_X4_within a1 (nI 0) (nI 60) τ1 (fun r5 τ4 => ((¬ r5 = (nI 0) → wp_X3_copyFrom 1 0 τ4 (fun τ7 => (∀ τ8 : PI, τ8 = up τ7 (tc 1 0) 12 ((τ7 (tc 1 0) 12) + a1) → (wp_X3_awayFrom 1 a0 τ8 (fun r10 τ9 => (Q r10 τ9)))))) ∧ (r5 = (nI 0) → Q (-1000001) τ4))))))
set_option maxRecDepth 100000 in
set_option maxHeartbeats 4000000 in
theorem ct_X4_awayAhead {l : Launch} {X : XP} (a0 : Int32) (a1 : Int32) (σ : PI) (Q : Int32 → PI → Prop) (h : wp_X4_awayAhead  a0 a1 σ Q) : Ct l yX4_awayAhead cX4_awayAhead 3 (some .int) 3 X [.ref (X.1 252), .int a0, .int a1] σ (qI Q) := by
  refine Ct_of (L := [some (.ref (X.1 252)), some (.int a0), some (.int a1)]) (by decide) (Nat.le_of_ble_eq_true rfl) rfl (fun M hl cx => ?_)
  subst hl
  unfold wp_X4_awayAhead at h
  refine J_aload_n cx 0 dX4_awayAhead_0 rfl rfl ?_
  refine J_iload_n cx 1 dX4_awayAhead_1 rfl rfl ?_
  refine J_cV cx dX4_awayAhead_2 V_X4_150 (by decide) (by decide) rfl (ct_X4_isMan   _ _ _ h) rfl rfl (Nat.le_of_ble_eq_true rfl) (k_i (fun r2 τ1 h => ?_))
  refine J_if_eq cx (tgt := 18) dX4_awayAhead_5 (by decide) (fun q3 => ?_) (fun q3 => ?_)
  · replace h := h.1 q3
    refine J_ldc cx (v := (-1000001)) dX4_awayAhead_18 gw_212 ?_
    exact J_iret cx dX4_awayAhead_20 h
  · replace h := h.2 q3
    refine J_iload_n cx 2 dX4_awayAhead_8 rfl rfl ?_
    refine J_iconst cx dX4_awayAhead_9 (by decide : _ = ((nI 0) : Int32)) ?_
    refine J_bipush cx dX4_awayAhead_10 (by decide : _ = ((nI 60) : Int32)) ?_
    refine J_cS cx dX4_awayAhead_12 S_X4_52 (by decide) (ct_X4_within   _ _ _ _ _ h) rfl rfl (Nat.le_of_ble_eq_true rfl) (k_i (fun r5 τ4 h => ?_))
    refine J_if_ne cx (tgt := 21) dX4_awayAhead_15 (by decide) (fun q6 => ?_) (fun q6 => ?_)
    · replace h := h.1 q6
      refine J_aload_n cx 0 dX4_awayAhead_21 rfl rfl ?_
      refine J_getR cx (j := (tc 1 0)) dX4_awayAhead_22 F_X4_41 (by decide) rfl rfl rfl ?_
      refine J_aload_n cx 0 dX4_awayAhead_25 rfl rfl ?_
      refine J_getR cx (j := (tc 0 0)) dX4_awayAhead_26 F_X4_37 (by decide) rfl rfl rfl ?_
      refine J_cV cx dX4_awayAhead_29 V_X4_115 (by decide) (tc_lt (by decide) (by decide)) (kq_t0 (by decide)) (ct_X3_copyFrom 1 0 (by decide) (by decide)  _ _ h) rfl rfl (Nat.le_of_ble_eq_true rfl) (k_v (fun τ7 h => ?_))
      refine J_aload_n cx 0 dX4_awayAhead_32 rfl rfl ?_
      refine J_getR cx (j := (tc 1 0)) dX4_awayAhead_33 F_X4_41 (by decide) rfl rfl rfl ?_
      refine J_dup cx dX4_awayAhead_36 rfl ?_
      refine J_getI cx dX4_awayAhead_37 F_X4_134 (tc_lt (by decide) (by decide)) (kq_t0 (by decide)) rfl ?_
      refine J_iload_n cx 2 dX4_awayAhead_40 rfl rfl ?_
      refine J_iadd cx dX4_awayAhead_41 ?_
      refine J_putI cx dX4_awayAhead_42 (P_X4_134 _) (tc_lt (by decide) (by decide)) (kq_t0 (by decide)) rfl ?_
      refine J_nm (fun τ8 e_τ8 => ?_)
      replace h := h τ8 e_τ8
      refine J_aload_n cx 0 dX4_awayAhead_45 rfl rfl ?_
      refine J_getR cx (j := (tc 1 0)) dX4_awayAhead_46 F_X4_41 (by decide) rfl rfl rfl ?_
      refine J_iload_n cx 1 dX4_awayAhead_49 rfl rfl ?_
      refine J_cV cx dX4_awayAhead_50 V_X4_189 (by decide) (tc_lt (by decide) (by decide)) (kq_t0 (by decide)) (ct_X3_awayFrom 1 (by decide) _ _ _ h) rfl rfl (Nat.le_of_ble_eq_true rfl) (k_i (fun r10 τ9 h => ?_))
      exact J_iret cx dX4_awayAhead_53 h
    · replace h := h.2 q6
      refine J_ldc cx (v := (-1000001)) dX4_awayAhead_18 gw_212 ?_
      exact J_iret cx dX4_awayAhead_20 h
def B_X4_first_24 (K24 : (Int32 × Int32 × PI → Prop)) (Q : Int32 → PI → Prop) (l1 : Int32) (l2 : Int32) (σ : PI) : Prop := ((nI 60) < l2 → Q (-1000000) σ) ∧ (¬ (nI 60) < l2 → wp_X3_awayFrom 1 l1 σ (fun r7 τ6 => ((¬ r7 = (nI 0) → ∀ τ9 : PI, τ9 = up τ6 (tc 1 0) 12 ((τ6 (tc 1 0) 12) + (nI 1)) → (K24 (l1, (l2 + (nI 1)), τ9))) ∧ (r7 = (nI 0) → Q l2 τ6))))
def w_X4_first_24 (Q : Int32 → PI → Prop) (l1 : Int32) (l2 : Int32) (σ : PI) : Prop := ∃ n, Lp (fun K a => B_X4_first_24   K Q a.1 a.2.1 a.2.2) n (l1, l2, σ)
set_option maxRecDepth 100000 in
set_option maxHeartbeats 4000000 in
theorem j_X4_first_24 {M : MC} {X : XP} {Q : Int32 → PI → Prop} (cx : Cx M X RX4 cX4_first 3 (some .int) 3) (l1 : Int32) (l2 : Int32) (σ : PI) (h : w_X4_first_24   Q l1 l2 σ) : J M X (QF M X (qI Q)) σ 24 [some (.ref (X.1 252)), some (.int l1), some (.int l2)] [] := by
  refine Lp_J (P := fun (a : Int32 × Int32 × PI) => J M X (QF M X (qI Q)) (a.2.2) 24 [some (.ref (X.1 252)), some (.int a.1), some (.int a.2.1)] []) (fun K24 hK a h => ?_) h
  obtain ⟨l1, l2, σ⟩ := a
  have hK24 : ∀ (l1 : Int32) (l2 : Int32) (σ : PI), K24 (l1, l2, σ) → J M X (QF M X (qI Q)) σ 24 [some (.ref (X.1 252)), some (.int l1), some (.int l2)] [] := fun l1 l2 σ q => hK _ q
  replace h : B_X4_first_24   K24 Q l1 l2 σ := h
  show J M X (QF M X (qI Q)) σ 24 [some (.ref (X.1 252)), some (.int l1), some (.int l2)] []
  unfold B_X4_first_24 at h
  refine J_iload_n cx 2 dX4_first_24 rfl rfl ?_
  refine J_bipush cx dX4_first_25 (by decide : _ = ((nI 60) : Int32)) ?_
  refine J_icmp_gt cx (tgt := 62) dX4_first_27 (by decide) (fun q5 => ?_) (fun q5 => ?_)
  · replace h := h.1 q5
    refine J_ldc cx (v := (-1000000)) dX4_first_62 gw_462 ?_
    exact J_iret cx dX4_first_64 h
  · replace h := h.2 q5
    refine J_aload_n cx 0 dX4_first_30 rfl rfl ?_
    refine J_getR cx (j := (tc 1 0)) dX4_first_31 F_X4_41 (by decide) rfl rfl rfl ?_
    refine J_iload_n cx 1 dX4_first_34 rfl rfl ?_
    refine J_cV cx dX4_first_35 V_X4_189 (by decide) (tc_lt (by decide) (by decide)) (kq_t0 (by decide)) (ct_X3_awayFrom 1 (by decide) _ _ _ h) rfl rfl (Nat.le_of_ble_eq_true rfl) (k_i (fun r7 τ6 h => ?_))
    refine J_if_ne cx (tgt := 43) dX4_first_38 (by decide) (fun q8 => ?_) (fun q8 => ?_)
    · replace h := h.1 q8
      refine J_aload_n cx 0 dX4_first_43 rfl rfl ?_
      refine J_getR cx (j := (tc 1 0)) dX4_first_44 F_X4_41 (by decide) rfl rfl rfl ?_
      refine J_dup cx dX4_first_47 rfl ?_
      refine J_getI cx dX4_first_48 F_X4_134 (tc_lt (by decide) (by decide)) (kq_t0 (by decide)) rfl ?_
      refine J_iconst cx dX4_first_51 (by decide : _ = ((nI 1) : Int32)) ?_
      refine J_iadd cx dX4_first_52 ?_
      refine J_putI cx dX4_first_53 (P_X4_134 _) (tc_lt (by decide) (by decide)) (kq_t0 (by decide)) rfl ?_
      refine J_nm (fun τ9 e_τ9 => ?_)
      replace h := h τ9 e_τ9
      refine J_iinc cx dX4_first_56 rfl (by decide : _ = ((nI 1) : Int32)) (by decide) rfl rfl ?_
      refine J_goto cx (tgt := 24) dX4_first_59 (by decide) ?_
      exact hK24   _ _ _ h
    · replace h := h.2 q8
      refine J_iload_n cx 2 dX4_first_41 rfl rfl ?_
      exact J_iret cx dX4_first_42 h
def wp_X4_first (a0 : Int32) (σ : PI) (Q : Int32 → PI → Prop) : Prop := wp_X4_isMan a0 σ (fun r2 τ1 => ((¬ r2 = (nI 0) → wp_X3_copyFrom 1 0 τ1 (fun τ4 => (w_X4_first_24   Q a0 (nI 1) τ4))) ∧ (r2 = (nI 0) → Q (-1000001) τ1)))
set_option maxRecDepth 100000 in
set_option maxHeartbeats 4000000 in
theorem ct_X4_first {l : Launch} {X : XP} (a0 : Int32) (σ : PI) (Q : Int32 → PI → Prop) (h : wp_X4_first  a0 σ Q) : Ct l yX4_first cX4_first 3 (some .int) 3 X [.ref (X.1 252), .int a0] σ (qI Q) := by
  refine Ct_of (L := [some (.ref (X.1 252)), some (.int a0), none]) (by decide) (Nat.le_of_ble_eq_true rfl) rfl (fun M hl cx => ?_)
  subst hl
  unfold wp_X4_first at h
  refine J_aload_n cx 0 dX4_first_0 rfl rfl ?_
  refine J_iload_n cx 1 dX4_first_1 rfl rfl ?_
  refine J_cV cx dX4_first_2 V_X4_150 (by decide) (by decide) rfl (ct_X4_isMan   _ _ _ h) rfl rfl (Nat.le_of_ble_eq_true rfl) (k_i (fun r2 τ1 h => ?_))
  refine J_if_ne cx (tgt := 11) dX4_first_5 (by decide) (fun q3 => ?_) (fun q3 => ?_)
  · replace h := h.1 q3
    refine J_aload_n cx 0 dX4_first_11 rfl rfl ?_
    refine J_getR cx (j := (tc 1 0)) dX4_first_12 F_X4_41 (by decide) rfl rfl rfl ?_
    refine J_aload_n cx 0 dX4_first_15 rfl rfl ?_
    refine J_getR cx (j := (tc 0 0)) dX4_first_16 F_X4_37 (by decide) rfl rfl rfl ?_
    refine J_cV cx dX4_first_19 V_X4_115 (by decide) (tc_lt (by decide) (by decide)) (kq_t0 (by decide)) (ct_X3_copyFrom 1 0 (by decide) (by decide)  _ _ h) rfl rfl (Nat.le_of_ble_eq_true rfl) (k_v (fun τ4 h => ?_))
    refine J_iconst cx dX4_first_22 (by decide : _ = ((nI 1) : Int32)) ?_
    refine J_istore_n cx 2 dX4_first_23 rfl (by decide) rfl rfl ?_
    exact j_X4_first_24     cx   _ _ _ h
  · replace h := h.2 q3
    refine J_ldc cx (v := (-1000001)) dX4_first_8 gw_212 ?_
    exact J_iret cx dX4_first_10 h
def B_X4_reach_34 (K34 : (Int32 × Int32 × Int32 × PI → Prop)) (Q : Int32 → PI → Prop) (l1 : Int32) (l2 : Int32) (l3 : Int32) (σ : PI) : Prop := ((nI 60) < l3 → Q (-1000000) σ) ∧ (¬ (nI 60) < l3 → vp_in l1 5 ∧ (((σ (tc 1 1) (l1 : Int32).toNatClampNeg) < l2 → wp_X3_passDay 1 σ (fun r12 τ11 => (K34 (l1, l2, (l3 + (nI 1)), τ11)))) ∧ (¬ (σ (tc 1 1) (l1 : Int32).toNatClampNeg) < l2 → Q l3 σ)))
def w_X4_reach_34 (Q : Int32 → PI → Prop) (l1 : Int32) (l2 : Int32) (l3 : Int32) (σ : PI) : Prop := ∃ n, Lp (fun K a => B_X4_reach_34   K Q a.1 a.2.1 a.2.2.1 a.2.2.2) n (l1, l2, l3, σ)
set_option maxRecDepth 100000 in
set_option maxHeartbeats 4000000 in
theorem j_X4_reach_34 {M : MC} {X : XP} {Q : Int32 → PI → Prop} (cx : Cx M X RX4 cX4_reach 4 (some .int) 4) (l1 : Int32) (l2 : Int32) (l3 : Int32) (σ : PI) (h : w_X4_reach_34   Q l1 l2 l3 σ) : J M X (QF M X (qI Q)) σ 34 [some (.ref (X.1 252)), some (.int l1), some (.int l2), some (.int l3)] [] := by
  refine Lp_J (P := fun (a : Int32 × Int32 × Int32 × PI) => J M X (QF M X (qI Q)) (a.2.2.2) 34 [some (.ref (X.1 252)), some (.int a.1), some (.int a.2.1), some (.int a.2.2.1)] []) (fun K34 hK a h => ?_) h
  obtain ⟨l1, l2, l3, σ⟩ := a
  have hK34 : ∀ (l1 : Int32) (l2 : Int32) (l3 : Int32) (σ : PI), K34 (l1, l2, l3, σ) → J M X (QF M X (qI Q)) σ 34 [some (.ref (X.1 252)), some (.int l1), some (.int l2), some (.int l3)] [] := fun l1 l2 l3 σ q => hK _ q
  replace h : B_X4_reach_34   K34 Q l1 l2 l3 σ := h
  show J M X (QF M X (qI Q)) σ 34 [some (.ref (X.1 252)), some (.int l1), some (.int l2), some (.int l3)] []
  unfold B_X4_reach_34 at h
  refine J_iload_n cx 3 dX4_reach_34 rfl rfl ?_
  refine J_bipush cx dX4_reach_35 (by decide : _ = ((nI 60) : Int32)) ?_
  refine J_icmp_gt cx (tgt := 69) dX4_reach_37 (by decide) (fun q8 => ?_) (fun q8 => ?_)
  · replace h := h.1 q8
    refine J_ldc cx (v := (-1000000)) dX4_reach_69 gw_462 ?_
    exact J_iret cx dX4_reach_71 h
  · replace h := h.2 q8
    refine J_aload_n cx 0 dX4_reach_40 rfl rfl ?_
    refine J_getR cx (j := (tc 1 0)) dX4_reach_41 F_X4_41 (by decide) rfl rfl rfl ?_
    refine J_getR cx (j := (tc 1 1)) dX4_reach_44 F_X4_186 (tc_lt (by decide) (by decide)) (kq_t0 (by decide)) rfl (rq_t (by decide)) ?_
    refine J_iload_n cx 1 dX4_reach_47 rfl rfl ?_
    obtain ⟨s9, h⟩ := h
    refine J_iald cx dX4_reach_48 (tc_lt (by decide) (by decide)) (kq_t (by decide) (by decide)) s9 ?_
    refine J_iload_n cx 2 dX4_reach_49 rfl rfl ?_
    refine J_icmp_lt cx (tgt := 55) dX4_reach_50 (by decide) (fun q10 => ?_) (fun q10 => ?_)
    · replace h := h.1 q10
      refine J_aload_n cx 0 dX4_reach_55 rfl rfl ?_
      refine J_getR cx (j := (tc 1 0)) dX4_reach_56 F_X4_41 (by decide) rfl rfl rfl ?_
      refine J_cV cx dX4_reach_59 V_X4_140 (by decide) (tc_lt (by decide) (by decide)) (kq_t0 (by decide)) (ct_X3_passDay 1 (by decide)  _ _ h) rfl rfl (Nat.le_of_ble_eq_true rfl) (k_i (fun r12 τ11 h => ?_))
      refine J_pop cx dX4_reach_62 rfl ?_
      refine J_iinc cx dX4_reach_63 rfl (by decide : _ = ((nI 1) : Int32)) (by decide) rfl rfl ?_
      refine J_goto cx (tgt := 34) dX4_reach_66 (by decide) ?_
      exact hK34   _ _ _ _ h
    · replace h := h.2 q10
      refine J_iload_n cx 3 dX4_reach_53 rfl rfl ?_
      exact J_iret cx dX4_reach_54 h
def wp_X4_reach (a0 : Int32) (a1 : Int32) (σ : PI) (Q : Int32 → PI → Prop) : Prop := wp_X4_isMan a0 σ (fun r2 τ1 => ((r2 = (nI 0) → Q (-1000001) τ1) ∧ (¬ r2 = (nI 0) → wp_X4_within a1 (nI 1) (nI 99) τ1 (fun r5 τ4 => ((¬ r5 = (nI 0) → wp_X3_copyFrom 1 0 τ4 (fun τ7 => (w_X4_reach_34   Q a0 a1 (nI 0) τ7))) ∧ (r5 = (nI 0) → Q (-1000001) τ4))))))
set_option maxRecDepth 100000 in
set_option maxHeartbeats 4000000 in
theorem ct_X4_reach {l : Launch} {X : XP} (a0 : Int32) (a1 : Int32) (σ : PI) (Q : Int32 → PI → Prop) (h : wp_X4_reach  a0 a1 σ Q) : Ct l yX4_reach cX4_reach 4 (some .int) 4 X [.ref (X.1 252), .int a0, .int a1] σ (qI Q) := by
  refine Ct_of (L := [some (.ref (X.1 252)), some (.int a0), some (.int a1), none]) (by decide) (Nat.le_of_ble_eq_true rfl) rfl (fun M hl cx => ?_)
  subst hl
  unfold wp_X4_reach at h
  refine J_aload_n cx 0 dX4_reach_0 rfl rfl ?_
  refine J_iload_n cx 1 dX4_reach_1 rfl rfl ?_
  refine J_cV cx dX4_reach_2 V_X4_150 (by decide) (by decide) rfl (ct_X4_isMan   _ _ _ h) rfl rfl (Nat.le_of_ble_eq_true rfl) (k_i (fun r2 τ1 h => ?_))
  refine J_if_eq cx (tgt := 18) dX4_reach_5 (by decide) (fun q3 => ?_) (fun q3 => ?_)
  · replace h := h.1 q3
    refine J_ldc cx (v := (-1000001)) dX4_reach_18 gw_212 ?_
    exact J_iret cx dX4_reach_20 h
  · replace h := h.2 q3
    refine J_iload_n cx 2 dX4_reach_8 rfl rfl ?_
    refine J_iconst cx dX4_reach_9 (by decide : _ = ((nI 1) : Int32)) ?_
    refine J_bipush cx dX4_reach_10 (by decide : _ = ((nI 99) : Int32)) ?_
    refine J_cS cx dX4_reach_12 S_X4_52 (by decide) (ct_X4_within   _ _ _ _ _ h) rfl rfl (Nat.le_of_ble_eq_true rfl) (k_i (fun r5 τ4 h => ?_))
    refine J_if_ne cx (tgt := 21) dX4_reach_15 (by decide) (fun q6 => ?_) (fun q6 => ?_)
    · replace h := h.1 q6
      refine J_aload_n cx 0 dX4_reach_21 rfl rfl ?_
      refine J_getR cx (j := (tc 1 0)) dX4_reach_22 F_X4_41 (by decide) rfl rfl rfl ?_
      refine J_aload_n cx 0 dX4_reach_25 rfl rfl ?_
      refine J_getR cx (j := (tc 0 0)) dX4_reach_26 F_X4_37 (by decide) rfl rfl rfl ?_
      refine J_cV cx dX4_reach_29 V_X4_115 (by decide) (tc_lt (by decide) (by decide)) (kq_t0 (by decide)) (ct_X3_copyFrom 1 0 (by decide) (by decide)  _ _ h) rfl rfl (Nat.le_of_ble_eq_true rfl) (k_v (fun τ7 h => ?_))
      refine J_iconst cx dX4_reach_32 (by decide : _ = ((nI 0) : Int32)) ?_
      refine J_istore_n cx 3 dX4_reach_33 rfl (by decide) rfl rfl ?_
      exact j_X4_reach_34     cx   _ _ _ _ h
    · replace h := h.2 q6
      refine J_ldc cx (v := (-1000001)) dX4_reach_18 gw_212 ?_
      exact J_iret cx dX4_reach_20 h
def B_X4_usual_37 (K37 : (Int32 × Int32 × Int32 × Int32 × PI → Prop)) (Q : Int32 → PI → Prop) (l1 : Int32) (l2 : Int32) (l3 : Int32) (l4 : Int32) (σ : PI) : Prop := (l2 ≤ l4 → Q l3 σ) ∧ (¬ l2 ≤ l4 → wp_X3_passDay 1 σ (fun r10 τ9 => (wp_X4_bit r10 l1 τ9 (fun r12 τ11 => (∀ x13 : Int32, x13 = (l3 + r12) → (K37 (l1, l2, x13, (l4 + (nI 1)), τ11)))))))
def w_X4_usual_37 (Q : Int32 → PI → Prop) (l1 : Int32) (l2 : Int32) (l3 : Int32) (l4 : Int32) (σ : PI) : Prop := ∃ n, Lp (fun K a => B_X4_usual_37   K Q a.1 a.2.1 a.2.2.1 a.2.2.2.1 a.2.2.2.2) n (l1, l2, l3, l4, σ)
set_option maxRecDepth 100000 in
set_option maxHeartbeats 4000000 in
theorem j_X4_usual_37 {M : MC} {X : XP} {Q : Int32 → PI → Prop} (cx : Cx M X RX4 cX4_usual 5 (some .int) 4) (l1 : Int32) (l2 : Int32) (l3 : Int32) (l4 : Int32) (σ : PI) (h : w_X4_usual_37   Q l1 l2 l3 l4 σ) : J M X (QF M X (qI Q)) σ 37 [some (.ref (X.1 252)), some (.int l1), some (.int l2), some (.int l3), some (.int l4)] [] := by
  refine Lp_J (P := fun (a : Int32 × Int32 × Int32 × Int32 × PI) => J M X (QF M X (qI Q)) (a.2.2.2.2) 37 [some (.ref (X.1 252)), some (.int a.1), some (.int a.2.1), some (.int a.2.2.1), some (.int a.2.2.2.1)] []) (fun K37 hK a h => ?_) h
  obtain ⟨l1, l2, l3, l4, σ⟩ := a
  have hK37 : ∀ (l1 : Int32) (l2 : Int32) (l3 : Int32) (l4 : Int32) (σ : PI), K37 (l1, l2, l3, l4, σ) → J M X (QF M X (qI Q)) σ 37 [some (.ref (X.1 252)), some (.int l1), some (.int l2), some (.int l3), some (.int l4)] [] := fun l1 l2 l3 l4 σ q => hK _ q
  replace h : B_X4_usual_37   K37 Q l1 l2 l3 l4 σ := h
  show J M X (QF M X (qI Q)) σ 37 [some (.ref (X.1 252)), some (.int l1), some (.int l2), some (.int l3), some (.int l4)] []
  unfold B_X4_usual_37 at h
  refine J_iload cx dX4_usual_37 rfl ?_
  refine J_iload_n cx 2 dX4_usual_39 rfl rfl ?_
  refine J_icmp_ge cx (tgt := 63) dX4_usual_40 (by decide) (fun q8 => ?_) (fun q8 => ?_)
  · replace h := h.1 q8
    refine J_iload_n cx 3 dX4_usual_63 rfl rfl ?_
    exact J_iret cx dX4_usual_64 h
  · replace h := h.2 q8
    refine J_iload_n cx 3 dX4_usual_43 rfl rfl ?_
    refine J_aload_n cx 0 dX4_usual_44 rfl rfl ?_
    refine J_getR cx (j := (tc 1 0)) dX4_usual_45 F_X4_41 (by decide) rfl rfl rfl ?_
    refine J_cV cx dX4_usual_48 V_X4_140 (by decide) (tc_lt (by decide) (by decide)) (kq_t0 (by decide)) (ct_X3_passDay 1 (by decide)  _ _ h) rfl rfl (Nat.le_of_ble_eq_true rfl) (k_i (fun r10 τ9 h => ?_))
    refine J_iload_n cx 1 dX4_usual_51 rfl rfl ?_
    refine J_cS cx dX4_usual_52 S_X4_168 (by decide) (ct_X4_bit   _ _ _ _ h) rfl rfl (Nat.le_of_ble_eq_true rfl) (k_i (fun r12 τ11 h => ?_))
    refine J_iadd cx dX4_usual_55 ?_
    refine J_topi (fun x13 e_x13 => ?_)
    replace h := h x13 e_x13
    refine J_istore_n cx 3 dX4_usual_56 rfl (by decide) rfl rfl ?_
    refine J_iinc cx dX4_usual_57 rfl (by decide : _ = ((nI 1) : Int32)) (by decide) rfl rfl ?_
    refine J_goto cx (tgt := 37) dX4_usual_60 (by decide) ?_
    exact hK37   _ _ _ _ _ h
def wp_X4_usual (a0 : Int32) (a1 : Int32) (σ : PI) (Q : Int32 → PI → Prop) : Prop := wp_X4_isMan a0 σ (fun r2 τ1 => ((r2 = (nI 0) → Q (-1000001) τ1) ∧ (¬ r2 = (nI 0) → wp_X4_within a1 (nI 1) (nI 60) τ1 (fun r5 τ4 => ((¬ r5 = (nI 0) → wp_X3_copyFrom 1 0 τ4 (fun τ7 => (w_X4_usual_37   Q a0 a1 (nI 0) (nI 0) τ7))) ∧ (r5 = (nI 0) → Q (-1000001) τ4))))))
set_option maxRecDepth 100000 in
set_option maxHeartbeats 4000000 in
theorem ct_X4_usual {l : Launch} {X : XP} (a0 : Int32) (a1 : Int32) (σ : PI) (Q : Int32 → PI → Prop) (h : wp_X4_usual  a0 a1 σ Q) : Ct l yX4_usual cX4_usual 5 (some .int) 4 X [.ref (X.1 252), .int a0, .int a1] σ (qI Q) := by
  refine Ct_of (L := [some (.ref (X.1 252)), some (.int a0), some (.int a1), none, none]) (by decide) (Nat.le_of_ble_eq_true rfl) rfl (fun M hl cx => ?_)
  subst hl
  unfold wp_X4_usual at h
  refine J_aload_n cx 0 dX4_usual_0 rfl rfl ?_
  refine J_iload_n cx 1 dX4_usual_1 rfl rfl ?_
  refine J_cV cx dX4_usual_2 V_X4_150 (by decide) (by decide) rfl (ct_X4_isMan   _ _ _ h) rfl rfl (Nat.le_of_ble_eq_true rfl) (k_i (fun r2 τ1 h => ?_))
  refine J_if_eq cx (tgt := 18) dX4_usual_5 (by decide) (fun q3 => ?_) (fun q3 => ?_)
  · replace h := h.1 q3
    refine J_ldc cx (v := (-1000001)) dX4_usual_18 gw_212 ?_
    exact J_iret cx dX4_usual_20 h
  · replace h := h.2 q3
    refine J_iload_n cx 2 dX4_usual_8 rfl rfl ?_
    refine J_iconst cx dX4_usual_9 (by decide : _ = ((nI 1) : Int32)) ?_
    refine J_bipush cx dX4_usual_10 (by decide : _ = ((nI 60) : Int32)) ?_
    refine J_cS cx dX4_usual_12 S_X4_52 (by decide) (ct_X4_within   _ _ _ _ _ h) rfl rfl (Nat.le_of_ble_eq_true rfl) (k_i (fun r5 τ4 h => ?_))
    refine J_if_ne cx (tgt := 21) dX4_usual_15 (by decide) (fun q6 => ?_) (fun q6 => ?_)
    · replace h := h.1 q6
      refine J_aload_n cx 0 dX4_usual_21 rfl rfl ?_
      refine J_getR cx (j := (tc 1 0)) dX4_usual_22 F_X4_41 (by decide) rfl rfl rfl ?_
      refine J_aload_n cx 0 dX4_usual_25 rfl rfl ?_
      refine J_getR cx (j := (tc 0 0)) dX4_usual_26 F_X4_37 (by decide) rfl rfl rfl ?_
      refine J_cV cx dX4_usual_29 V_X4_115 (by decide) (tc_lt (by decide) (by decide)) (kq_t0 (by decide)) (ct_X3_copyFrom 1 0 (by decide) (by decide)  _ _ h) rfl rfl (Nat.le_of_ble_eq_true rfl) (k_v (fun τ7 h => ?_))
      refine J_iconst cx dX4_usual_32 (by decide : _ = ((nI 0) : Int32)) ?_
      refine J_istore_n cx 3 dX4_usual_33 rfl (by decide) rfl rfl ?_
      refine J_iconst cx dX4_usual_34 (by decide : _ = ((nI 0) : Int32)) ?_
      refine J_istore cx dX4_usual_35 (by decide) rfl rfl ?_
      exact j_X4_usual_37     cx   _ _ _ _ _ h
    · replace h := h.2 q6
      refine J_ldc cx (v := (-1000001)) dX4_usual_18 gw_212 ?_
      exact J_iret cx dX4_usual_20 h
def w_X4_allFeel_71 (K33 : (Int32 × Int32 × Int32 × PI → Prop)) (Q : Int32 → PI → Prop) (l1 : Int32) (l3 : Int32) (l5 : Int32) (σ : PI) : Prop := K33 (l1, l3, (l5 + (nI 1)), σ)
set_option maxRecDepth 100000 in
set_option maxHeartbeats 4000000 in
theorem j_X4_allFeel_71 {M : MC} {X : XP} {Q : Int32 → PI → Prop} (K33 : (Int32 × Int32 × Int32 × PI → Prop)) (hK33 : ∀ (l1 : Int32) (l3 : Int32) (l5 : Int32) (σ : PI), K33 (l1, l3, l5, σ) → J M X (QF M X (qI Q)) σ 33 [some (.ref (X.1 252)), some (.int l1), none, some (.int l3), none, some (.int l5)] []) (cx : Cx M X RX4 cX4_allFeel 6 (some .boolean) 5) (l1 : Int32) (l3 : Int32) (l5 : Int32) (σ : PI) (h : w_X4_allFeel_71  K33 Q l1 l3 l5 σ) : J M X (QF M X (qI Q)) σ 71 [some (.ref (X.1 252)), some (.int l1), none, some (.int l3), none, some (.int l5)] [] := by
  unfold w_X4_allFeel_71 at h
  refine J_iinc cx dX4_allFeel_71 rfl (by decide : _ = ((nI 1) : Int32)) (by decide) rfl rfl ?_
  refine J_goto cx (tgt := 33) dX4_allFeel_74 (by decide) ?_
  exact hK33   _ _ _ _ h
def B_X4_allFeel_33 (K33 : (Int32 × Int32 × Int32 × PI → Prop)) (Q : Int32 → PI → Prop) (l1 : Int32) (l3 : Int32) (l5 : Int32) (σ : PI) : Prop := ((σ (tc 0 0) 8) ≤ l5 → Q (nI 1) σ) ∧ (¬ (σ (tc 0 0) 8) ≤ l5 → wp_X4_bit l1 l5 σ (fun r6 τ5 => ((¬ r6 = (nI 1) → w_X4_allFeel_71  K33 Q l1 l3 l5 τ5) ∧ (r6 = (nI 1) → vp_in l5 5 ∧ ((l3 ≤ (τ5 (tc 1 1) (l5 : Int32).toNatClampNeg) → w_X4_allFeel_71  K33 Q l1 l3 l5 τ5) ∧ (¬ l3 ≤ (τ5 (tc 1 1) (l5 : Int32).toNatClampNeg) → Q (nI 0) τ5))))))
def w_X4_allFeel_33 (Q : Int32 → PI → Prop) (l1 : Int32) (l3 : Int32) (l5 : Int32) (σ : PI) : Prop := ∃ n, Lp (fun K a => B_X4_allFeel_33   K Q a.1 a.2.1 a.2.2.1 a.2.2.2) n (l1, l3, l5, σ)
set_option maxRecDepth 100000 in
set_option maxHeartbeats 4000000 in
theorem j_X4_allFeel_33 {M : MC} {X : XP} {Q : Int32 → PI → Prop} (cx : Cx M X RX4 cX4_allFeel 6 (some .boolean) 5) (l1 : Int32) (l3 : Int32) (l5 : Int32) (σ : PI) (h : w_X4_allFeel_33   Q l1 l3 l5 σ) : J M X (QF M X (qI Q)) σ 33 [some (.ref (X.1 252)), some (.int l1), none, some (.int l3), none, some (.int l5)] [] := by
  refine Lp_J (P := fun (a : Int32 × Int32 × Int32 × PI) => J M X (QF M X (qI Q)) (a.2.2.2) 33 [some (.ref (X.1 252)), some (.int a.1), none, some (.int a.2.1), none, some (.int a.2.2.1)] []) (fun K33 hK a h => ?_) h
  obtain ⟨l1, l3, l5, σ⟩ := a
  have hK33 : ∀ (l1 : Int32) (l3 : Int32) (l5 : Int32) (σ : PI), K33 (l1, l3, l5, σ) → J M X (QF M X (qI Q)) σ 33 [some (.ref (X.1 252)), some (.int l1), none, some (.int l3), none, some (.int l5)] [] := fun l1 l3 l5 σ q => hK _ q
  replace h : B_X4_allFeel_33   K33 Q l1 l3 l5 σ := h
  show J M X (QF M X (qI Q)) σ 33 [some (.ref (X.1 252)), some (.int l1), none, some (.int l3), none, some (.int l5)] []
  unfold B_X4_allFeel_33 at h
  refine J_iload cx dX4_allFeel_33 rfl ?_
  refine J_aload_n cx 0 dX4_allFeel_35 rfl rfl ?_
  refine J_getR cx (j := (tc 0 0)) dX4_allFeel_36 F_X4_37 (by decide) rfl rfl rfl ?_
  refine J_getI cx dX4_allFeel_39 F_X4_200 (tc_lt (by decide) (by decide)) (kq_t0 (by decide)) rfl ?_
  refine J_icmp_ge cx (tgt := 77) dX4_allFeel_42 (by decide) (fun q4 => ?_) (fun q4 => ?_)
  · replace h := h.1 q4
    refine J_iconst cx dX4_allFeel_77 (by decide : _ = ((nI 1) : Int32)) ?_
    exact J_zret cx dX4_allFeel_78 (Or.inr rfl) h
  · replace h := h.2 q4
    refine J_iload_n cx 1 dX4_allFeel_45 rfl rfl ?_
    refine J_iload cx dX4_allFeel_46 rfl ?_
    refine J_cS cx dX4_allFeel_48 S_X4_168 (by decide) (ct_X4_bit   _ _ _ _ h) rfl rfl (Nat.le_of_ble_eq_true rfl) (k_i (fun r6 τ5 h => ?_))
    refine J_iconst cx dX4_allFeel_51 (by decide : _ = ((nI 1) : Int32)) ?_
    refine J_icmp_ne cx (tgt := 71) dX4_allFeel_52 (by decide) (fun q7 => ?_) (fun q7 => ?_)
    · replace h := h.1 q7
      exact j_X4_allFeel_71   K33 hK33 cx   _ _ _ _ h
    · replace h := h.2 q7
      refine J_aload_n cx 0 dX4_allFeel_55 rfl rfl ?_
      refine J_getR cx (j := (tc 1 0)) dX4_allFeel_56 F_X4_41 (by decide) rfl rfl rfl ?_
      refine J_getR cx (j := (tc 1 1)) dX4_allFeel_59 F_X4_186 (tc_lt (by decide) (by decide)) (kq_t0 (by decide)) rfl (rq_t (by decide)) ?_
      refine J_iload cx dX4_allFeel_62 rfl ?_
      obtain ⟨s8, h⟩ := h
      refine J_iald cx dX4_allFeel_64 (tc_lt (by decide) (by decide)) (kq_t (by decide) (by decide)) s8 ?_
      refine J_iload_n cx 3 dX4_allFeel_65 rfl rfl ?_
      refine J_icmp_ge cx (tgt := 71) dX4_allFeel_66 (by decide) (fun q9 => ?_) (fun q9 => ?_)
      · replace h := h.1 q9
        exact j_X4_allFeel_71   K33 hK33 cx   _ _ _ _ h
      · replace h := h.2 q9
        refine J_iconst cx dX4_allFeel_69 (by decide : _ = ((nI 0) : Int32)) ?_
        exact J_zret cx dX4_allFeel_70 (Or.inl rfl) h
def wp_X4_allFeel (a0 : Int32) (a1 : Int32) (a2 : Int32) (a3 : Int32) (σ : PI) (Q : Int32 → PI → Prop) : Prop := wp_X3_copyFrom 1 0 σ (fun τ1 => (∀ τ2 : PI, τ2 = up τ1 (tc 1 0) 14 (a3 ^^^ (-1)) → (wp_X3_passDays 1 a1 τ2 (fun τ3 => (w_X4_allFeel_33   Q a0 a2 (nI 0) τ3)))))
set_option maxRecDepth 100000 in
set_option maxHeartbeats 4000000 in
theorem ct_X4_allFeel {l : Launch} {X : XP} (a0 : Int32) (a1 : Int32) (a2 : Int32) (a3 : Int32) (σ : PI) (Q : Int32 → PI → Prop) (h : wp_X4_allFeel  a0 a1 a2 a3 σ Q) : Ct l yX4_allFeel cX4_allFeel 6 (some .boolean) 5 X [.ref (X.1 252), .int a0, .int a1, .int a2, .int a3] σ (qI Q) := by
  refine Ct_of (L := [some (.ref (X.1 252)), some (.int a0), some (.int a1), some (.int a2), some (.int a3), none]) (by decide) (Nat.le_of_ble_eq_true rfl) rfl (fun M hl cx => ?_)
  subst hl
  unfold wp_X4_allFeel at h
  refine J_aload_n cx 0 dX4_allFeel_0 rfl rfl ?_
  refine J_getR cx (j := (tc 1 0)) dX4_allFeel_1 F_X4_41 (by decide) rfl rfl rfl ?_
  refine J_aload_n cx 0 dX4_allFeel_4 rfl rfl ?_
  refine J_getR cx (j := (tc 0 0)) dX4_allFeel_5 F_X4_37 (by decide) rfl rfl rfl ?_
  refine J_cV cx dX4_allFeel_8 V_X4_115 (by decide) (tc_lt (by decide) (by decide)) (kq_t0 (by decide)) (ct_X3_copyFrom 1 0 (by decide) (by decide)  _ _ h) rfl rfl (Nat.le_of_ble_eq_true rfl) (k_v (fun τ1 h => ?_))
  refine J_aload_n cx 0 dX4_allFeel_11 rfl rfl ?_
  refine J_getR cx (j := (tc 1 0)) dX4_allFeel_12 F_X4_41 (by decide) rfl rfl rfl ?_
  refine J_iload cx dX4_allFeel_15 rfl ?_
  refine J_iconst cx dX4_allFeel_17 (by decide : _ = ((-1) : Int32)) ?_
  refine J_ixor cx dX4_allFeel_18 ?_
  refine J_putI cx dX4_allFeel_19 (P_X4_227 _) (tc_lt (by decide) (by decide)) (kq_t0 (by decide)) rfl ?_
  refine J_nm (fun τ2 e_τ2 => ?_)
  replace h := h τ2 e_τ2
  refine J_aload_n cx 0 dX4_allFeel_22 rfl rfl ?_
  refine J_getR cx (j := (tc 1 0)) dX4_allFeel_23 F_X4_41 (by decide) rfl rfl rfl ?_
  refine J_iload_n cx 2 dX4_allFeel_26 rfl rfl ?_
  refine J_cV cx dX4_allFeel_27 V_X4_195 (by decide) (tc_lt (by decide) (by decide)) (kq_t0 (by decide)) (ct_X3_passDays 1 (by decide) _ _ _ h) rfl rfl (Nat.le_of_ble_eq_true rfl) (k_v (fun τ3 h => ?_))
  refine J_iconst cx dX4_allFeel_30 (by decide : _ = ((nI 0) : Int32)) ?_
  refine J_istore cx dX4_allFeel_31 (by decide) rfl rfl ?_
  refine J_fg 2 rfl ?_
  refine J_fg 4 rfl ?_
  exact j_X4_allFeel_33     cx   _ _ _ _ h
def w_X4_fewest_127 (K63 : (Int32 × Int32 × Int32 × Int32 × Int32 × PI → Prop)) (K78 : (Int32 × Int32 × Int32 × Int32 × Int32 × Int32 × PI → Prop)) (Q : Int32 → PI → Prop) (l1 : Int32) (l2 : Int32) (l3 : Int32) (l4 : Int32) (l5 : Int32) (l6 : Int32) (σ : PI) : Prop := K78 (l1, l2, l3, l4, l5, (l6 + (nI 1)), σ)
set_option maxRecDepth 100000 in
set_option maxHeartbeats 4000000 in
theorem j_X4_fewest_127 {M : MC} {X : XP} {Q : Int32 → PI → Prop} (K63 : (Int32 × Int32 × Int32 × Int32 × Int32 × PI → Prop)) (K78 : (Int32 × Int32 × Int32 × Int32 × Int32 × Int32 × PI → Prop)) (hK63 : ∀ (l1 : Int32) (l2 : Int32) (l3 : Int32) (l4 : Int32) (l5 : Int32) (σ : PI), K63 (l1, l2, l3, l4, l5, σ) → J M X (QF M X (qI Q)) σ 63 [some (.ref (X.1 252)), some (.int l1), some (.int l2), some (.int l3), some (.int l4), some (.int l5), none] []) (hK78 : ∀ (l1 : Int32) (l2 : Int32) (l3 : Int32) (l4 : Int32) (l5 : Int32) (l6 : Int32) (σ : PI), K78 (l1, l2, l3, l4, l5, l6, σ) → J M X (QF M X (qI Q)) σ 78 [some (.ref (X.1 252)), some (.int l1), some (.int l2), some (.int l3), some (.int l4), some (.int l5), some (.int l6)] []) (cx : Cx M X RX4 cX4_fewest 7 (some .int) 6) (l1 : Int32) (l2 : Int32) (l3 : Int32) (l4 : Int32) (l5 : Int32) (l6 : Int32) (σ : PI) (h : w_X4_fewest_127  K63 K78 Q l1 l2 l3 l4 l5 l6 σ) : J M X (QF M X (qI Q)) σ 127 [some (.ref (X.1 252)), some (.int l1), some (.int l2), some (.int l3), some (.int l4), some (.int l5), some (.int l6)] [] := by
  unfold w_X4_fewest_127 at h
  refine J_iinc cx dX4_fewest_127 rfl (by decide : _ = ((nI 1) : Int32)) (by decide) rfl rfl ?_
  refine J_goto cx (tgt := 78) dX4_fewest_130 (by decide) ?_
  exact hK78   _ _ _ _ _ _ _ h
def B_X4_fewest_78 (K63 : (Int32 × Int32 × Int32 × Int32 × Int32 × PI → Prop)) (K78 : (Int32 × Int32 × Int32 × Int32 × Int32 × Int32 × PI → Prop)) (Q : Int32 → PI → Prop) (l1 : Int32) (l2 : Int32) (l3 : Int32) (l4 : Int32) (l5 : Int32) (l6 : Int32) (σ : PI) : Prop := (((nI 1) <<< ((σ (tc 0 0) 9) &&& 31)) ≤ l6 → K63 (l1, l2, l3, l4, (l5 + (nI 1)), σ)) ∧ (¬ ((nI 1) <<< ((σ (tc 0 0) 9) &&& 31)) ≤ l6 → wp_J6_bitCount_0f7a4 l6 σ (fun r19 τ18 => ((¬ r19 = l5 → w_X4_fewest_127  K63 K78 Q l1 l2 l3 l4 l5 l6 τ18) ∧ (r19 = l5 → wp_X4_allFeel l1 l2 l3 l6 τ18 (fun r22 τ21 => ((r22 = (nI 0) → w_X4_fewest_127  K63 K78 Q l1 l2 l3 l4 l5 l6 τ21) ∧ (¬ r22 = (nI 0) → (¬ l4 = (nI 0) → Q l6 τ21) ∧ (l4 = (nI 0) → Q l5 τ21))))))))
def w_X4_fewest_78 (K63 : (Int32 × Int32 × Int32 × Int32 × Int32 × PI → Prop)) (Q : Int32 → PI → Prop) (l1 : Int32) (l2 : Int32) (l3 : Int32) (l4 : Int32) (l5 : Int32) (l6 : Int32) (σ : PI) : Prop := ∃ n, Lp (fun K a => B_X4_fewest_78  K63 K Q a.1 a.2.1 a.2.2.1 a.2.2.2.1 a.2.2.2.2.1 a.2.2.2.2.2.1 a.2.2.2.2.2.2) n (l1, l2, l3, l4, l5, l6, σ)
set_option maxRecDepth 100000 in
set_option maxHeartbeats 4000000 in
theorem j_X4_fewest_78 {M : MC} {X : XP} {Q : Int32 → PI → Prop} (K63 : (Int32 × Int32 × Int32 × Int32 × Int32 × PI → Prop)) (hK63 : ∀ (l1 : Int32) (l2 : Int32) (l3 : Int32) (l4 : Int32) (l5 : Int32) (σ : PI), K63 (l1, l2, l3, l4, l5, σ) → J M X (QF M X (qI Q)) σ 63 [some (.ref (X.1 252)), some (.int l1), some (.int l2), some (.int l3), some (.int l4), some (.int l5), none] []) (cx : Cx M X RX4 cX4_fewest 7 (some .int) 6) (l1 : Int32) (l2 : Int32) (l3 : Int32) (l4 : Int32) (l5 : Int32) (l6 : Int32) (σ : PI) (h : w_X4_fewest_78  K63 Q l1 l2 l3 l4 l5 l6 σ) : J M X (QF M X (qI Q)) σ 78 [some (.ref (X.1 252)), some (.int l1), some (.int l2), some (.int l3), some (.int l4), some (.int l5), some (.int l6)] [] := by
  refine Lp_J (P := fun (a : Int32 × Int32 × Int32 × Int32 × Int32 × Int32 × PI) => J M X (QF M X (qI Q)) (a.2.2.2.2.2.2) 78 [some (.ref (X.1 252)), some (.int a.1), some (.int a.2.1), some (.int a.2.2.1), some (.int a.2.2.2.1), some (.int a.2.2.2.2.1), some (.int a.2.2.2.2.2.1)] []) (fun K78 hK a h => ?_) h
  obtain ⟨l1, l2, l3, l4, l5, l6, σ⟩ := a
  have hK78 : ∀ (l1 : Int32) (l2 : Int32) (l3 : Int32) (l4 : Int32) (l5 : Int32) (l6 : Int32) (σ : PI), K78 (l1, l2, l3, l4, l5, l6, σ) → J M X (QF M X (qI Q)) σ 78 [some (.ref (X.1 252)), some (.int l1), some (.int l2), some (.int l3), some (.int l4), some (.int l5), some (.int l6)] [] := fun l1 l2 l3 l4 l5 l6 σ q => hK _ q
  replace h : B_X4_fewest_78  K63 K78 Q l1 l2 l3 l4 l5 l6 σ := h
  show J M X (QF M X (qI Q)) σ 78 [some (.ref (X.1 252)), some (.int l1), some (.int l2), some (.int l3), some (.int l4), some (.int l5), some (.int l6)] []
  unfold B_X4_fewest_78 at h
  refine J_iload cx dX4_fewest_78 rfl ?_
  refine J_iconst cx dX4_fewest_80 (by decide : _ = ((nI 1) : Int32)) ?_
  refine J_aload_n cx 0 dX4_fewest_81 rfl rfl ?_
  refine J_getR cx (j := (tc 0 0)) dX4_fewest_82 F_X4_37 (by decide) rfl rfl rfl ?_
  refine J_getI cx dX4_fewest_85 F_X4_122 (tc_lt (by decide) (by decide)) (kq_t0 (by decide)) rfl ?_
  refine J_ishl cx dX4_fewest_88 ?_
  refine J_icmp_ge cx (tgt := 133) dX4_fewest_89 (by decide) (fun q17 => ?_) (fun q17 => ?_)
  · replace h := h.1 q17
    refine J_iinc cx dX4_fewest_133 rfl (by decide : _ = ((nI 1) : Int32)) (by decide) rfl rfl ?_
    refine J_goto cx (tgt := 63) dX4_fewest_136 (by decide) ?_
    refine J_fg 6 rfl ?_
    exact hK63   _ _ _ _ _ _ h
  · replace h := h.2 q17
    refine J_iload cx dX4_fewest_92 rfl ?_
    refine J_cS cx dX4_fewest_94 S_X4_203 (by decide) (ct_J6_bitCount_0f7a4   _ _ _ h) rfl rfl (Nat.le_of_ble_eq_true rfl) (k_i (fun r19 τ18 h => ?_))
    refine J_iload cx dX4_fewest_97 rfl ?_
    refine J_icmp_ne cx (tgt := 127) dX4_fewest_99 (by decide) (fun q20 => ?_) (fun q20 => ?_)
    · replace h := h.1 q20
      exact j_X4_fewest_127   K63 K78 hK63 hK78 cx   _ _ _ _ _ _ _ h
    · replace h := h.2 q20
      refine J_aload_n cx 0 dX4_fewest_102 rfl rfl ?_
      refine J_iload_n cx 1 dX4_fewest_103 rfl rfl ?_
      refine J_iload_n cx 2 dX4_fewest_104 rfl rfl ?_
      refine J_iload_n cx 3 dX4_fewest_105 rfl rfl ?_
      refine J_iload cx dX4_fewest_106 rfl ?_
      refine J_cV cx dX4_fewest_108 V_X4_208 (by decide) (by decide) rfl (ct_X4_allFeel   _ _ _ _ _ _ h) rfl rfl (Nat.le_of_ble_eq_true rfl) (k_i (fun r22 τ21 h => ?_))
      refine J_if_eq cx (tgt := 127) dX4_fewest_111 (by decide) (fun q23 => ?_) (fun q23 => ?_)
      · replace h := h.1 q23
        exact j_X4_fewest_127   K63 K78 hK63 hK78 cx   _ _ _ _ _ _ _ h
      · replace h := h.2 q23
        refine J_iload cx dX4_fewest_114 rfl ?_
        refine J_if_ne cx (tgt := 124) dX4_fewest_116 (by decide) (fun q24 => ?_) (fun q24 => ?_)
        · replace h := h.1 q24
          refine J_iload cx dX4_fewest_124 rfl ?_
          exact J_iret cx dX4_fewest_126 h
        · replace h := h.2 q24
          refine J_iload cx dX4_fewest_119 rfl ?_
          refine J_goto cx (tgt := 126) dX4_fewest_121 (by decide) ?_
          exact J_iret cx dX4_fewest_126 h
def B_X4_fewest_63 (K63 : (Int32 × Int32 × Int32 × Int32 × Int32 × PI → Prop)) (Q : Int32 → PI → Prop) (l1 : Int32) (l2 : Int32) (l3 : Int32) (l4 : Int32) (l5 : Int32) (σ : PI) : Prop := ((σ (tc 0 0) 9) < l5 → Q (-1000000) σ) ∧ (¬ (σ (tc 0 0) 9) < l5 → w_X4_fewest_78  K63 Q l1 l2 l3 l4 l5 (nI 0) σ)
def w_X4_fewest_63 (Q : Int32 → PI → Prop) (l1 : Int32) (l2 : Int32) (l3 : Int32) (l4 : Int32) (l5 : Int32) (σ : PI) : Prop := ∃ n, Lp (fun K a => B_X4_fewest_63   K Q a.1 a.2.1 a.2.2.1 a.2.2.2.1 a.2.2.2.2.1 a.2.2.2.2.2) n (l1, l2, l3, l4, l5, σ)
set_option maxRecDepth 100000 in
set_option maxHeartbeats 4000000 in
theorem j_X4_fewest_63 {M : MC} {X : XP} {Q : Int32 → PI → Prop} (cx : Cx M X RX4 cX4_fewest 7 (some .int) 6) (l1 : Int32) (l2 : Int32) (l3 : Int32) (l4 : Int32) (l5 : Int32) (σ : PI) (h : w_X4_fewest_63   Q l1 l2 l3 l4 l5 σ) : J M X (QF M X (qI Q)) σ 63 [some (.ref (X.1 252)), some (.int l1), some (.int l2), some (.int l3), some (.int l4), some (.int l5), none] [] := by
  refine Lp_J (P := fun (a : Int32 × Int32 × Int32 × Int32 × Int32 × PI) => J M X (QF M X (qI Q)) (a.2.2.2.2.2) 63 [some (.ref (X.1 252)), some (.int a.1), some (.int a.2.1), some (.int a.2.2.1), some (.int a.2.2.2.1), some (.int a.2.2.2.2.1), none] []) (fun K63 hK a h => ?_) h
  obtain ⟨l1, l2, l3, l4, l5, σ⟩ := a
  have hK63 : ∀ (l1 : Int32) (l2 : Int32) (l3 : Int32) (l4 : Int32) (l5 : Int32) (σ : PI), K63 (l1, l2, l3, l4, l5, σ) → J M X (QF M X (qI Q)) σ 63 [some (.ref (X.1 252)), some (.int l1), some (.int l2), some (.int l3), some (.int l4), some (.int l5), none] [] := fun l1 l2 l3 l4 l5 σ q => hK _ q
  replace h : B_X4_fewest_63   K63 Q l1 l2 l3 l4 l5 σ := h
  show J M X (QF M X (qI Q)) σ 63 [some (.ref (X.1 252)), some (.int l1), some (.int l2), some (.int l3), some (.int l4), some (.int l5), none] []
  unfold B_X4_fewest_63 at h
  refine J_iload cx dX4_fewest_63 rfl ?_
  refine J_aload_n cx 0 dX4_fewest_65 rfl rfl ?_
  refine J_getR cx (j := (tc 0 0)) dX4_fewest_66 F_X4_37 (by decide) rfl rfl rfl ?_
  refine J_getI cx dX4_fewest_69 F_X4_122 (tc_lt (by decide) (by decide)) (kq_t0 (by decide)) rfl ?_
  refine J_icmp_gt cx (tgt := 139) dX4_fewest_72 (by decide) (fun q16 => ?_) (fun q16 => ?_)
  · replace h := h.1 q16
    refine J_ldc cx (v := (-1000000)) dX4_fewest_139 gw_462 ?_
    exact J_iret cx dX4_fewest_141 h
  · replace h := h.2 q16
    refine J_iconst cx dX4_fewest_75 (by decide : _ = ((nI 0) : Int32)) ?_
    refine J_istore cx dX4_fewest_76 (by decide) rfl rfl ?_
    exact j_X4_fewest_78   K63 hK63 cx   _ _ _ _ _ _ _ h
def wp_X4_fewest (a0 : Int32) (a1 : Int32) (a2 : Int32) (a3 : Int32) (σ : PI) (Q : Int32 → PI → Prop) : Prop := wp_X4_hasTown  σ (fun r2 τ1 => ((¬ r2 = (nI 0) → wp_X4_within a0 (nI 0) (((nI 1) <<< ((τ1 (tc 0 0) 8) &&& 31)) - (nI 1)) τ1 (fun r5 τ4 => ((r5 = (nI 0) → Q (-1000001) τ4) ∧ (¬ r5 = (nI 0) → wp_X4_within a1 (nI 1) (nI 30) τ4 (fun r8 τ7 => ((r8 = (nI 0) → Q (-1000001) τ7) ∧ (¬ r8 = (nI 0) → wp_X4_within a2 (nI 1) (nI 99) τ7 (fun r11 τ10 => ((r11 = (nI 0) → Q (-1000001) τ10) ∧ (¬ r11 = (nI 0) → wp_X4_isBit a3 τ10 (fun r14 τ13 => ((¬ r14 = (nI 0) → w_X4_fewest_63   Q a0 a1 a2 a3 (nI 0) τ13) ∧ (r14 = (nI 0) → Q (-1000001) τ13))))))))))))) ∧ (r2 = (nI 0) → Q (-1000002) τ1)))
set_option maxRecDepth 100000 in
set_option maxHeartbeats 4000000 in
theorem ct_X4_fewest {l : Launch} {X : XP} (a0 : Int32) (a1 : Int32) (a2 : Int32) (a3 : Int32) (σ : PI) (Q : Int32 → PI → Prop) (h : wp_X4_fewest  a0 a1 a2 a3 σ Q) : Ct l yX4_fewest cX4_fewest 7 (some .int) 6 X [.ref (X.1 252), .int a0, .int a1, .int a2, .int a3] σ (qI Q) := by
  refine Ct_of (L := [some (.ref (X.1 252)), some (.int a0), some (.int a1), some (.int a2), some (.int a3), none, none]) (by decide) (Nat.le_of_ble_eq_true rfl) rfl (fun M hl cx => ?_)
  subst hl
  unfold wp_X4_fewest at h
  refine J_aload_n cx 0 dX4_fewest_0 rfl rfl ?_
  refine J_cV cx dX4_fewest_1 V_X4_130 (by decide) (by decide) rfl (ct_X4_hasTown    _ _ h) rfl rfl (Nat.le_of_ble_eq_true rfl) (k_i (fun r2 τ1 h => ?_))
  refine J_if_ne cx (tgt := 10) dX4_fewest_4 (by decide) (fun q3 => ?_) (fun q3 => ?_)
  · replace h := h.1 q3
    refine J_iload_n cx 1 dX4_fewest_10 rfl rfl ?_
    refine J_iconst cx dX4_fewest_11 (by decide : _ = ((nI 0) : Int32)) ?_
    refine J_iconst cx dX4_fewest_12 (by decide : _ = ((nI 1) : Int32)) ?_
    refine J_aload_n cx 0 dX4_fewest_13 rfl rfl ?_
    refine J_getR cx (j := (tc 0 0)) dX4_fewest_14 F_X4_37 (by decide) rfl rfl rfl ?_
    refine J_getI cx dX4_fewest_17 F_X4_200 (tc_lt (by decide) (by decide)) (kq_t0 (by decide)) rfl ?_
    refine J_ishl cx dX4_fewest_20 ?_
    refine J_iconst cx dX4_fewest_21 (by decide : _ = ((nI 1) : Int32)) ?_
    refine J_isub cx dX4_fewest_22 ?_
    refine J_cS cx dX4_fewest_23 S_X4_52 (by decide) (ct_X4_within   _ _ _ _ _ h) rfl rfl (Nat.le_of_ble_eq_true rfl) (k_i (fun r5 τ4 h => ?_))
    refine J_if_eq cx (tgt := 57) dX4_fewest_26 (by decide) (fun q6 => ?_) (fun q6 => ?_)
    · replace h := h.1 q6
      refine J_ldc cx (v := (-1000001)) dX4_fewest_57 gw_212 ?_
      exact J_iret cx dX4_fewest_59 h
    · replace h := h.2 q6
      refine J_iload_n cx 2 dX4_fewest_29 rfl rfl ?_
      refine J_iconst cx dX4_fewest_30 (by decide : _ = ((nI 1) : Int32)) ?_
      refine J_bipush cx dX4_fewest_31 (by decide : _ = ((nI 30) : Int32)) ?_
      refine J_cS cx dX4_fewest_33 S_X4_52 (by decide) (ct_X4_within   _ _ _ _ _ h) rfl rfl (Nat.le_of_ble_eq_true rfl) (k_i (fun r8 τ7 h => ?_))
      refine J_if_eq cx (tgt := 57) dX4_fewest_36 (by decide) (fun q9 => ?_) (fun q9 => ?_)
      · replace h := h.1 q9
        refine J_ldc cx (v := (-1000001)) dX4_fewest_57 gw_212 ?_
        exact J_iret cx dX4_fewest_59 h
      · replace h := h.2 q9
        refine J_iload_n cx 3 dX4_fewest_39 rfl rfl ?_
        refine J_iconst cx dX4_fewest_40 (by decide : _ = ((nI 1) : Int32)) ?_
        refine J_bipush cx dX4_fewest_41 (by decide : _ = ((nI 99) : Int32)) ?_
        refine J_cS cx dX4_fewest_43 S_X4_52 (by decide) (ct_X4_within   _ _ _ _ _ h) rfl rfl (Nat.le_of_ble_eq_true rfl) (k_i (fun r11 τ10 h => ?_))
        refine J_if_eq cx (tgt := 57) dX4_fewest_46 (by decide) (fun q12 => ?_) (fun q12 => ?_)
        · replace h := h.1 q12
          refine J_ldc cx (v := (-1000001)) dX4_fewest_57 gw_212 ?_
          exact J_iret cx dX4_fewest_59 h
        · replace h := h.2 q12
          refine J_iload cx dX4_fewest_49 rfl ?_
          refine J_cS cx dX4_fewest_51 S_X4_162 (by decide) (ct_X4_isBit   _ _ _ h) rfl rfl (Nat.le_of_ble_eq_true rfl) (k_i (fun r14 τ13 h => ?_))
          refine J_if_ne cx (tgt := 60) dX4_fewest_54 (by decide) (fun q15 => ?_) (fun q15 => ?_)
          · replace h := h.1 q15
            refine J_iconst cx dX4_fewest_60 (by decide : _ = ((nI 0) : Int32)) ?_
            refine J_istore cx dX4_fewest_61 (by decide) rfl rfl ?_
            exact j_X4_fewest_63     cx   _ _ _ _ _ _ h
          · replace h := h.2 q15
            refine J_ldc cx (v := (-1000001)) dX4_fewest_57 gw_212 ?_
            exact J_iret cx dX4_fewest_59 h
  · replace h := h.2 q3
    refine J_ldc cx (v := (-1000002)) dX4_fewest_7 gw_336 ?_
    exact J_iret cx dX4_fewest_9 h
def w_X4_bestHouse_102 (K37 : (Int32 × Int32 × Int32 × Int32 × Int32 × Int32 × PI → Prop)) (Q : Int32 → PI → Prop) (l1 : Int32) (l2 : Int32) (l3 : Int32) (l4 : Int32) (l5 : Int32) (l6 : Int32) (σ : PI) : Prop := K37 (l1, l2, l3, l4, l5, (l6 + (nI 1)), σ)
set_option maxRecDepth 100000 in
set_option maxHeartbeats 4000000 in
theorem j_X4_bestHouse_102 {M : MC} {X : XP} {Q : Int32 → PI → Prop} (K37 : (Int32 × Int32 × Int32 × Int32 × Int32 × Int32 × PI → Prop)) (hK37 : ∀ (l1 : Int32) (l2 : Int32) (l3 : Int32) (l4 : Int32) (l5 : Int32) (l6 : Int32) (σ : PI), K37 (l1, l2, l3, l4, l5, l6, σ) → J M X (QF M X (qI Q)) σ 37 [some (.ref (X.1 252)), some (.int l1), some (.int l2), some (.int l3), some (.int l4), some (.int l5), some (.int l6), none] []) (cx : Cx M X RX4 cX4_bestHouse 8 (some .int) 5) (l1 : Int32) (l2 : Int32) (l3 : Int32) (l4 : Int32) (l5 : Int32) (l6 : Int32) (σ : PI) (h : w_X4_bestHouse_102  K37 Q l1 l2 l3 l4 l5 l6 σ) : J M X (QF M X (qI Q)) σ 102 [some (.ref (X.1 252)), some (.int l1), some (.int l2), some (.int l3), some (.int l4), some (.int l5), some (.int l6), none] [] := by
  unfold w_X4_bestHouse_102 at h
  refine J_iinc cx dX4_bestHouse_102 rfl (by decide : _ = ((nI 1) : Int32)) (by decide) rfl rfl ?_
  refine J_goto cx (tgt := 37) dX4_bestHouse_105 (by decide) ?_
  exact hK37   _ _ _ _ _ _ _ h
def B_X4_bestHouse_37 (K37 : (Int32 × Int32 × Int32 × Int32 × Int32 × Int32 × PI → Prop)) (Q : Int32 → PI → Prop) (l1 : Int32) (l2 : Int32) (l3 : Int32) (l4 : Int32) (l5 : Int32) (l6 : Int32) (σ : PI) : Prop := ((σ (tc 0 0) 8) ≤ l6 → (¬ l3 = (nI 0) → Q l5 σ) ∧ (l3 = (nI 0) → Q l4 σ)) ∧ (¬ (σ (tc 0 0) 8) ≤ l6 → wp_X3_copyFrom 1 0 σ (fun τ12 => (wp_X3_sendTo 1 l1 l6 τ12 (fun τ13 => (wp_X3_passDays 1 l2 τ13 (fun τ14 => (wp_X3_feltByAll 1 τ14 (fun r16 τ15 => ((r16 ≤ l5 → w_X4_bestHouse_102  K37 Q l1 l2 l3 l4 l5 l6 τ15) ∧ (¬ r16 ≤ l5 → w_X4_bestHouse_102  K37 Q l1 l2 l3 l6 r16 l6 τ15))))))))))
def w_X4_bestHouse_37 (Q : Int32 → PI → Prop) (l1 : Int32) (l2 : Int32) (l3 : Int32) (l4 : Int32) (l5 : Int32) (l6 : Int32) (σ : PI) : Prop := ∃ n, Lp (fun K a => B_X4_bestHouse_37   K Q a.1 a.2.1 a.2.2.1 a.2.2.2.1 a.2.2.2.2.1 a.2.2.2.2.2.1 a.2.2.2.2.2.2) n (l1, l2, l3, l4, l5, l6, σ)
set_option maxRecDepth 100000 in
set_option maxHeartbeats 4000000 in
theorem j_X4_bestHouse_37 {M : MC} {X : XP} {Q : Int32 → PI → Prop} (cx : Cx M X RX4 cX4_bestHouse 8 (some .int) 5) (l1 : Int32) (l2 : Int32) (l3 : Int32) (l4 : Int32) (l5 : Int32) (l6 : Int32) (σ : PI) (h : w_X4_bestHouse_37   Q l1 l2 l3 l4 l5 l6 σ) : J M X (QF M X (qI Q)) σ 37 [some (.ref (X.1 252)), some (.int l1), some (.int l2), some (.int l3), some (.int l4), some (.int l5), some (.int l6), none] [] := by
  refine Lp_J (P := fun (a : Int32 × Int32 × Int32 × Int32 × Int32 × Int32 × PI) => J M X (QF M X (qI Q)) (a.2.2.2.2.2.2) 37 [some (.ref (X.1 252)), some (.int a.1), some (.int a.2.1), some (.int a.2.2.1), some (.int a.2.2.2.1), some (.int a.2.2.2.2.1), some (.int a.2.2.2.2.2.1), none] []) (fun K37 hK a h => ?_) h
  obtain ⟨l1, l2, l3, l4, l5, l6, σ⟩ := a
  have hK37 : ∀ (l1 : Int32) (l2 : Int32) (l3 : Int32) (l4 : Int32) (l5 : Int32) (l6 : Int32) (σ : PI), K37 (l1, l2, l3, l4, l5, l6, σ) → J M X (QF M X (qI Q)) σ 37 [some (.ref (X.1 252)), some (.int l1), some (.int l2), some (.int l3), some (.int l4), some (.int l5), some (.int l6), none] [] := fun l1 l2 l3 l4 l5 l6 σ q => hK _ q
  replace h : B_X4_bestHouse_37   K37 Q l1 l2 l3 l4 l5 l6 σ := h
  show J M X (QF M X (qI Q)) σ 37 [some (.ref (X.1 252)), some (.int l1), some (.int l2), some (.int l3), some (.int l4), some (.int l5), some (.int l6), none] []
  unfold B_X4_bestHouse_37 at h
  refine J_iload cx dX4_bestHouse_37 rfl ?_
  refine J_aload_n cx 0 dX4_bestHouse_39 rfl rfl ?_
  refine J_getR cx (j := (tc 0 0)) dX4_bestHouse_40 F_X4_37 (by decide) rfl rfl rfl ?_
  refine J_getI cx dX4_bestHouse_43 F_X4_200 (tc_lt (by decide) (by decide)) (kq_t0 (by decide)) rfl ?_
  refine J_icmp_ge cx (tgt := 108) dX4_bestHouse_46 (by decide) (fun q10 => ?_) (fun q10 => ?_)
  · replace h := h.1 q10
    refine J_iload_n cx 3 dX4_bestHouse_108 rfl rfl ?_
    refine J_if_ne cx (tgt := 117) dX4_bestHouse_109 (by decide) (fun q11 => ?_) (fun q11 => ?_)
    · replace h := h.1 q11
      refine J_iload cx dX4_bestHouse_117 rfl ?_
      exact J_iret cx dX4_bestHouse_119 h
    · replace h := h.2 q11
      refine J_iload cx dX4_bestHouse_112 rfl ?_
      refine J_goto cx (tgt := 119) dX4_bestHouse_114 (by decide) ?_
      exact J_iret cx dX4_bestHouse_119 h
  · replace h := h.2 q10
    refine J_aload_n cx 0 dX4_bestHouse_49 rfl rfl ?_
    refine J_getR cx (j := (tc 1 0)) dX4_bestHouse_50 F_X4_41 (by decide) rfl rfl rfl ?_
    refine J_aload_n cx 0 dX4_bestHouse_53 rfl rfl ?_
    refine J_getR cx (j := (tc 0 0)) dX4_bestHouse_54 F_X4_37 (by decide) rfl rfl rfl ?_
    refine J_cV cx dX4_bestHouse_57 V_X4_115 (by decide) (tc_lt (by decide) (by decide)) (kq_t0 (by decide)) (ct_X3_copyFrom 1 0 (by decide) (by decide)  _ _ h) rfl rfl (Nat.le_of_ble_eq_true rfl) (k_v (fun τ12 h => ?_))
    refine J_aload_n cx 0 dX4_bestHouse_60 rfl rfl ?_
    refine J_getR cx (j := (tc 1 0)) dX4_bestHouse_61 F_X4_41 (by decide) rfl rfl rfl ?_
    refine J_iload_n cx 1 dX4_bestHouse_64 rfl rfl ?_
    refine J_iload cx dX4_bestHouse_65 rfl ?_
    refine J_cV cx dX4_bestHouse_67 V_X4_156 (by decide) (tc_lt (by decide) (by decide)) (kq_t0 (by decide)) (ct_X3_sendTo 1 (by decide) _ _ _ _ h) rfl rfl (Nat.le_of_ble_eq_true rfl) (k_v (fun τ13 h => ?_))
    refine J_aload_n cx 0 dX4_bestHouse_70 rfl rfl ?_
    refine J_getR cx (j := (tc 1 0)) dX4_bestHouse_71 F_X4_41 (by decide) rfl rfl rfl ?_
    refine J_iload_n cx 2 dX4_bestHouse_74 rfl rfl ?_
    refine J_cV cx dX4_bestHouse_75 V_X4_195 (by decide) (tc_lt (by decide) (by decide)) (kq_t0 (by decide)) (ct_X3_passDays 1 (by decide) _ _ _ h) rfl rfl (Nat.le_of_ble_eq_true rfl) (k_v (fun τ14 h => ?_))
    refine J_aload_n cx 0 dX4_bestHouse_78 rfl rfl ?_
    refine J_getR cx (j := (tc 1 0)) dX4_bestHouse_79 F_X4_41 (by decide) rfl rfl rfl ?_
    refine J_cV cx dX4_bestHouse_82 V_X4_144 (by decide) (tc_lt (by decide) (by decide)) (kq_t0 (by decide)) (ct_X3_feltByAll 1 (by decide)  _ _ h) rfl rfl (Nat.le_of_ble_eq_true rfl) (k_i (fun r16 τ15 h => ?_))
    refine J_istore cx dX4_bestHouse_85 (by decide) rfl rfl ?_
    refine J_iload cx dX4_bestHouse_87 rfl ?_
    refine J_iload cx dX4_bestHouse_89 rfl ?_
    refine J_icmp_le cx (tgt := 102) dX4_bestHouse_91 (by decide) (fun q17 => ?_) (fun q17 => ?_)
    · replace h := h.1 q17
      refine J_fg 7 rfl ?_
      exact j_X4_bestHouse_102   K37 hK37 cx   _ _ _ _ _ _ _ h
    · replace h := h.2 q17
      refine J_iload cx dX4_bestHouse_94 rfl ?_
      refine J_istore cx dX4_bestHouse_96 (by decide) rfl rfl ?_
      refine J_iload cx dX4_bestHouse_98 rfl ?_
      refine J_istore cx dX4_bestHouse_100 (by decide) rfl rfl ?_
      refine J_fg 7 rfl ?_
      exact j_X4_bestHouse_102   K37 hK37 cx   _ _ _ _ _ _ _ h
def wp_X4_bestHouse (a0 : Int32) (a1 : Int32) (a2 : Int32) (σ : PI) (Q : Int32 → PI → Prop) : Prop := wp_X4_isLeaver a0 σ (fun r2 τ1 => ((r2 = (nI 0) → Q (-1000001) τ1) ∧ (¬ r2 = (nI 0) → wp_X4_within a1 (nI 1) (nI 60) τ1 (fun r5 τ4 => ((r5 = (nI 0) → Q (-1000001) τ4) ∧ (¬ r5 = (nI 0) → wp_X4_isBit a2 τ4 (fun r8 τ7 => ((¬ r8 = (nI 0) → w_X4_bestHouse_37   Q a0 a1 a2 (nI 0) (-1) (nI 0) τ7) ∧ (r8 = (nI 0) → Q (-1000001) τ7)))))))))
set_option maxRecDepth 100000 in
set_option maxHeartbeats 4000000 in
theorem ct_X4_bestHouse {l : Launch} {X : XP} (a0 : Int32) (a1 : Int32) (a2 : Int32) (σ : PI) (Q : Int32 → PI → Prop) (h : wp_X4_bestHouse  a0 a1 a2 σ Q) : Ct l yX4_bestHouse cX4_bestHouse 8 (some .int) 5 X [.ref (X.1 252), .int a0, .int a1, .int a2] σ (qI Q) := by
  refine Ct_of (L := [some (.ref (X.1 252)), some (.int a0), some (.int a1), some (.int a2), none, none, none, none]) (by decide) (Nat.le_of_ble_eq_true rfl) rfl (fun M hl cx => ?_)
  subst hl
  unfold wp_X4_bestHouse at h
  refine J_aload_n cx 0 dX4_bestHouse_0 rfl rfl ?_
  refine J_iload_n cx 1 dX4_bestHouse_1 rfl rfl ?_
  refine J_cV cx dX4_bestHouse_2 V_X4_147 (by decide) (by decide) rfl (ct_X4_isLeaver   _ _ _ h) rfl rfl (Nat.le_of_ble_eq_true rfl) (k_i (fun r2 τ1 h => ?_))
  refine J_if_eq cx (tgt := 25) dX4_bestHouse_5 (by decide) (fun q3 => ?_) (fun q3 => ?_)
  · replace h := h.1 q3
    refine J_ldc cx (v := (-1000001)) dX4_bestHouse_25 gw_212 ?_
    exact J_iret cx dX4_bestHouse_27 h
  · replace h := h.2 q3
    refine J_iload_n cx 2 dX4_bestHouse_8 rfl rfl ?_
    refine J_iconst cx dX4_bestHouse_9 (by decide : _ = ((nI 1) : Int32)) ?_
    refine J_bipush cx dX4_bestHouse_10 (by decide : _ = ((nI 60) : Int32)) ?_
    refine J_cS cx dX4_bestHouse_12 S_X4_52 (by decide) (ct_X4_within   _ _ _ _ _ h) rfl rfl (Nat.le_of_ble_eq_true rfl) (k_i (fun r5 τ4 h => ?_))
    refine J_if_eq cx (tgt := 25) dX4_bestHouse_15 (by decide) (fun q6 => ?_) (fun q6 => ?_)
    · replace h := h.1 q6
      refine J_ldc cx (v := (-1000001)) dX4_bestHouse_25 gw_212 ?_
      exact J_iret cx dX4_bestHouse_27 h
    · replace h := h.2 q6
      refine J_iload_n cx 3 dX4_bestHouse_18 rfl rfl ?_
      refine J_cS cx dX4_bestHouse_19 S_X4_162 (by decide) (ct_X4_isBit   _ _ _ h) rfl rfl (Nat.le_of_ble_eq_true rfl) (k_i (fun r8 τ7 h => ?_))
      refine J_if_ne cx (tgt := 28) dX4_bestHouse_22 (by decide) (fun q9 => ?_) (fun q9 => ?_)
      · replace h := h.1 q9
        refine J_iconst cx dX4_bestHouse_28 (by decide : _ = ((nI 0) : Int32)) ?_
        refine J_istore cx dX4_bestHouse_29 (by decide) rfl rfl ?_
        refine J_iconst cx dX4_bestHouse_31 (by decide : _ = ((-1) : Int32)) ?_
        refine J_istore cx dX4_bestHouse_32 (by decide) rfl rfl ?_
        refine J_iconst cx dX4_bestHouse_34 (by decide : _ = ((nI 0) : Int32)) ?_
        refine J_istore cx dX4_bestHouse_35 (by decide) rfl rfl ?_
        exact j_X4_bestHouse_37     cx   _ _ _ _ _ _ _ h
      · replace h := h.2 q9
        refine J_ldc cx (v := (-1000001)) dX4_bestHouse_25 gw_212 ?_
        exact J_iret cx dX4_bestHouse_27 h
def wp_X4_feltWithout (a0 : Int32) (a1 : Int32) (σ : PI) (Q : Int32 → PI → Prop) : Prop := wp_X3_copyFrom 1 0 σ (fun τ1 => (∀ τ2 : PI, τ2 = up τ1 (tc 1 0) 14 ((nI 1) <<< (a0 &&& 31)) → (wp_X3_passDays 1 a1 τ2 (fun τ3 => (wp_X3_feltByAll 1 τ3 (fun r5 τ4 => (Q r5 τ4)))))))
set_option maxRecDepth 100000 in
set_option maxHeartbeats 4000000 in
theorem ct_X4_feltWithout {l : Launch} {X : XP} (a0 : Int32) (a1 : Int32) (σ : PI) (Q : Int32 → PI → Prop) (h : wp_X4_feltWithout  a0 a1 σ Q) : Ct l yX4_feltWithout cX4_feltWithout 3 (some .int) 5 X [.ref (X.1 252), .int a0, .int a1] σ (qI Q) := by
  refine Ct_of (L := [some (.ref (X.1 252)), some (.int a0), some (.int a1)]) (by decide) (Nat.le_of_ble_eq_true rfl) rfl (fun M hl cx => ?_)
  subst hl
  unfold wp_X4_feltWithout at h
  refine J_aload_n cx 0 dX4_feltWithout_0 rfl rfl ?_
  refine J_getR cx (j := (tc 1 0)) dX4_feltWithout_1 F_X4_41 (by decide) rfl rfl rfl ?_
  refine J_aload_n cx 0 dX4_feltWithout_4 rfl rfl ?_
  refine J_getR cx (j := (tc 0 0)) dX4_feltWithout_5 F_X4_37 (by decide) rfl rfl rfl ?_
  refine J_cV cx dX4_feltWithout_8 V_X4_115 (by decide) (tc_lt (by decide) (by decide)) (kq_t0 (by decide)) (ct_X3_copyFrom 1 0 (by decide) (by decide)  _ _ h) rfl rfl (Nat.le_of_ble_eq_true rfl) (k_v (fun τ1 h => ?_))
  refine J_aload_n cx 0 dX4_feltWithout_11 rfl rfl ?_
  refine J_getR cx (j := (tc 1 0)) dX4_feltWithout_12 F_X4_41 (by decide) rfl rfl rfl ?_
  refine J_iconst cx dX4_feltWithout_15 (by decide : _ = ((nI 1) : Int32)) ?_
  refine J_iload_n cx 1 dX4_feltWithout_16 rfl rfl ?_
  refine J_ishl cx dX4_feltWithout_17 ?_
  refine J_putI cx dX4_feltWithout_18 (P_X4_227 _) (tc_lt (by decide) (by decide)) (kq_t0 (by decide)) rfl ?_
  refine J_nm (fun τ2 e_τ2 => ?_)
  replace h := h τ2 e_τ2
  refine J_aload_n cx 0 dX4_feltWithout_21 rfl rfl ?_
  refine J_getR cx (j := (tc 1 0)) dX4_feltWithout_22 F_X4_41 (by decide) rfl rfl rfl ?_
  refine J_iload_n cx 2 dX4_feltWithout_25 rfl rfl ?_
  refine J_cV cx dX4_feltWithout_26 V_X4_195 (by decide) (tc_lt (by decide) (by decide)) (kq_t0 (by decide)) (ct_X3_passDays 1 (by decide) _ _ _ h) rfl rfl (Nat.le_of_ble_eq_true rfl) (k_v (fun τ3 h => ?_))
  refine J_aload_n cx 0 dX4_feltWithout_29 rfl rfl ?_
  refine J_getR cx (j := (tc 1 0)) dX4_feltWithout_30 F_X4_41 (by decide) rfl rfl rfl ?_
  refine J_cV cx dX4_feltWithout_33 V_X4_144 (by decide) (tc_lt (by decide) (by decide)) (kq_t0 (by decide)) (ct_X3_feltByAll 1 (by decide)  _ _ h) rfl rfl (Nat.le_of_ble_eq_true rfl) (k_i (fun r5 τ4 h => ?_))
  exact J_iret cx dX4_feltWithout_36 h
def w_X4_tells_78 (K43 : (Int32 × Int32 × Int32 × Int32 × Int32 × PI → Prop)) (Q : Int32 → PI → Prop) (l1 : Int32) (l2 : Int32) (l3 : Int32) (l4 : Int32) (l5 : Int32) (σ : PI) : Prop := K43 (l1, l2, l3, l4, (l5 + (nI 1)), σ)
set_option maxRecDepth 100000 in
set_option maxHeartbeats 4000000 in
theorem j_X4_tells_78 {M : MC} {X : XP} {Q : Int32 → PI → Prop} (K43 : (Int32 × Int32 × Int32 × Int32 × Int32 × PI → Prop)) (hK43 : ∀ (l1 : Int32) (l2 : Int32) (l3 : Int32) (l4 : Int32) (l5 : Int32) (σ : PI), K43 (l1, l2, l3, l4, l5, σ) → J M X (QF M X (qI Q)) σ 43 [some (.ref (X.1 252)), some (.int l1), some (.int l2), some (.int l3), some (.int l4), some (.int l5), none] []) (cx : Cx M X RX4 cX4_tells 7 (some .int) 6) (l1 : Int32) (l2 : Int32) (l3 : Int32) (l4 : Int32) (l5 : Int32) (σ : PI) (h : w_X4_tells_78  K43 Q l1 l2 l3 l4 l5 σ) : J M X (QF M X (qI Q)) σ 78 [some (.ref (X.1 252)), some (.int l1), some (.int l2), some (.int l3), some (.int l4), some (.int l5), none] [] := by
  unfold w_X4_tells_78 at h
  refine J_iinc cx dX4_tells_78 rfl (by decide : _ = ((nI 1) : Int32)) (by decide) rfl rfl ?_
  refine J_goto cx (tgt := 43) dX4_tells_81 (by decide) ?_
  exact hK43   _ _ _ _ _ _ h
def B_X4_tells_43 (K43 : (Int32 × Int32 × Int32 × Int32 × Int32 × PI → Prop)) (Q : Int32 → PI → Prop) (l1 : Int32) (l2 : Int32) (l3 : Int32) (l4 : Int32) (l5 : Int32) (σ : PI) : Prop := ((σ (tc 0 0) 9) ≤ l5 → (¬ l2 = (nI 0) → wp_X3_copyFrom 1 0 σ (fun τ14 => (wp_X3_passDays 1 l1 τ14 (fun τ15 => (wp_X3_feltByAll 1 τ15 (fun r17 τ16 => (Q (((nI 1000) + r17) - l4) τ16))))))) ∧ (l2 = (nI 0) → Q l3 σ)) ∧ (¬ (σ (tc 0 0) 9) ≤ l5 → wp_X4_feltWithout l5 l1 σ (fun r19 τ18 => ((l4 ≤ r19 → w_X4_tells_78  K43 Q l1 l2 l3 l4 l5 τ18) ∧ (¬ l4 ≤ r19 → w_X4_tells_78  K43 Q l1 l2 l5 r19 l5 τ18))))
def w_X4_tells_43 (Q : Int32 → PI → Prop) (l1 : Int32) (l2 : Int32) (l3 : Int32) (l4 : Int32) (l5 : Int32) (σ : PI) : Prop := ∃ n, Lp (fun K a => B_X4_tells_43   K Q a.1 a.2.1 a.2.2.1 a.2.2.2.1 a.2.2.2.2.1 a.2.2.2.2.2) n (l1, l2, l3, l4, l5, σ)
set_option maxRecDepth 100000 in
set_option maxHeartbeats 4000000 in
theorem j_X4_tells_43 {M : MC} {X : XP} {Q : Int32 → PI → Prop} (cx : Cx M X RX4 cX4_tells 7 (some .int) 6) (l1 : Int32) (l2 : Int32) (l3 : Int32) (l4 : Int32) (l5 : Int32) (σ : PI) (h : w_X4_tells_43   Q l1 l2 l3 l4 l5 σ) : J M X (QF M X (qI Q)) σ 43 [some (.ref (X.1 252)), some (.int l1), some (.int l2), some (.int l3), some (.int l4), some (.int l5), none] [] := by
  refine Lp_J (P := fun (a : Int32 × Int32 × Int32 × Int32 × Int32 × PI) => J M X (QF M X (qI Q)) (a.2.2.2.2.2) 43 [some (.ref (X.1 252)), some (.int a.1), some (.int a.2.1), some (.int a.2.2.1), some (.int a.2.2.2.1), some (.int a.2.2.2.2.1), none] []) (fun K43 hK a h => ?_) h
  obtain ⟨l1, l2, l3, l4, l5, σ⟩ := a
  have hK43 : ∀ (l1 : Int32) (l2 : Int32) (l3 : Int32) (l4 : Int32) (l5 : Int32) (σ : PI), K43 (l1, l2, l3, l4, l5, σ) → J M X (QF M X (qI Q)) σ 43 [some (.ref (X.1 252)), some (.int l1), some (.int l2), some (.int l3), some (.int l4), some (.int l5), none] [] := fun l1 l2 l3 l4 l5 σ q => hK _ q
  replace h : B_X4_tells_43   K43 Q l1 l2 l3 l4 l5 σ := h
  show J M X (QF M X (qI Q)) σ 43 [some (.ref (X.1 252)), some (.int l1), some (.int l2), some (.int l3), some (.int l4), some (.int l5), none] []
  unfold B_X4_tells_43 at h
  refine J_iload cx dX4_tells_43 rfl ?_
  refine J_aload_n cx 0 dX4_tells_45 rfl rfl ?_
  refine J_getR cx (j := (tc 0 0)) dX4_tells_46 F_X4_37 (by decide) rfl rfl rfl ?_
  refine J_getI cx dX4_tells_49 F_X4_122 (tc_lt (by decide) (by decide)) (kq_t0 (by decide)) rfl ?_
  refine J_icmp_ge cx (tgt := 84) dX4_tells_52 (by decide) (fun q12 => ?_) (fun q12 => ?_)
  · replace h := h.1 q12
    refine J_iload_n cx 2 dX4_tells_84 rfl rfl ?_
    refine J_if_ne cx (tgt := 90) dX4_tells_85 (by decide) (fun q13 => ?_) (fun q13 => ?_)
    · replace h := h.1 q13
      refine J_aload_n cx 0 dX4_tells_90 rfl rfl ?_
      refine J_getR cx (j := (tc 1 0)) dX4_tells_91 F_X4_41 (by decide) rfl rfl rfl ?_
      refine J_aload_n cx 0 dX4_tells_94 rfl rfl ?_
      refine J_getR cx (j := (tc 0 0)) dX4_tells_95 F_X4_37 (by decide) rfl rfl rfl ?_
      refine J_cV cx dX4_tells_98 V_X4_115 (by decide) (tc_lt (by decide) (by decide)) (kq_t0 (by decide)) (ct_X3_copyFrom 1 0 (by decide) (by decide)  _ _ h) rfl rfl (Nat.le_of_ble_eq_true rfl) (k_v (fun τ14 h => ?_))
      refine J_aload_n cx 0 dX4_tells_101 rfl rfl ?_
      refine J_getR cx (j := (tc 1 0)) dX4_tells_102 F_X4_41 (by decide) rfl rfl rfl ?_
      refine J_iload_n cx 1 dX4_tells_105 rfl rfl ?_
      refine J_cV cx dX4_tells_106 V_X4_195 (by decide) (tc_lt (by decide) (by decide)) (kq_t0 (by decide)) (ct_X3_passDays 1 (by decide) _ _ _ h) rfl rfl (Nat.le_of_ble_eq_true rfl) (k_v (fun τ15 h => ?_))
      refine J_sipush cx dX4_tells_109 (by decide : _ = ((nI 1000) : Int32)) ?_
      refine J_aload_n cx 0 dX4_tells_112 rfl rfl ?_
      refine J_getR cx (j := (tc 1 0)) dX4_tells_113 F_X4_41 (by decide) rfl rfl rfl ?_
      refine J_cV cx dX4_tells_116 V_X4_144 (by decide) (tc_lt (by decide) (by decide)) (kq_t0 (by decide)) (ct_X3_feltByAll 1 (by decide)  _ _ h) rfl rfl (Nat.le_of_ble_eq_true rfl) (k_i (fun r17 τ16 h => ?_))
      refine J_iadd cx dX4_tells_119 ?_
      refine J_iload cx dX4_tells_120 rfl ?_
      refine J_isub cx dX4_tells_122 ?_
      exact J_iret cx dX4_tells_123 h
    · replace h := h.2 q13
      refine J_iload_n cx 3 dX4_tells_88 rfl rfl ?_
      exact J_iret cx dX4_tells_89 h
  · replace h := h.2 q12
    refine J_aload_n cx 0 dX4_tells_55 rfl rfl ?_
    refine J_iload cx dX4_tells_56 rfl ?_
    refine J_iload_n cx 1 dX4_tells_58 rfl rfl ?_
    refine J_cV cx dX4_tells_59 V_X4_212 (by decide) (by decide) rfl (ct_X4_feltWithout   _ _ _ _ h) rfl rfl (Nat.le_of_ble_eq_true rfl) (k_i (fun r19 τ18 h => ?_))
    refine J_istore cx dX4_tells_62 (by decide) rfl rfl ?_
    refine J_iload cx dX4_tells_64 rfl ?_
    refine J_iload cx dX4_tells_66 rfl ?_
    refine J_icmp_ge cx (tgt := 78) dX4_tells_68 (by decide) (fun q20 => ?_) (fun q20 => ?_)
    · replace h := h.1 q20
      refine J_fg 6 rfl ?_
      exact j_X4_tells_78   K43 hK43 cx   _ _ _ _ _ _ h
    · replace h := h.2 q20
      refine J_iload cx dX4_tells_71 rfl ?_
      refine J_istore cx dX4_tells_73 (by decide) rfl rfl ?_
      refine J_iload cx dX4_tells_75 rfl ?_
      refine J_istore_n cx 3 dX4_tells_77 rfl (by decide) rfl rfl ?_
      refine J_fg 6 rfl ?_
      exact j_X4_tells_78   K43 hK43 cx   _ _ _ _ _ _ h
def wp_X4_tells (a0 : Int32) (a1 : Int32) (σ : PI) (Q : Int32 → PI → Prop) : Prop := wp_X4_hasTown  σ (fun r2 τ1 => ((¬ r2 = (nI 0) → wp_X4_within a0 (nI 1) (nI 60) τ1 (fun r5 τ4 => ((r5 = (nI 0) → Q (-1000001) τ4) ∧ (¬ r5 = (nI 0) → wp_X4_isBit a1 τ4 (fun r8 τ7 => ((¬ r8 = (nI 0) → wp_X4_feltWithout (nI 0) a0 τ7 (fun r11 τ10 => (w_X4_tells_43   Q a0 a1 (nI 0) r11 (nI 1) τ10))) ∧ (r8 = (nI 0) → Q (-1000001) τ7))))))) ∧ (r2 = (nI 0) → Q (-1000002) τ1)))
set_option maxRecDepth 100000 in
set_option maxHeartbeats 4000000 in
theorem ct_X4_tells {l : Launch} {X : XP} (a0 : Int32) (a1 : Int32) (σ : PI) (Q : Int32 → PI → Prop) (h : wp_X4_tells  a0 a1 σ Q) : Ct l yX4_tells cX4_tells 7 (some .int) 6 X [.ref (X.1 252), .int a0, .int a1] σ (qI Q) := by
  refine Ct_of (L := [some (.ref (X.1 252)), some (.int a0), some (.int a1), none, none, none, none]) (by decide) (Nat.le_of_ble_eq_true rfl) rfl (fun M hl cx => ?_)
  subst hl
  unfold wp_X4_tells at h
  refine J_aload_n cx 0 dX4_tells_0 rfl rfl ?_
  refine J_cV cx dX4_tells_1 V_X4_130 (by decide) (by decide) rfl (ct_X4_hasTown    _ _ h) rfl rfl (Nat.le_of_ble_eq_true rfl) (k_i (fun r2 τ1 h => ?_))
  refine J_if_ne cx (tgt := 10) dX4_tells_4 (by decide) (fun q3 => ?_) (fun q3 => ?_)
  · replace h := h.1 q3
    refine J_iload_n cx 1 dX4_tells_10 rfl rfl ?_
    refine J_iconst cx dX4_tells_11 (by decide : _ = ((nI 1) : Int32)) ?_
    refine J_bipush cx dX4_tells_12 (by decide : _ = ((nI 60) : Int32)) ?_
    refine J_cS cx dX4_tells_14 S_X4_52 (by decide) (ct_X4_within   _ _ _ _ _ h) rfl rfl (Nat.le_of_ble_eq_true rfl) (k_i (fun r5 τ4 h => ?_))
    refine J_if_eq cx (tgt := 27) dX4_tells_17 (by decide) (fun q6 => ?_) (fun q6 => ?_)
    · replace h := h.1 q6
      refine J_ldc cx (v := (-1000001)) dX4_tells_27 gw_212 ?_
      exact J_iret cx dX4_tells_29 h
    · replace h := h.2 q6
      refine J_iload_n cx 2 dX4_tells_20 rfl rfl ?_
      refine J_cS cx dX4_tells_21 S_X4_162 (by decide) (ct_X4_isBit   _ _ _ h) rfl rfl (Nat.le_of_ble_eq_true rfl) (k_i (fun r8 τ7 h => ?_))
      refine J_if_ne cx (tgt := 30) dX4_tells_24 (by decide) (fun q9 => ?_) (fun q9 => ?_)
      · replace h := h.1 q9
        refine J_iconst cx dX4_tells_30 (by decide : _ = ((nI 0) : Int32)) ?_
        refine J_istore_n cx 3 dX4_tells_31 rfl (by decide) rfl rfl ?_
        refine J_aload_n cx 0 dX4_tells_32 rfl rfl ?_
        refine J_iconst cx dX4_tells_33 (by decide : _ = ((nI 0) : Int32)) ?_
        refine J_iload_n cx 1 dX4_tells_34 rfl rfl ?_
        refine J_cV cx dX4_tells_35 V_X4_212 (by decide) (by decide) rfl (ct_X4_feltWithout   _ _ _ _ h) rfl rfl (Nat.le_of_ble_eq_true rfl) (k_i (fun r11 τ10 h => ?_))
        refine J_istore cx dX4_tells_38 (by decide) rfl rfl ?_
        refine J_iconst cx dX4_tells_40 (by decide : _ = ((nI 1) : Int32)) ?_
        refine J_istore cx dX4_tells_41 (by decide) rfl rfl ?_
        exact j_X4_tells_43     cx   _ _ _ _ _ _ h
      · replace h := h.2 q9
        refine J_ldc cx (v := (-1000001)) dX4_tells_27 gw_212 ?_
        exact J_iret cx dX4_tells_29 h
  · replace h := h.2 q3
    refine J_ldc cx (v := (-1000002)) dX4_tells_7 gw_336 ?_
    exact J_iret cx dX4_tells_9 h
