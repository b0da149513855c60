def B_X5_takeBack_2 (K2 : (Int32 × PI → Prop)) (Q : PI → Prop) (l1 : Int32) (σ : PI) : Prop := ((nI 70) ≤ l1 → Q σ) ∧ (¬ (nI 70) ≤ l1 → vp_in l1 70 ∧ (vp_in l1 70 ∧ (∀ τ4 : PI, τ4 = up σ 280 (l1 : Int32).toNatClampNeg (σ 285 (l1 : Int32).toNatClampNeg) → (K2 ((l1 + (nI 1)), τ4)))))
def w_X5_takeBack_2 (Q : PI → Prop) (l1 : Int32) (σ : PI) : Prop := ∃ n, Lp (fun K a => B_X5_takeBack_2   K Q a.1 a.2) n (l1, σ)
set_option maxRecDepth 100000 in
set_option maxHeartbeats 4000000 in
theorem j_X5_takeBack_2 {M : MC} {X : XP} {Q : PI → Prop} (cx : Cx M X RX5 cX5_takeBack 2 none 0) (l1 : Int32) (σ : PI) (h : w_X5_takeBack_2   Q l1 σ) : J M X (QF M X (qV Q)) σ 2 [some (.ref (X.1 276)), some (.int l1)] [] := by
  refine Lp_J (P := fun (a : Int32 × PI) => J M X (QF M X (qV Q)) (a.2) 2 [some (.ref (X.1 276)), some (.int a.1)] []) (fun K2 hK a h => ?_) h
  obtain ⟨l1, σ⟩ := a
  have hK2 : ∀ (l1 : Int32) (σ : PI), K2 (l1, σ) → J M X (QF M X (qV Q)) σ 2 [some (.ref (X.1 276)), some (.int l1)] [] := fun l1 σ q => hK _ q
  replace h : B_X5_takeBack_2   K2 Q l1 σ := h
  show J M X (QF M X (qV Q)) σ 2 [some (.ref (X.1 276)), some (.int l1)] []
  unfold B_X5_takeBack_2 at h
  refine J_iload_n cx 1 dX5_takeBack_2 rfl rfl ?_
  refine J_bipush cx dX5_takeBack_3 (by decide : _ = ((nI 70) : Int32)) ?_
  refine J_icmp_ge cx (tgt := 26) dX5_takeBack_5 (by decide) (fun q1 => ?_) (fun q1 => ?_)
  · replace h := h.1 q1
    exact J_vret cx dX5_takeBack_26 h
  · replace h := h.2 q1
    refine J_aload_n cx 0 dX5_takeBack_8 rfl rfl ?_
    refine J_getR cx (j := 280) dX5_takeBack_9 F_X5_19 (by decide) rfl rfl rfl ?_
    refine J_iload_n cx 1 dX5_takeBack_12 rfl rfl ?_
    refine J_aload_n cx 0 dX5_takeBack_13 rfl rfl ?_
    refine J_getR cx (j := 285) dX5_takeBack_14 F_X5_34 (by decide) rfl rfl rfl ?_
    refine J_iload_n cx 1 dX5_takeBack_17 rfl rfl ?_
    obtain ⟨s2, h⟩ := h
    refine J_iald cx dX5_takeBack_18 (by decide) rfl s2 ?_
    obtain ⟨s3, h⟩ := h
    refine J_iast cx dX5_takeBack_19 (by decide) rfl s3 ?_
    refine J_nm (fun τ4 e_τ4 => ?_)
    replace h := h τ4 e_τ4
    refine J_iinc cx dX5_takeBack_20 rfl (by decide : _ = ((nI 1) : Int32)) (by decide) rfl rfl ?_
    refine J_goto cx (tgt := 2) dX5_takeBack_23 (by decide) ?_
    exact hK2   _ _ h
def wp_X5_takeBack (σ : PI) (Q : PI → Prop) : Prop := w_X5_takeBack_2   Q (nI 0) σ
set_option maxRecDepth 100000 in
set_option maxHeartbeats 4000000 in
theorem ct_X5_takeBack {l : Launch} {X : XP} (σ : PI) (Q : PI → Prop) (h : wp_X5_takeBack   σ Q) : Ct l yX5_takeBack cX5_takeBack 2 none 0 X [.ref (X.1 276)] σ (qV Q) := by
  refine Ct_of (L := [some (.ref (X.1 276)), none]) (by decide) (Nat.le_of_ble_eq_true rfl) rfl (fun M hl cx => ?_)
  subst hl
  unfold wp_X5_takeBack at h
  refine J_iconst cx dX5_takeBack_0 (by decide : _ = ((nI 0) : Int32)) ?_
  refine J_istore_n cx 1 dX5_takeBack_1 rfl (by decide) rfl rfl ?_
  exact j_X5_takeBack_2     cx   _ _ h
def B_X5_goOn_2 (K2 : (Int32 × Int32 × PI → Prop)) (Q : PI → Prop) (l1 : Int32) (l2 : Int32) (σ : PI) : Prop := (l1 ≤ l2 → Q σ) ∧ (¬ l1 ≤ l2 → wp_X5_oneDay  σ (fun τ2 => (K2 (l1, (l2 + (nI 1)), τ2))))
def w_X5_goOn_2 (Q : PI → Prop) (l1 : Int32) (l2 : Int32) (σ : PI) : Prop := ∃ n, Lp (fun K a => B_X5_goOn_2   K Q a.1 a.2.1 a.2.2) n (l1, l2, σ)
set_option maxRecDepth 100000 in
set_option maxHeartbeats 4000000 in
theorem j_X5_goOn_2 {M : MC} {X : XP} {Q : PI → Prop} (cx : Cx M X RX5 cX5_goOn 3 none 5) (l1 : Int32) (l2 : Int32) (σ : PI) (h : w_X5_goOn_2   Q l1 l2 σ) : J M X (QF M X (qV Q)) σ 2 [some (.ref (X.1 276)), some (.int l1), some (.int l2)] [] := by
  refine Lp_J (P := fun (a : Int32 × Int32 × PI) => J M X (QF M X (qV Q)) (a.2.2) 2 [some (.ref (X.1 276)), some (.int a.1), some (.int a.2.1)] []) (fun K2 hK a h => ?_) h
  obtain ⟨l1, l2, σ⟩ := a
  have hK2 : ∀ (l1 : Int32) (l2 : Int32) (σ : PI), K2 (l1, l2, σ) → J M X (QF M X (qV Q)) σ 2 [some (.ref (X.1 276)), some (.int l1), some (.int l2)] [] := fun l1 l2 σ q => hK _ q
  replace h : B_X5_goOn_2   K2 Q l1 l2 σ := h
  show J M X (QF M X (qV Q)) σ 2 [some (.ref (X.1 276)), some (.int l1), some (.int l2)] []
  unfold B_X5_goOn_2 at h
  refine J_iload_n cx 2 dX5_goOn_2 rfl rfl ?_
  refine J_iload_n cx 1 dX5_goOn_3 rfl rfl ?_
  refine J_icmp_ge cx (tgt := 17) dX5_goOn_4 (by decide) (fun q1 => ?_) (fun q1 => ?_)
  · replace h := h.1 q1
    exact J_vret cx dX5_goOn_17 h
  · replace h := h.2 q1
    refine J_aload_n cx 0 dX5_goOn_7 rfl rfl ?_
    refine J_cV cx dX5_goOn_8 V_X5_173 (by decide) (by decide) rfl (ct_X5_oneDay    _ _ h) rfl rfl (Nat.le_of_ble_eq_true rfl) (k_v (fun τ2 h => ?_))
    refine J_iinc cx dX5_goOn_11 rfl (by decide : _ = ((nI 1) : Int32)) (by decide) rfl rfl ?_
    refine J_goto cx (tgt := 2) dX5_goOn_14 (by decide) ?_
    exact hK2   _ _ _ h
def wp_X5_goOn (a0 : Int32) (σ : PI) (Q : PI → Prop) : Prop := w_X5_goOn_2   Q a0 (nI 0) σ
set_option maxRecDepth 100000 in
set_option maxHeartbeats 4000000 in
theorem ct_X5_goOn {l : Launch} {X : XP} (a0 : Int32) (σ : PI) (Q : PI → Prop) (h : wp_X5_goOn  a0 σ Q) : Ct l yX5_goOn cX5_goOn 3 none 5 X [.ref (X.1 276), .int a0] σ (qV Q) := by
  refine Ct_of (L := [some (.ref (X.1 276)), some (.int a0), none]) (by decide) (Nat.le_of_ble_eq_true rfl) rfl (fun M hl cx => ?_)
  subst hl
  unfold wp_X5_goOn at h
  refine J_iconst cx dX5_goOn_0 (by decide : _ = ((nI 0) : Int32)) ?_
  refine J_istore_n cx 2 dX5_goOn_1 rfl (by decide) rfl rfl ?_
  exact j_X5_goOn_2     cx   _ _ _ h
def wp_X5_isWhat (a0 : Int32) (σ : PI) (Q : Int32 → PI → Prop) : Prop := wp_X5_in (a0 : Int32).toInt64 (lN 0) (lN 1) σ (fun r2 τ1 => (bz r2 ∧ Q r2 τ1))
set_option maxRecDepth 100000 in
set_option maxHeartbeats 4000000 in
theorem ct_X5_isWhat {l : Launch} {X : XP} (a0 : Int32) (σ : PI) (Q : Int32 → PI → Prop) (h : wp_X5_isWhat  a0 σ Q) : Ct l yX5_isWhat cX5_isWhat 1 (some .boolean) 1 X [.int a0] σ (qI Q) := by
  refine Ct_of (L := [some (.int a0)]) (by decide) (Nat.le_of_ble_eq_true rfl) rfl (fun M hl cx => ?_)
  subst hl
  unfold wp_X5_isWhat at h
  refine J_iload_n cx 0 dX5_isWhat_0 rfl rfl ?_
  refine J_i2l cx dX5_isWhat_1 ?_
  refine J_lconst cx dX5_isWhat_2 (by decide : _ = ((lN 0) : Int64)) ?_
  refine J_lconst cx dX5_isWhat_3 (by decide : _ = ((lN 1) : Int64)) ?_
  refine J_cS cx dX5_isWhat_4 S_X5_54 (by decide) (ct_X5_in   _ _ _ _ _ h) rfl rfl (Nat.le_of_ble_eq_true rfl) (k_i (fun r2 τ1 h => ?_))
  exact J_zret cx dX5_isWhat_7 h.1 h.2
def wp_X5_ahead (a0 : Int32) (a1 : Int32) (σ : PI) (Q : Int32 → PI → Prop) : Prop := wp_X5_isMan a0 σ (fun r2 τ1 => ((r2 = (nI 0) → Q (-1000001) τ1) ∧ (¬ r2 = (nI 0) → wp_X5_in (a1 : Int32).toInt64 (lN 0) (lN 60) τ1 (fun r5 τ4 => ((¬ r5 = (nI 0) → wp_X5_putAside  τ4 (fun τ7 => (wp_X5_goOn a1 τ7 (fun τ8 => (vp_in ((nI 6) + a0) 70 ∧ (∀ x10 : Int32, x10 = (τ8 280 (((nI 6) + a0) : Int32).toNatClampNeg) → (wp_X5_takeBack  τ8 (fun τ11 => (Q x10 τ11))))))))) ∧ (r5 = (nI 0) → Q (-1000001) τ4))))))
set_option maxRecDepth 100000 in
set_option maxHeartbeats 4000000 in
theorem ct_X5_ahead {l : Launch} {X : XP} (a0 : Int32) (a1 : Int32) (σ : PI) (Q : Int32 → PI → Prop) (h : wp_X5_ahead  a0 a1 σ Q) : Ct l yX5_ahead cX5_ahead 4 (some .int) 6 X [.ref (X.1 276), .int a0, .int a1] σ (qI Q) := by
  refine Ct_of (L := [some (.ref (X.1 276)), some (.int a0), some (.int a1), none]) (by decide) (Nat.le_of_ble_eq_true rfl) rfl (fun M hl cx => ?_)
  subst hl
  unfold wp_X5_ahead at h
  refine J_aload_n cx 0 dX5_ahead_0 rfl rfl ?_
  refine J_iload_n cx 1 dX5_ahead_1 rfl rfl ?_
  refine J_cV cx dX5_ahead_2 V_X5_183 (by decide) (by decide) rfl (ct_X5_isMan   _ _ _ h) rfl rfl (Nat.le_of_ble_eq_true rfl) (k_i (fun r2 τ1 h => ?_))
  refine J_if_eq cx (tgt := 20) dX5_ahead_5 (by decide) (fun q3 => ?_) (fun q3 => ?_)
  · replace h := h.1 q3
    refine J_ldc cx (v := (-1000001)) dX5_ahead_20 gw_742 ?_
    exact J_iret cx dX5_ahead_22 h
  · replace h := h.2 q3
    refine J_iload_n cx 2 dX5_ahead_8 rfl rfl ?_
    refine J_i2l cx dX5_ahead_9 ?_
    refine J_lconst cx dX5_ahead_10 (by decide : _ = ((lN 0) : Int64)) ?_
    refine J_ldc2 cx (v := (lN 60)) dX5_ahead_11 gw_904 ?_
    refine J_cS cx dX5_ahead_14 S_X5_54 (by decide) (ct_X5_in   _ _ _ _ _ h) rfl rfl (Nat.le_of_ble_eq_true rfl) (k_i (fun r5 τ4 h => ?_))
    refine J_if_ne cx (tgt := 23) dX5_ahead_17 (by decide) (fun q6 => ?_) (fun q6 => ?_)
    · replace h := h.1 q6
      refine J_aload_n cx 0 dX5_ahead_23 rfl rfl ?_
      refine J_cV cx dX5_ahead_24 V_X5_194 (by decide) (by decide) rfl (ct_X5_putAside    _ _ h) rfl rfl (Nat.le_of_ble_eq_true rfl) (k_v (fun τ7 h => ?_))
      refine J_aload_n cx 0 dX5_ahead_27 rfl rfl ?_
      refine J_iload_n cx 2 dX5_ahead_28 rfl rfl ?_
      refine J_cV cx dX5_ahead_29 V_X5_197 (by decide) (by decide) rfl (ct_X5_goOn   _ _ _ h) rfl rfl (Nat.le_of_ble_eq_true rfl) (k_v (fun τ8 h => ?_))
      refine J_aload_n cx 0 dX5_ahead_32 rfl rfl ?_
      refine J_getR cx (j := 280) dX5_ahead_33 F_X5_19 (by decide) rfl rfl rfl ?_
      refine J_bipush cx dX5_ahead_36 (by decide : _ = ((nI 6) : Int32)) ?_
      refine J_iload_n cx 1 dX5_ahead_38 rfl rfl ?_
      refine J_iadd cx dX5_ahead_39 ?_
      obtain ⟨s9, h⟩ := h
      refine J_iald cx dX5_ahead_40 (by decide) rfl s9 ?_
      refine J_topi (fun x10 e_x10 => ?_)
      replace h := h x10 e_x10
      refine J_istore_n cx 3 dX5_ahead_41 rfl (by decide) rfl rfl ?_
      refine J_aload_n cx 0 dX5_ahead_42 rfl rfl ?_
      refine J_cV cx dX5_ahead_43 V_X5_201 (by decide) (by decide) rfl (ct_X5_takeBack    _ _ h) rfl rfl (Nat.le_of_ble_eq_true rfl) (k_v (fun τ11 h => ?_))
      refine J_iload_n cx 3 dX5_ahead_46 rfl rfl ?_
      exact J_iret cx dX5_ahead_47 h
    · replace h := h.2 q6
      refine J_ldc cx (v := (-1000001)) dX5_ahead_20 gw_742 ?_
      exact J_iret cx dX5_ahead_22 h
def wp_X5_awayAhead (a0 : Int32) (a1 : Int32) (σ : PI) (Q : Int32 → PI → Prop) : Prop := wp_X5_isMan a0 σ (fun r2 τ1 => ((r2 = (nI 0) → Q (-1000001) τ1) ∧ (¬ r2 = (nI 0) → wp_X5_in (a1 : Int32).toInt64 (lN 0) (lN 60) τ1 (fun r5 τ4 => ((¬ r5 = (nI 0) → ∀ x7 : Int32, x7 = (τ4 280 4) → (∀ τ8 : PI, τ8 = up τ4 280 4 (x7 + a1) → (wp_X5_awayFrom a0 τ8 (fun r10 τ9 => (∀ τ11 : PI, τ11 = up τ9 280 4 x7 → (Q r10 τ11)))))) ∧ (r5 = (nI 0) → Q (-1000001) τ4))))))
set_option maxRecDepth 100000 in
set_option maxHeartbeats 4000000 in
theorem ct_X5_awayAhead {l : Launch} {X : XP} (a0 : Int32) (a1 : Int32) (σ : PI) (Q : Int32 → PI → Prop) (h : wp_X5_awayAhead  a0 a1 σ Q) : Ct l yX5_awayAhead cX5_awayAhead 5 (some .int) 2 X [.ref (X.1 276), .int a0, .int a1] σ (qI Q) := by
  refine Ct_of (L := [some (.ref (X.1 276)), some (.int a0), some (.int a1), none, none]) (by decide) (Nat.le_of_ble_eq_true rfl) rfl (fun M hl cx => ?_)
  subst hl
  unfold wp_X5_awayAhead at h
  refine J_aload_n cx 0 dX5_awayAhead_0 rfl rfl ?_
  refine J_iload_n cx 1 dX5_awayAhead_1 rfl rfl ?_
  refine J_cV cx dX5_awayAhead_2 V_X5_183 (by decide) (by decide) rfl (ct_X5_isMan   _ _ _ h) rfl rfl (Nat.le_of_ble_eq_true rfl) (k_i (fun r2 τ1 h => ?_))
  refine J_if_eq cx (tgt := 20) dX5_awayAhead_5 (by decide) (fun q3 => ?_) (fun q3 => ?_)
  · replace h := h.1 q3
    refine J_ldc cx (v := (-1000001)) dX5_awayAhead_20 gw_742 ?_
    exact J_iret cx dX5_awayAhead_22 h
  · replace h := h.2 q3
    refine J_iload_n cx 2 dX5_awayAhead_8 rfl rfl ?_
    refine J_i2l cx dX5_awayAhead_9 ?_
    refine J_lconst cx dX5_awayAhead_10 (by decide : _ = ((lN 0) : Int64)) ?_
    refine J_ldc2 cx (v := (lN 60)) dX5_awayAhead_11 gw_904 ?_
    refine J_cS cx dX5_awayAhead_14 S_X5_54 (by decide) (ct_X5_in   _ _ _ _ _ h) rfl rfl (Nat.le_of_ble_eq_true rfl) (k_i (fun r5 τ4 h => ?_))
    refine J_if_ne cx (tgt := 23) dX5_awayAhead_17 (by decide) (fun q6 => ?_) (fun q6 => ?_)
    · replace h := h.1 q6
      refine J_aload_n cx 0 dX5_awayAhead_23 rfl rfl ?_
      refine J_getR cx (j := 280) dX5_awayAhead_24 F_X5_19 (by decide) rfl rfl rfl ?_
      refine J_iconst cx dX5_awayAhead_27 (by decide : _ = ((nI 4) : Int32)) ?_
      refine J_iald cx dX5_awayAhead_28 (by decide) rfl (vpl (by decide)) ?_
      refine J_topi (fun x7 e_x7 => ?_)
      replace h := h x7 e_x7
      refine J_istore_n cx 3 dX5_awayAhead_29 rfl (by decide) rfl rfl ?_
      refine J_aload_n cx 0 dX5_awayAhead_30 rfl rfl ?_
      refine J_getR cx (j := 280) dX5_awayAhead_31 F_X5_19 (by decide) rfl rfl rfl ?_
      refine J_iconst cx dX5_awayAhead_34 (by decide : _ = ((nI 4) : Int32)) ?_
      refine J_iload_n cx 3 dX5_awayAhead_35 rfl rfl ?_
      refine J_iload_n cx 2 dX5_awayAhead_36 rfl rfl ?_
      refine J_iadd cx dX5_awayAhead_37 ?_
      refine J_iast cx dX5_awayAhead_38 (by decide) rfl (vpl (by decide)) ?_
      refine J_nm (fun τ8 e_τ8 => ?_)
      replace h := h τ8 e_τ8
      refine J_aload_n cx 0 dX5_awayAhead_39 rfl rfl ?_
      refine J_iload_n cx 1 dX5_awayAhead_40 rfl rfl ?_
      refine J_cV cx dX5_awayAhead_41 V_X5_155 (by decide) (by decide) rfl (ct_X5_awayFrom   _ _ _ h) rfl rfl (Nat.le_of_ble_eq_true rfl) (k_i (fun r10 τ9 h => ?_))
      refine J_istore cx dX5_awayAhead_44 (by decide) rfl rfl ?_
      refine J_aload_n cx 0 dX5_awayAhead_46 rfl rfl ?_
      refine J_getR cx (j := 280) dX5_awayAhead_47 F_X5_19 (by decide) rfl rfl rfl ?_
      refine J_iconst cx dX5_awayAhead_50 (by decide : _ = ((nI 4) : Int32)) ?_
      refine J_iload_n cx 3 dX5_awayAhead_51 rfl rfl ?_
      refine J_iast cx dX5_awayAhead_52 (by decide) rfl (vpl (by decide)) ?_
      refine J_nm (fun τ11 e_τ11 => ?_)
      replace h := h τ11 e_τ11
      refine J_iload cx dX5_awayAhead_53 rfl ?_
      exact J_iret cx dX5_awayAhead_55 h
    · replace h := h.2 q6
      refine J_ldc cx (v := (-1000001)) dX5_awayAhead_20 gw_742 ?_
      exact J_iret cx dX5_awayAhead_22 h
def w_X5_first_66 (Q : Int32 → PI → Prop) (l2 : Int32) (l3 : Int32) (σ : PI) : Prop := ∀ τ10 : PI, τ10 = up σ 280 4 l2 → (Q l3 τ10)
set_option maxRecDepth 100000 in
set_option maxHeartbeats 4000000 in
theorem j_X5_first_66 {M : MC} {X : XP} {Q : Int32 → PI → Prop} (cx : Cx M X RX5 cX5_first 5 (some .int) 2) (l2 : Int32) (l3 : Int32) (σ : PI) (h : w_X5_first_66   Q l2 l3 σ) : J M X (QF M X (qI Q)) σ 66 [some (.ref (X.1 276)), none, some (.int l2), some (.int l3), none] [] := by
  unfold w_X5_first_66 at h
  refine J_aload_n cx 0 dX5_first_66 rfl rfl ?_
  refine J_getR cx (j := 280) dX5_first_67 F_X5_19 (by decide) rfl rfl rfl ?_
  refine J_iconst cx dX5_first_70 (by decide : _ = ((nI 4) : Int32)) ?_
  refine J_iload_n cx 2 dX5_first_71 rfl rfl ?_
  refine J_iast cx dX5_first_72 (by decide) rfl (vpl (by decide)) ?_
  refine J_nm (fun τ10 e_τ10 => ?_)
  replace h := h τ10 e_τ10
  refine J_iload_n cx 3 dX5_first_73 rfl rfl ?_
  exact J_iret cx dX5_first_74 h
def w_X5_first_49 (K24 : (Int32 × Int32 × Int32 × Int32 × PI → Prop)) (Q : Int32 → PI → Prop) (l1 : Int32) (l2 : Int32) (l4 : Int32) (s0 : Int32) (σ : PI) : Prop := ∀ τ11 : PI, τ11 = up σ 280 4 ((σ 280 4) + (nI 1)) → (K24 (l1, l2, s0, (l4 + (nI 1)), τ11))
set_option maxRecDepth 100000 in
set_option maxHeartbeats 4000000 in
theorem j_X5_first_49 {M : MC} {X : XP} {Q : Int32 → PI → Prop} (K24 : (Int32 × Int32 × Int32 × Int32 × PI → Prop)) (hK24 : ∀ (l1 : Int32) (l2 : Int32) (l3 : Int32) (l4 : Int32) (σ : PI), K24 (l1, l2, l3, l4, σ) → J M X (QF M X (qI Q)) σ 24 [some (.ref (X.1 276)), some (.int l1), some (.int l2), some (.int l3), some (.int l4)] []) (cx : Cx M X RX5 cX5_first 5 (some .int) 2) (l1 : Int32) (l2 : Int32) (l4 : Int32) (s0 : Int32) (σ : PI) (h : w_X5_first_49  K24 Q l1 l2 l4 s0 σ) : J M X (QF M X (qI Q)) σ 49 [some (.ref (X.1 276)), some (.int l1), some (.int l2), none, some (.int l4)] [.int s0] := by
  unfold w_X5_first_49 at h
  refine J_istore_n cx 3 dX5_first_49 rfl (by decide) rfl rfl ?_
  refine J_aload_n cx 0 dX5_first_50 rfl rfl ?_
  refine J_getR cx (j := 280) dX5_first_51 F_X5_19 (by decide) rfl rfl rfl ?_
  refine J_iconst cx dX5_first_54 (by decide : _ = ((nI 4) : Int32)) ?_
  refine J_dup2 cx dX5_first_55 rfl rfl ?_
  refine J_iald cx dX5_first_56 (by decide) rfl (vpl (by decide)) ?_
  refine J_iconst cx dX5_first_57 (by decide : _ = ((nI 1) : Int32)) ?_
  refine J_iadd cx dX5_first_58 ?_
  refine J_iast cx dX5_first_59 (by decide) rfl (vpl (by decide)) ?_
  refine J_nm (fun τ11 e_τ11 => ?_)
  replace h := h τ11 e_τ11
  refine J_iinc cx dX5_first_60 rfl (by decide : _ = ((nI 1) : Int32)) (by decide) rfl rfl ?_
  refine J_goto cx (tgt := 24) dX5_first_63 (by decide) ?_
  exact hK24   _ _ _ _ _ h
def B_X5_first_24 (K24 : (Int32 × Int32 × Int32 × Int32 × PI → Prop)) (Q : Int32 → PI → Prop) (l1 : Int32) (l2 : Int32) (l3 : Int32) (l4 : Int32) (σ : PI) : Prop := ((nI 60) < l4 → w_X5_first_66   Q l2 l3 σ) ∧ (¬ (nI 60) < l4 → ((nI 0) ≤ l3 → w_X5_first_66   Q l2 l3 σ) ∧ (¬ (nI 0) ≤ l3 → wp_X5_awayFrom l1 σ (fun r8 τ7 => ((¬ r8 = (nI 0) → w_X5_first_49  K24 Q l1 l2 l4 l3 τ7) ∧ (r8 = (nI 0) → w_X5_first_49  K24 Q l1 l2 l4 l4 τ7)))))
def w_X5_first_24 (Q : Int32 → PI → Prop) (l1 : Int32) (l2 : Int32) (l3 : Int32) (l4 : Int32) (σ : PI) : Prop := ∃ n, Lp (fun K a => B_X5_first_24   K Q a.1 a.2.1 a.2.2.1 a.2.2.2.1 a.2.2.2.2) n (l1, l2, l3, l4, σ)
set_option maxRecDepth 100000 in
set_option maxHeartbeats 4000000 in
theorem j_X5_first_24 {M : MC} {X : XP} {Q : Int32 → PI → Prop} (cx : Cx M X RX5 cX5_first 5 (some .int) 2) (l1 : Int32) (l2 : Int32) (l3 : Int32) (l4 : Int32) (σ : PI) (h : w_X5_first_24   Q l1 l2 l3 l4 σ) : J M X (QF M X (qI Q)) σ 24 [some (.ref (X.1 276)), some (.int l1), some (.int l2), some (.int l3), some (.int l4)] [] := by
  refine Lp_J (P := fun (a : Int32 × Int32 × Int32 × Int32 × PI) => J M X (QF M X (qI Q)) (a.2.2.2.2) 24 [some (.ref (X.1 276)), some (.int a.1), some (.int a.2.1), some (.int a.2.2.1), some (.int a.2.2.2.1)] []) (fun K24 hK a h => ?_) h
  obtain ⟨l1, l2, l3, l4, σ⟩ := a
  have hK24 : ∀ (l1 : Int32) (l2 : Int32) (l3 : Int32) (l4 : Int32) (σ : PI), K24 (l1, l2, l3, l4, σ) → J M X (QF M X (qI Q)) σ 24 [some (.ref (X.1 276)), some (.int l1), some (.int l2), some (.int l3), some (.int l4)] [] := fun l1 l2 l3 l4 σ q => hK _ q
  replace h : B_X5_first_24   K24 Q l1 l2 l3 l4 σ := h
  show J M X (QF M X (qI Q)) σ 24 [some (.ref (X.1 276)), some (.int l1), some (.int l2), some (.int l3), some (.int l4)] []
  unfold B_X5_first_24 at h
  refine J_iload cx dX5_first_24 rfl ?_
  refine J_bipush cx dX5_first_26 (by decide : _ = ((nI 60) : Int32)) ?_
  refine J_icmp_gt cx (tgt := 66) dX5_first_28 (by decide) (fun q5 => ?_) (fun q5 => ?_)
  · replace h := h.1 q5
    refine J_fg 1 rfl ?_
    refine J_fg 4 rfl ?_
    exact j_X5_first_66     cx   _ _ _ h
  · replace h := h.2 q5
    refine J_iload_n cx 3 dX5_first_31 rfl rfl ?_
    refine J_if_ge cx (tgt := 66) dX5_first_32 (by decide) (fun q6 => ?_) (fun q6 => ?_)
    · replace h := h.1 q6
      refine J_fg 1 rfl ?_
      refine J_fg 4 rfl ?_
      exact j_X5_first_66     cx   _ _ _ h
    · replace h := h.2 q6
      refine J_aload_n cx 0 dX5_first_35 rfl rfl ?_
      refine J_iload_n cx 1 dX5_first_36 rfl rfl ?_
      refine J_cV cx dX5_first_37 V_X5_155 (by decide) (by decide) rfl (ct_X5_awayFrom   _ _ _ h) rfl rfl (Nat.le_of_ble_eq_true rfl) (k_i (fun r8 τ7 h => ?_))
      refine J_if_ne cx (tgt := 48) dX5_first_40 (by decide) (fun q9 => ?_) (fun q9 => ?_)
      · replace h := h.1 q9
        refine J_iload_n cx 3 dX5_first_48 rfl rfl ?_
        refine J_fg 3 rfl ?_
        exact j_X5_first_49   K24 hK24 cx   _ _ _ _ _ h
      · replace h := h.2 q9
        refine J_iload cx dX5_first_43 rfl ?_
        refine J_goto cx (tgt := 49) dX5_first_45 (by decide) ?_
        refine J_fg 3 rfl ?_
        exact j_X5_first_49   K24 hK24 cx   _ _ _ _ _ h
def wp_X5_first (a0 : Int32) (σ : PI) (Q : Int32 → PI → Prop) : Prop := wp_X5_isMan a0 σ (fun r2 τ1 => ((¬ r2 = (nI 0) → ∀ x4 : Int32, x4 = (τ1 280 4) → (w_X5_first_24   Q a0 x4 (-1000000) (nI 1) τ1)) ∧ (r2 = (nI 0) → Q (-1000001) τ1)))
set_option maxRecDepth 100000 in
set_option maxHeartbeats 4000000 in
theorem ct_X5_first {l : Launch} {X : XP} (a0 : Int32) (σ : PI) (Q : Int32 → PI → Prop) (h : wp_X5_first  a0 σ Q) : Ct l yX5_first cX5_first 5 (some .int) 2 X [.ref (X.1 276), .int a0] σ (qI Q) := by
  refine Ct_of (L := [some (.ref (X.1 276)), some (.int a0), none, none, none]) (by decide) (Nat.le_of_ble_eq_true rfl) rfl (fun M hl cx => ?_)
  subst hl
  unfold wp_X5_first at h
  refine J_aload_n cx 0 dX5_first_0 rfl rfl ?_
  refine J_iload_n cx 1 dX5_first_1 rfl rfl ?_
  refine J_cV cx dX5_first_2 V_X5_183 (by decide) (by decide) rfl (ct_X5_isMan   _ _ _ h) rfl rfl (Nat.le_of_ble_eq_true rfl) (k_i (fun r2 τ1 h => ?_))
  refine J_if_ne cx (tgt := 11) dX5_first_5 (by decide) (fun q3 => ?_) (fun q3 => ?_)
  · replace h := h.1 q3
    refine J_aload_n cx 0 dX5_first_11 rfl rfl ?_
    refine J_getR cx (j := 280) dX5_first_12 F_X5_19 (by decide) rfl rfl rfl ?_
    refine J_iconst cx dX5_first_15 (by decide : _ = ((nI 4) : Int32)) ?_
    refine J_iald cx dX5_first_16 (by decide) rfl (vpl (by decide)) ?_
    refine J_topi (fun x4 e_x4 => ?_)
    replace h := h x4 e_x4
    refine J_istore_n cx 2 dX5_first_17 rfl (by decide) rfl rfl ?_
    refine J_ldc cx (v := (-1000000)) dX5_first_18 gw_925 ?_
    refine J_istore_n cx 3 dX5_first_20 rfl (by decide) rfl rfl ?_
    refine J_iconst cx dX5_first_21 (by decide : _ = ((nI 1) : Int32)) ?_
    refine J_istore cx dX5_first_22 (by decide) rfl rfl ?_
    exact j_X5_first_24     cx   _ _ _ _ _ h
  · replace h := h.2 q3
    refine J_ldc cx (v := (-1000001)) dX5_first_8 gw_742 ?_
    exact J_iret cx dX5_first_10 h
def w_X5_reach_76 (Q : Int32 → PI → Prop) (l3 : Int32) (s0 : Int32) (σ : PI) : Prop := wp_X5_takeBack  σ (fun τ14 => ((s0 = (nI 0) → Q (-1000000) τ14) ∧ (¬ s0 = (nI 0) → Q l3 τ14)))
set_option maxRecDepth 100000 in
set_option maxHeartbeats 4000000 in
theorem j_X5_reach_76 {M : MC} {X : XP} {Q : Int32 → PI → Prop} (cx : Cx M X RX5 cX5_reach 5 (some .int) 5) (l3 : Int32) (s0 : Int32) (σ : PI) (h : w_X5_reach_76   Q l3 s0 σ) : J M X (QF M X (qI Q)) σ 76 [some (.ref (X.1 276)), none, none, some (.int l3), none] [.int s0] := by
  unfold w_X5_reach_76 at h
  refine J_istore cx dX5_reach_76 (by decide) rfl rfl ?_
  refine J_aload_n cx 0 dX5_reach_78 rfl rfl ?_
  refine J_cV cx dX5_reach_79 V_X5_201 (by decide) (by decide) rfl (ct_X5_takeBack    _ _ h) rfl rfl (Nat.le_of_ble_eq_true rfl) (k_v (fun τ14 h => ?_))
  refine J_iload cx dX5_reach_82 rfl ?_
  refine J_if_eq cx (tgt := 91) dX5_reach_84 (by decide) (fun q15 => ?_) (fun q15 => ?_)
  · replace h := h.1 q15
    refine J_ldc cx (v := (-1000000)) dX5_reach_91 gw_925 ?_
    exact J_iret cx dX5_reach_93 h
  · replace h := h.2 q15
    refine J_iload_n cx 3 dX5_reach_87 rfl rfl ?_
    refine J_goto cx (tgt := 93) dX5_reach_88 (by decide) ?_
    exact J_iret cx dX5_reach_93 h
def w_X5_reach_58 (Q : Int32 → PI → Prop) (l1 : Int32) (l2 : Int32) (l3 : Int32) (σ : PI) : Prop := vp_in ((nI 6) + l1) 70 ∧ (((σ 280 (((nI 6) + l1) : Int32).toNatClampNeg) < l2 → w_X5_reach_76   Q l3 (nI 0) σ) ∧ (¬ (σ 280 (((nI 6) + l1) : Int32).toNatClampNeg) < l2 → w_X5_reach_76   Q l3 (nI 1) σ))
set_option maxRecDepth 100000 in
set_option maxHeartbeats 4000000 in
theorem j_X5_reach_58 {M : MC} {X : XP} {Q : Int32 → PI → Prop} (cx : Cx M X RX5 cX5_reach 5 (some .int) 5) (l1 : Int32) (l2 : Int32) (l3 : Int32) (σ : PI) (h : w_X5_reach_58   Q l1 l2 l3 σ) : J M X (QF M X (qI Q)) σ 58 [some (.ref (X.1 276)), some (.int l1), some (.int l2), some (.int l3), none] [] := by
  unfold w_X5_reach_58 at h
  refine J_aload_n cx 0 dX5_reach_58 rfl rfl ?_
  refine J_getR cx (j := 280) dX5_reach_59 F_X5_19 (by decide) rfl rfl rfl ?_
  refine J_bipush cx dX5_reach_62 (by decide : _ = ((nI 6) : Int32)) ?_
  refine J_iload_n cx 1 dX5_reach_64 rfl rfl ?_
  refine J_iadd cx dX5_reach_65 ?_
  obtain ⟨s12, h⟩ := h
  refine J_iald cx dX5_reach_66 (by decide) rfl s12 ?_
  refine J_iload_n cx 2 dX5_reach_67 rfl rfl ?_
  refine J_icmp_lt cx (tgt := 75) dX5_reach_68 (by decide) (fun q13 => ?_) (fun q13 => ?_)
  · replace h := h.1 q13
    refine J_iconst cx dX5_reach_75 (by decide : _ = ((nI 0) : Int32)) ?_
    refine J_fg 1 rfl ?_
    refine J_fg 2 rfl ?_
    exact j_X5_reach_76     cx   _ _ _ h
  · replace h := h.2 q13
    refine J_iconst cx dX5_reach_71 (by decide : _ = ((nI 1) : Int32)) ?_
    refine J_goto cx (tgt := 76) dX5_reach_72 (by decide) ?_
    refine J_fg 1 rfl ?_
    refine J_fg 2 rfl ?_
    exact j_X5_reach_76     cx   _ _ _ h
def B_X5_reach_29 (K29 : (Int32 × Int32 × Int32 × PI → Prop)) (Q : Int32 → PI → Prop) (l1 : Int32) (l2 : Int32) (l3 : Int32) (σ : PI) : Prop := vp_in ((nI 6) + l1) 70 ∧ ((l2 ≤ (σ 280 (((nI 6) + l1) : Int32).toNatClampNeg) → w_X5_reach_58   Q l1 l2 l3 σ) ∧ (¬ l2 ≤ (σ 280 (((nI 6) + l1) : Int32).toNatClampNeg) → ((nI 60) ≤ l3 → w_X5_reach_58   Q l1 l2 l3 σ) ∧ (¬ (nI 60) ≤ l3 → wp_X5_oneDay  σ (fun τ11 => (K29 (l1, l2, (l3 + (nI 1)), τ11))))))
def w_X5_reach_29 (Q : Int32 → PI → Prop) (l1 : Int32) (l2 : Int32) (l3 : Int32) (σ : PI) : Prop := ∃ n, Lp (fun K a => B_X5_reach_29   K Q a.1 a.2.1 a.2.2.1 a.2.2.2) n (l1, l2, l3, σ)
set_option maxRecDepth 100000 in
set_option maxHeartbeats 4000000 in
theorem j_X5_reach_29 {M : MC} {X : XP} {Q : Int32 → PI → Prop} (cx : Cx M X RX5 cX5_reach 5 (some .int) 5) (l1 : Int32) (l2 : Int32) (l3 : Int32) (σ : PI) (h : w_X5_reach_29   Q l1 l2 l3 σ) : J M X (QF M X (qI Q)) σ 29 [some (.ref (X.1 276)), some (.int l1), some (.int l2), some (.int l3), none] [] := by
  refine Lp_J (P := fun (a : Int32 × Int32 × Int32 × PI) => J M X (QF M X (qI Q)) (a.2.2.2) 29 [some (.ref (X.1 276)), some (.int a.1), some (.int a.2.1), some (.int a.2.2.1), none] []) (fun K29 hK a h => ?_) h
  obtain ⟨l1, l2, l3, σ⟩ := a
  have hK29 : ∀ (l1 : Int32) (l2 : Int32) (l3 : Int32) (σ : PI), K29 (l1, l2, l3, σ) → J M X (QF M X (qI Q)) σ 29 [some (.ref (X.1 276)), some (.int l1), some (.int l2), some (.int l3), none] [] := fun l1 l2 l3 σ q => hK _ q
  replace h : B_X5_reach_29   K29 Q l1 l2 l3 σ := h
  show J M X (QF M X (qI Q)) σ 29 [some (.ref (X.1 276)), some (.int l1), some (.int l2), some (.int l3), none] []
  unfold B_X5_reach_29 at h
  refine J_aload_n cx 0 dX5_reach_29 rfl rfl ?_
  refine J_getR cx (j := 280) dX5_reach_30 F_X5_19 (by decide) rfl rfl rfl ?_
  refine J_bipush cx dX5_reach_33 (by decide : _ = ((nI 6) : Int32)) ?_
  refine J_iload_n cx 1 dX5_reach_35 rfl rfl ?_
  refine J_iadd cx dX5_reach_36 ?_
  obtain ⟨s8, h⟩ := h
  refine J_iald cx dX5_reach_37 (by decide) rfl s8 ?_
  refine J_iload_n cx 2 dX5_reach_38 rfl rfl ?_
  refine J_icmp_ge cx (tgt := 58) dX5_reach_39 (by decide) (fun q9 => ?_) (fun q9 => ?_)
  · replace h := h.1 q9
    exact j_X5_reach_58     cx   _ _ _ _ h
  · replace h := h.2 q9
    refine J_iload_n cx 3 dX5_reach_42 rfl rfl ?_
    refine J_bipush cx dX5_reach_43 (by decide : _ = ((nI 60) : Int32)) ?_
    refine J_icmp_ge cx (tgt := 58) dX5_reach_45 (by decide) (fun q10 => ?_) (fun q10 => ?_)
    · replace h := h.1 q10
      exact j_X5_reach_58     cx   _ _ _ _ h
    · replace h := h.2 q10
      refine J_aload_n cx 0 dX5_reach_48 rfl rfl ?_
      refine J_cV cx dX5_reach_49 V_X5_173 (by decide) (by decide) rfl (ct_X5_oneDay    _ _ h) rfl rfl (Nat.le_of_ble_eq_true rfl) (k_v (fun τ11 h => ?_))
      refine J_iinc cx dX5_reach_52 rfl (by decide : _ = ((nI 1) : Int32)) (by decide) rfl rfl ?_
      refine J_goto cx (tgt := 29) dX5_reach_55 (by decide) ?_
      exact hK29   _ _ _ _ h
def wp_X5_reach (a0 : Int32) (a1 : Int32) (σ : PI) (Q : Int32 → PI → Prop) : Prop := wp_X5_isMan a0 σ (fun r2 τ1 => ((r2 = (nI 0) → Q (-1000001) τ1) ∧ (¬ r2 = (nI 0) → wp_X5_in (a1 : Int32).toInt64 (lN 1) (lN 99) τ1 (fun r5 τ4 => ((¬ r5 = (nI 0) → wp_X5_putAside  τ4 (fun τ7 => (w_X5_reach_29   Q a0 a1 (nI 0) τ7))) ∧ (r5 = (nI 0) → Q (-1000001) τ4))))))
set_option maxRecDepth 100000 in
set_option maxHeartbeats 4000000 in
theorem ct_X5_reach {l : Launch} {X : XP} (a0 : Int32) (a1 : Int32) (σ : PI) (Q : Int32 → PI → Prop) (h : wp_X5_reach  a0 a1 σ Q) : Ct l yX5_reach cX5_reach 5 (some .int) 5 X [.ref (X.1 276), .int a0, .int a1] σ (qI Q) := by
  refine Ct_of (L := [some (.ref (X.1 276)), some (.int a0), some (.int a1), none, none]) (by decide) (Nat.le_of_ble_eq_true rfl) rfl (fun M hl cx => ?_)
  subst hl
  unfold wp_X5_reach at h
  refine J_aload_n cx 0 dX5_reach_0 rfl rfl ?_
  refine J_iload_n cx 1 dX5_reach_1 rfl rfl ?_
  refine J_cV cx dX5_reach_2 V_X5_183 (by decide) (by decide) rfl (ct_X5_isMan   _ _ _ h) rfl rfl (Nat.le_of_ble_eq_true rfl) (k_i (fun r2 τ1 h => ?_))
  refine J_if_eq cx (tgt := 20) dX5_reach_5 (by decide) (fun q3 => ?_) (fun q3 => ?_)
  · replace h := h.1 q3
    refine J_ldc cx (v := (-1000001)) dX5_reach_20 gw_742 ?_
    exact J_iret cx dX5_reach_22 h
  · replace h := h.2 q3
    refine J_iload_n cx 2 dX5_reach_8 rfl rfl ?_
    refine J_i2l cx dX5_reach_9 ?_
    refine J_lconst cx dX5_reach_10 (by decide : _ = ((lN 1) : Int64)) ?_
    refine J_ldc2 cx (v := (lN 99)) dX5_reach_11 gw_930 ?_
    refine J_cS cx dX5_reach_14 S_X5_54 (by decide) (ct_X5_in   _ _ _ _ _ h) rfl rfl (Nat.le_of_ble_eq_true rfl) (k_i (fun r5 τ4 h => ?_))
    refine J_if_ne cx (tgt := 23) dX5_reach_17 (by decide) (fun q6 => ?_) (fun q6 => ?_)
    · replace h := h.1 q6
      refine J_aload_n cx 0 dX5_reach_23 rfl rfl ?_
      refine J_cV cx dX5_reach_24 V_X5_194 (by decide) (by decide) rfl (ct_X5_putAside    _ _ h) rfl rfl (Nat.le_of_ble_eq_true rfl) (k_v (fun τ7 h => ?_))
      refine J_iconst cx dX5_reach_27 (by decide : _ = ((nI 0) : Int32)) ?_
      refine J_istore_n cx 3 dX5_reach_28 rfl (by decide) rfl rfl ?_
      exact j_X5_reach_29     cx   _ _ _ _ h
    · replace h := h.2 q6
      refine J_ldc cx (v := (-1000001)) dX5_reach_20 gw_742 ?_
      exact J_iret cx dX5_reach_22 h
def w_X5_usual_59 (K32 : (Int32 × Int32 × Int32 × Int32 × PI → Prop)) (Q : Int32 → PI → Prop) (l1 : Int32) (l2 : Int32) (l4 : Int32) (s0 : Int32) (s1 : Int32) (σ : PI) : Prop := ∀ x14 : Int32, x14 = (s1 + s0) → (K32 (l1, l2, x14, (l4 + (nI 1)), σ))
set_option maxRecDepth 100000 in
set_option maxHeartbeats 4000000 in
theorem j_X5_usual_59 {M : MC} {X : XP} {Q : Int32 → PI → Prop} (K32 : (Int32 × Int32 × Int32 × Int32 × PI → Prop)) (hK32 : ∀ (l1 : Int32) (l2 : Int32) (l3 : Int32) (l4 : Int32) (σ : PI), K32 (l1, l2, l3, l4, σ) → J M X (QF M X (qI Q)) σ 32 [some (.ref (X.1 276)), some (.int l1), some (.int l2), some (.int l3), some (.int l4)] []) (cx : Cx M X RX5 cX5_usual 5 (some .int) 5) (l1 : Int32) (l2 : Int32) (l4 : Int32) (s0 : Int32) (s1 : Int32) (σ : PI) (h : w_X5_usual_59  K32 Q l1 l2 l4 s0 s1 σ) : J M X (QF M X (qI Q)) σ 59 [some (.ref (X.1 276)), some (.int l1), some (.int l2), none, some (.int l4)] [.int s0, .int s1] := by
  unfold w_X5_usual_59 at h
  refine J_iadd cx dX5_usual_59 ?_
  refine J_topi (fun x14 e_x14 => ?_)
  replace h := h x14 e_x14
  refine J_istore_n cx 3 dX5_usual_60 rfl (by decide) rfl rfl ?_
  refine J_iinc cx dX5_usual_61 rfl (by decide : _ = ((nI 1) : Int32)) (by decide) rfl rfl ?_
  refine J_goto cx (tgt := 32) dX5_usual_64 (by decide) ?_
  exact hK32   _ _ _ _ _ h
def B_X5_usual_32 (K32 : (Int32 × Int32 × Int32 × Int32 × PI → Prop)) (Q : Int32 → PI → Prop) (l1 : Int32) (l2 : Int32) (l3 : Int32) (l4 : Int32) (σ : PI) : Prop := (l2 ≤ l4 → wp_X5_takeBack  σ (fun τ9 => (Q l3 τ9))) ∧ (¬ l2 ≤ l4 → wp_X5_oneDay  σ (fun τ10 => (wp_X5_has (τ10 276 17) l1 τ10 (fun r12 τ11 => ((r12 = (nI 0) → w_X5_usual_59  K32 Q l1 l2 l4 (nI 0) l3 τ11) ∧ (¬ r12 = (nI 0) → w_X5_usual_59  K32 Q l1 l2 l4 (nI 1) l3 τ11))))))
def w_X5_usual_32 (Q : Int32 → PI → Prop) (l1 : Int32) (l2 : Int32) (l3 : Int32) (l4 : Int32) (σ : PI) : Prop := ∃ n, Lp (fun K a => B_X5_usual_32   K Q a.1 a.2.1 a.2.2.1 a.2.2.2.1 a.2.2.2.2) n (l1, l2, l3, l4, σ)
set_option maxRecDepth 100000 in
set_option maxHeartbeats 4000000 in
theorem j_X5_usual_32 {M : MC} {X : XP} {Q : Int32 → PI → Prop} (cx : Cx M X RX5 cX5_usual 5 (some .int) 5) (l1 : Int32) (l2 : Int32) (l3 : Int32) (l4 : Int32) (σ : PI) (h : w_X5_usual_32   Q l1 l2 l3 l4 σ) : J M X (QF M X (qI Q)) σ 32 [some (.ref (X.1 276)), some (.int l1), some (.int l2), some (.int l3), some (.int l4)] [] := by
  refine Lp_J (P := fun (a : Int32 × Int32 × Int32 × Int32 × PI) => J M X (QF M X (qI Q)) (a.2.2.2.2) 32 [some (.ref (X.1 276)), some (.int a.1), some (.int a.2.1), some (.int a.2.2.1), some (.int a.2.2.2.1)] []) (fun K32 hK a h => ?_) h
  obtain ⟨l1, l2, l3, l4, σ⟩ := a
  have hK32 : ∀ (l1 : Int32) (l2 : Int32) (l3 : Int32) (l4 : Int32) (σ : PI), K32 (l1, l2, l3, l4, σ) → J M X (QF M X (qI Q)) σ 32 [some (.ref (X.1 276)), some (.int l1), some (.int l2), some (.int l3), some (.int l4)] [] := fun l1 l2 l3 l4 σ q => hK _ q
  replace h : B_X5_usual_32   K32 Q l1 l2 l3 l4 σ := h
  show J M X (QF M X (qI Q)) σ 32 [some (.ref (X.1 276)), some (.int l1), some (.int l2), some (.int l3), some (.int l4)] []
  unfold B_X5_usual_32 at h
  refine J_iload cx dX5_usual_32 rfl ?_
  refine J_iload_n cx 2 dX5_usual_34 rfl rfl ?_
  refine J_icmp_ge cx (tgt := 67) dX5_usual_35 (by decide) (fun q8 => ?_) (fun q8 => ?_)
  · replace h := h.1 q8
    refine J_aload_n cx 0 dX5_usual_67 rfl rfl ?_
    refine J_cV cx dX5_usual_68 V_X5_201 (by decide) (by decide) rfl (ct_X5_takeBack    _ _ h) rfl rfl (Nat.le_of_ble_eq_true rfl) (k_v (fun τ9 h => ?_))
    refine J_iload_n cx 3 dX5_usual_71 rfl rfl ?_
    exact J_iret cx dX5_usual_72 h
  · replace h := h.2 q8
    refine J_aload_n cx 0 dX5_usual_38 rfl rfl ?_
    refine J_cV cx dX5_usual_39 V_X5_173 (by decide) (by decide) rfl (ct_X5_oneDay    _ _ h) rfl rfl (Nat.le_of_ble_eq_true rfl) (k_v (fun τ10 h => ?_))
    refine J_iload_n cx 3 dX5_usual_42 rfl rfl ?_
    refine J_aload_n cx 0 dX5_usual_43 rfl rfl ?_
    refine J_getI cx dX5_usual_44 F_X5_161 (by decide) rfl rfl ?_
    refine J_iload_n cx 1 dX5_usual_47 rfl rfl ?_
    refine J_cS cx dX5_usual_48 S_X5_151 (by decide) (ct_X5_has   _ _ _ _ h) rfl rfl (Nat.le_of_ble_eq_true rfl) (k_i (fun r12 τ11 h => ?_))
    refine J_if_eq cx (tgt := 58) dX5_usual_51 (by decide) (fun q13 => ?_) (fun q13 => ?_)
    · replace h := h.1 q13
      refine J_iconst cx dX5_usual_58 (by decide : _ = ((nI 0) : Int32)) ?_
      refine J_fg 3 rfl ?_
      exact j_X5_usual_59   K32 hK32 cx   _ _ _ _ _ _ h
    · replace h := h.2 q13
      refine J_iconst cx dX5_usual_54 (by decide : _ = ((nI 1) : Int32)) ?_
      refine J_goto cx (tgt := 59) dX5_usual_55 (by decide) ?_
      refine J_fg 3 rfl ?_
      exact j_X5_usual_59   K32 hK32 cx   _ _ _ _ _ _ h
def wp_X5_usual (a0 : Int32) (a1 : Int32) (σ : PI) (Q : Int32 → PI → Prop) : Prop := wp_X5_isMan a0 σ (fun r2 τ1 => ((r2 = (nI 0) → Q (-1000001) τ1) ∧ (¬ r2 = (nI 0) → wp_X5_in (a1 : Int32).toInt64 (lN 1) (lN 60) τ1 (fun r5 τ4 => ((¬ r5 = (nI 0) → wp_X5_putAside  τ4 (fun τ7 => (w_X5_usual_32   Q a0 a1 (nI 0) (nI 0) τ7))) ∧ (r5 = (nI 0) → Q (-1000001) τ4))))))
set_option maxRecDepth 100000 in
set_option maxHeartbeats 4000000 in
theorem ct_X5_usual {l : Launch} {X : XP} (a0 : Int32) (a1 : Int32) (σ : PI) (Q : Int32 → PI → Prop) (h : wp_X5_usual  a0 a1 σ Q) : Ct l yX5_usual cX5_usual 5 (some .int) 5 X [.ref (X.1 276), .int a0, .int a1] σ (qI Q) := by
  refine Ct_of (L := [some (.ref (X.1 276)), some (.int a0), some (.int a1), none, none]) (by decide) (Nat.le_of_ble_eq_true rfl) rfl (fun M hl cx => ?_)
  subst hl
  unfold wp_X5_usual at h
  refine J_aload_n cx 0 dX5_usual_0 rfl rfl ?_
  refine J_iload_n cx 1 dX5_usual_1 rfl rfl ?_
  refine J_cV cx dX5_usual_2 V_X5_183 (by decide) (by decide) rfl (ct_X5_isMan   _ _ _ h) rfl rfl (Nat.le_of_ble_eq_true rfl) (k_i (fun r2 τ1 h => ?_))
  refine J_if_eq cx (tgt := 20) dX5_usual_5 (by decide) (fun q3 => ?_) (fun q3 => ?_)
  · replace h := h.1 q3
    refine J_ldc cx (v := (-1000001)) dX5_usual_20 gw_742 ?_
    exact J_iret cx dX5_usual_22 h
  · replace h := h.2 q3
    refine J_iload_n cx 2 dX5_usual_8 rfl rfl ?_
    refine J_i2l cx dX5_usual_9 ?_
    refine J_lconst cx dX5_usual_10 (by decide : _ = ((lN 1) : Int64)) ?_
    refine J_ldc2 cx (v := (lN 60)) dX5_usual_11 gw_904 ?_
    refine J_cS cx dX5_usual_14 S_X5_54 (by decide) (ct_X5_in   _ _ _ _ _ h) rfl rfl (Nat.le_of_ble_eq_true rfl) (k_i (fun r5 τ4 h => ?_))
    refine J_if_ne cx (tgt := 23) dX5_usual_17 (by decide) (fun q6 => ?_) (fun q6 => ?_)
    · replace h := h.1 q6
      refine J_aload_n cx 0 dX5_usual_23 rfl rfl ?_
      refine J_cV cx dX5_usual_24 V_X5_194 (by decide) (by decide) rfl (ct_X5_putAside    _ _ h) rfl rfl (Nat.le_of_ble_eq_true rfl) (k_v (fun τ7 h => ?_))
      refine J_iconst cx dX5_usual_27 (by decide : _ = ((nI 0) : Int32)) ?_
      refine J_istore_n cx 3 dX5_usual_28 rfl (by decide) rfl rfl ?_
      refine J_iconst cx dX5_usual_29 (by decide : _ = ((nI 0) : Int32)) ?_
      refine J_istore cx dX5_usual_30 (by decide) rfl rfl ?_
      exact j_X5_usual_32     cx   _ _ _ _ _ h
    · replace h := h.2 q6
      refine J_ldc cx (v := (-1000001)) dX5_usual_20 gw_742 ?_
      exact J_iret cx dX5_usual_22 h
def w_X5_doFeel_48 (K5 : (Int32 × Int32 × Int32 × Int32 × PI → Prop)) (Q : Int32 → PI → Prop) (l1 : Int32) (l2 : Int32) (l4 : Int32) (s0 : Int32) (σ : PI) : Prop := K5 (l1, l2, s0, (l4 + (nI 1)), σ)
set_option maxRecDepth 100000 in
set_option maxHeartbeats 4000000 in
theorem j_X5_doFeel_48 {M : MC} {X : XP} {Q : Int32 → PI → Prop} (K5 : (Int32 × Int32 × Int32 × Int32 × PI → Prop)) (hK5 : ∀ (l1 : Int32) (l2 : Int32) (l3 : Int32) (l4 : Int32) (σ : PI), K5 (l1, l2, l3, l4, σ) → J M X (QF M X (qI Q)) σ 5 [some (.ref (X.1 276)), some (.int l1), some (.int l2), some (.int l3), some (.int l4)] []) (cx : Cx M X RX5 cX5_doFeel 5 (some .boolean) 1) (l1 : Int32) (l2 : Int32) (l4 : Int32) (s0 : Int32) (σ : PI) (h : w_X5_doFeel_48  K5 Q l1 l2 l4 s0 σ) : J M X (QF M X (qI Q)) σ 48 [some (.ref (X.1 276)), some (.int l1), some (.int l2), none, some (.int l4)] [.int s0] := by
  unfold w_X5_doFeel_48 at h
  refine J_istore_n cx 3 dX5_doFeel_48 rfl (by decide) rfl rfl ?_
  refine J_iinc cx dX5_doFeel_49 rfl (by decide : _ = ((nI 1) : Int32)) (by decide) rfl rfl ?_
  refine J_goto cx (tgt := 5) dX5_doFeel_52 (by decide) ?_
  exact hK5   _ _ _ _ _ h
def w_X5_doFeel_47 (K5 : (Int32 × Int32 × Int32 × Int32 × PI → Prop)) (Q : Int32 → PI → Prop) (l1 : Int32) (l2 : Int32) (l4 : Int32) (σ : PI) : Prop := w_X5_doFeel_48  K5 Q l1 l2 l4 (nI 0) σ
set_option maxRecDepth 100000 in
set_option maxHeartbeats 4000000 in
theorem j_X5_doFeel_47 {M : MC} {X : XP} {Q : Int32 → PI → Prop} (K5 : (Int32 × Int32 × Int32 × Int32 × PI → Prop)) (hK5 : ∀ (l1 : Int32) (l2 : Int32) (l3 : Int32) (l4 : Int32) (σ : PI), K5 (l1, l2, l3, l4, σ) → J M X (QF M X (qI Q)) σ 5 [some (.ref (X.1 276)), some (.int l1), some (.int l2), some (.int l3), some (.int l4)] []) (cx : Cx M X RX5 cX5_doFeel 5 (some .boolean) 1) (l1 : Int32) (l2 : Int32) (l4 : Int32) (σ : PI) (h : w_X5_doFeel_47  K5 Q l1 l2 l4 σ) : J M X (QF M X (qI Q)) σ 47 [some (.ref (X.1 276)), some (.int l1), some (.int l2), none, some (.int l4)] [] := by
  unfold w_X5_doFeel_47 at h
  refine J_iconst cx dX5_doFeel_47 (by decide : _ = ((nI 0) : Int32)) ?_
  exact j_X5_doFeel_48   K5 hK5 cx   _ _ _ _ _ h
def w_X5_doFeel_43 (K5 : (Int32 × Int32 × Int32 × Int32 × PI → Prop)) (Q : Int32 → PI → Prop) (l1 : Int32) (l2 : Int32) (l4 : Int32) (σ : PI) : Prop := w_X5_doFeel_48  K5 Q l1 l2 l4 (nI 1) σ
set_option maxRecDepth 100000 in
set_option maxHeartbeats 4000000 in
theorem j_X5_doFeel_43 {M : MC} {X : XP} {Q : Int32 → PI → Prop} (K5 : (Int32 × Int32 × Int32 × Int32 × PI → Prop)) (hK5 : ∀ (l1 : Int32) (l2 : Int32) (l3 : Int32) (l4 : Int32) (σ : PI), K5 (l1, l2, l3, l4, σ) → J M X (QF M X (qI Q)) σ 5 [some (.ref (X.1 276)), some (.int l1), some (.int l2), some (.int l3), some (.int l4)] []) (cx : Cx M X RX5 cX5_doFeel 5 (some .boolean) 1) (l1 : Int32) (l2 : Int32) (l4 : Int32) (σ : PI) (h : w_X5_doFeel_43  K5 Q l1 l2 l4 σ) : J M X (QF M X (qI Q)) σ 43 [some (.ref (X.1 276)), some (.int l1), some (.int l2), none, some (.int l4)] [] := by
  unfold w_X5_doFeel_43 at h
  refine J_iconst cx dX5_doFeel_43 (by decide : _ = ((nI 1) : Int32)) ?_
  refine J_goto cx (tgt := 48) dX5_doFeel_44 (by decide) ?_
  exact j_X5_doFeel_48   K5 hK5 cx   _ _ _ _ _ h
def B_X5_doFeel_5 (K5 : (Int32 × Int32 × Int32 × Int32 × PI → Prop)) (Q : Int32 → PI → Prop) (l1 : Int32) (l2 : Int32) (l3 : Int32) (l4 : Int32) (σ : PI) : Prop := ((σ 280 2) ≤ l4 → bz l3 ∧ Q l3 σ) ∧ (¬ (σ 280 2) ≤ l4 → (l3 = (nI 0) → w_X5_doFeel_47  K5 Q l1 l2 l4 σ) ∧ (¬ l3 = (nI 0) → wp_X5_has l1 l4 σ (fun r4 τ3 => ((r4 = (nI 0) → w_X5_doFeel_43  K5 Q l1 l2 l4 τ3) ∧ (¬ r4 = (nI 0) → vp_in ((nI 6) + l4) 70 ∧ (((τ3 280 (((nI 6) + l4) : Int32).toNatClampNeg) < l2 → w_X5_doFeel_47  K5 Q l1 l2 l4 τ3) ∧ (¬ (τ3 280 (((nI 6) + l4) : Int32).toNatClampNeg) < l2 → w_X5_doFeel_43  K5 Q l1 l2 l4 τ3)))))))
def w_X5_doFeel_5 (Q : Int32 → PI → Prop) (l1 : Int32) (l2 : Int32) (l3 : Int32) (l4 : Int32) (σ : PI) : Prop := ∃ n, Lp (fun K a => B_X5_doFeel_5   K Q a.1 a.2.1 a.2.2.1 a.2.2.2.1 a.2.2.2.2) n (l1, l2, l3, l4, σ)
set_option maxRecDepth 100000 in
set_option maxHeartbeats 4000000 in
theorem j_X5_doFeel_5 {M : MC} {X : XP} {Q : Int32 → PI → Prop} (cx : Cx M X RX5 cX5_doFeel 5 (some .boolean) 1) (l1 : Int32) (l2 : Int32) (l3 : Int32) (l4 : Int32) (σ : PI) (h : w_X5_doFeel_5   Q l1 l2 l3 l4 σ) : J M X (QF M X (qI Q)) σ 5 [some (.ref (X.1 276)), some (.int l1), some (.int l2), some (.int l3), some (.int l4)] [] := by
  refine Lp_J (P := fun (a : Int32 × Int32 × Int32 × Int32 × PI) => J M X (QF M X (qI Q)) (a.2.2.2.2) 5 [some (.ref (X.1 276)), some (.int a.1), some (.int a.2.1), some (.int a.2.2.1), some (.int a.2.2.2.1)] []) (fun K5 hK a h => ?_) h
  obtain ⟨l1, l2, l3, l4, σ⟩ := a
  have hK5 : ∀ (l1 : Int32) (l2 : Int32) (l3 : Int32) (l4 : Int32) (σ : PI), K5 (l1, l2, l3, l4, σ) → J M X (QF M X (qI Q)) σ 5 [some (.ref (X.1 276)), some (.int l1), some (.int l2), some (.int l3), some (.int l4)] [] := fun l1 l2 l3 l4 σ q => hK _ q
  replace h : B_X5_doFeel_5   K5 Q l1 l2 l3 l4 σ := h
  show J M X (QF M X (qI Q)) σ 5 [some (.ref (X.1 276)), some (.int l1), some (.int l2), some (.int l3), some (.int l4)] []
  unfold B_X5_doFeel_5 at h
  refine J_iload cx dX5_doFeel_5 rfl ?_
  refine J_aload_n cx 0 dX5_doFeel_7 rfl rfl ?_
  refine J_getR cx (j := 280) dX5_doFeel_8 F_X5_19 (by decide) rfl rfl rfl ?_
  refine J_iconst cx dX5_doFeel_11 (by decide : _ = ((nI 2) : Int32)) ?_
  refine J_iald cx dX5_doFeel_12 (by decide) rfl (vpl (by decide)) ?_
  refine J_icmp_ge cx (tgt := 55) dX5_doFeel_13 (by decide) (fun q1 => ?_) (fun q1 => ?_)
  · replace h := h.1 q1
    refine J_iload_n cx 3 dX5_doFeel_55 rfl rfl ?_
    exact J_zret cx dX5_doFeel_56 h.1 h.2
  · replace h := h.2 q1
    refine J_iload_n cx 3 dX5_doFeel_16 rfl rfl ?_
    refine J_if_eq cx (tgt := 47) dX5_doFeel_17 (by decide) (fun q2 => ?_) (fun q2 => ?_)
    · replace h := h.1 q2
      refine J_fg 3 rfl ?_
      exact j_X5_doFeel_47   K5 hK5 cx   _ _ _ _ h
    · replace h := h.2 q2
      refine J_iload_n cx 1 dX5_doFeel_20 rfl rfl ?_
      refine J_iload cx dX5_doFeel_21 rfl ?_
      refine J_cS cx dX5_doFeel_23 S_X5_151 (by decide) (ct_X5_has   _ _ _ _ h) rfl rfl (Nat.le_of_ble_eq_true rfl) (k_i (fun r4 τ3 h => ?_))
      refine J_if_eq cx (tgt := 43) dX5_doFeel_26 (by decide) (fun q5 => ?_) (fun q5 => ?_)
      · replace h := h.1 q5
        refine J_fg 3 rfl ?_
        exact j_X5_doFeel_43   K5 hK5 cx   _ _ _ _ h
      · replace h := h.2 q5
        refine J_aload_n cx 0 dX5_doFeel_29 rfl rfl ?_
        refine J_getR cx (j := 280) dX5_doFeel_30 F_X5_19 (by decide) rfl rfl rfl ?_
        refine J_bipush cx dX5_doFeel_33 (by decide : _ = ((nI 6) : Int32)) ?_
        refine J_iload cx dX5_doFeel_35 rfl ?_
        refine J_iadd cx dX5_doFeel_37 ?_
        obtain ⟨s6, h⟩ := h
        refine J_iald cx dX5_doFeel_38 (by decide) rfl s6 ?_
        refine J_iload_n cx 2 dX5_doFeel_39 rfl rfl ?_
        refine J_icmp_lt cx (tgt := 47) dX5_doFeel_40 (by decide) (fun q7 => ?_) (fun q7 => ?_)
        · replace h := h.1 q7
          refine J_fg 3 rfl ?_
          exact j_X5_doFeel_47   K5 hK5 cx   _ _ _ _ h
        · replace h := h.2 q7
          refine J_fg 3 rfl ?_
          exact j_X5_doFeel_43   K5 hK5 cx   _ _ _ _ h
def wp_X5_doFeel (a0 : Int32) (a1 : Int32) (σ : PI) (Q : Int32 → PI → Prop) : Prop := w_X5_doFeel_5   Q a0 a1 (nI 1) (nI 0) σ
set_option maxRecDepth 100000 in
set_option maxHeartbeats 4000000 in
theorem ct_X5_doFeel {l : Launch} {X : XP} (a0 : Int32) (a1 : Int32) (σ : PI) (Q : Int32 → PI → Prop) (h : wp_X5_doFeel  a0 a1 σ Q) : Ct l yX5_doFeel cX5_doFeel 5 (some .boolean) 1 X [.ref (X.1 276), .int a0, .int a1] σ (qI Q) := by
  refine Ct_of (L := [some (.ref (X.1 276)), some (.int a0), some (.int a1), none, none]) (by decide) (Nat.le_of_ble_eq_true rfl) rfl (fun M hl cx => ?_)
  subst hl
  unfold wp_X5_doFeel at h
  refine J_iconst cx dX5_doFeel_0 (by decide : _ = ((nI 1) : Int32)) ?_
  refine J_istore_n cx 3 dX5_doFeel_1 rfl (by decide) rfl rfl ?_
  refine J_iconst cx dX5_doFeel_2 (by decide : _ = ((nI 0) : Int32)) ?_
  refine J_istore cx dX5_doFeel_3 (by decide) rfl rfl ?_
  exact j_X5_doFeel_5     cx   _ _ _ _ _ h
def w_X5_fewest_173 (Q : Int32 → PI → Prop) (l6 : Int32) (σ : PI) : Prop := Q l6 σ
set_option maxRecDepth 100000 in
set_option maxHeartbeats 4000000 in
theorem j_X5_fewest_173 {M : MC} {X : XP} {Q : Int32 → PI → Prop} (cx : Cx M X RX5 cX5_fewest 8 (some .int) 6) (l6 : Int32) (σ : PI) (h : w_X5_fewest_173   Q l6 σ) : J M X (QF M X (qI Q)) σ 173 [none, none, none, none, none, none, some (.int l6), none] [] := by
  unfold w_X5_fewest_173 at h
  refine J_iload cx dX5_fewest_173 rfl ?_
  refine J_goto cx (tgt := 183) dX5_fewest_175 (by decide) ?_
  exact J_iret cx dX5_fewest_183 h
def w_X5_fewest_151 (K88 : (Int32 × Int32 × Int32 × Int32 × Int32 × Int32 × Int32 × PI → Prop)) (Q : Int32 → PI → Prop) (l1 : Int32) (l2 : Int32) (l3 : Int32) (l4 : Int32) (l5 : Int32) (l6 : Int32) (l7 : Int32) (σ : PI) : Prop := K88 (l1, l2, l3, l4, l5, l6, (l7 + (nI 1)), σ)
set_option maxRecDepth 100000 in
set_option maxHeartbeats 4000000 in
theorem j_X5_fewest_151 {M : MC} {X : XP} {Q : Int32 → PI → Prop} (K88 : (Int32 × Int32 × Int32 × Int32 × Int32 × Int32 × Int32 × PI → Prop)) (hK88 : ∀ (l1 : Int32) (l2 : Int32) (l3 : Int32) (l4 : Int32) (l5 : Int32) (l6 : Int32) (l7 : Int32) (σ : PI), K88 (l1, l2, l3, l4, l5, l6, l7, σ) → J M X (QF M X (qI Q)) σ 88 [some (.ref (X.1 276)), some (.int l1), some (.int l2), some (.int l3), some (.int l4), some (.int l5), some (.int l6), some (.int l7)] []) (cx : Cx M X RX5 cX5_fewest 8 (some .int) 6) (l1 : Int32) (l2 : Int32) (l3 : Int32) (l4 : Int32) (l5 : Int32) (l6 : Int32) (l7 : Int32) (σ : PI) (h : w_X5_fewest_151  K88 Q l1 l2 l3 l4 l5 l6 l7 σ) : J M X (QF M X (qI Q)) σ 151 [some (.ref (X.1 276)), some (.int l1), some (.int l2), some (.int l3), some (.int l4), some (.int l5), some (.int l6), some (.int l7)] [] := by
  unfold w_X5_fewest_151 at h
  refine J_iinc cx dX5_fewest_151 rfl (by decide : _ = ((nI 1) : Int32)) (by decide) rfl rfl ?_
  refine J_goto cx (tgt := 88) dX5_fewest_154 (by decide) ?_
  exact hK88   _ _ _ _ _ _ _ _ h
def w_X5_fewest_145 (K88 : (Int32 × Int32 × Int32 × Int32 × Int32 × Int32 × Int32 × PI → Prop)) (Q : Int32 → PI → Prop) (l1 : Int32) (l2 : Int32) (l3 : Int32) (l4 : Int32) (l5 : Int32) (l7 : Int32) (s0 : Int32) (σ : PI) : Prop := wp_X5_takeBack  σ (fun τ33 => (w_X5_fewest_151  K88 Q l1 l2 l3 l4 l5 s0 l7 τ33))
set_option maxRecDepth 100000 in
set_option maxHeartbeats 4000000 in
theorem j_X5_fewest_145 {M : MC} {X : XP} {Q : Int32 → PI → Prop} (K88 : (Int32 × Int32 × Int32 × Int32 × Int32 × Int32 × Int32 × PI → Prop)) (hK88 : ∀ (l1 : Int32) (l2 : Int32) (l3 : Int32) (l4 : Int32) (l5 : Int32) (l6 : Int32) (l7 : Int32) (σ : PI), K88 (l1, l2, l3, l4, l5, l6, l7, σ) → J M X (QF M X (qI Q)) σ 88 [some (.ref (X.1 276)), some (.int l1), some (.int l2), some (.int l3), some (.int l4), some (.int l5), some (.int l6), some (.int l7)] []) (cx : Cx M X RX5 cX5_fewest 8 (some .int) 6) (l1 : Int32) (l2 : Int32) (l3 : Int32) (l4 : Int32) (l5 : Int32) (l7 : Int32) (s0 : Int32) (σ : PI) (h : w_X5_fewest_145  K88 Q l1 l2 l3 l4 l5 l7 s0 σ) : J M X (QF M X (qI Q)) σ 145 [some (.ref (X.1 276)), some (.int l1), some (.int l2), some (.int l3), some (.int l4), some (.int l5), none, some (.int l7)] [.int s0] := by
  unfold w_X5_fewest_145 at h
  refine J_istore cx dX5_fewest_145 (by decide) rfl rfl ?_
  refine J_aload_n cx 0 dX5_fewest_147 rfl rfl ?_
  refine J_cV cx dX5_fewest_148 V_X5_201 (by decide) (by decide) rfl (ct_X5_takeBack    _ _ h) rfl rfl (Nat.le_of_ble_eq_true rfl) (k_v (fun τ33 h => ?_))
  exact j_X5_fewest_151   K88 hK88 cx   _ _ _ _ _ _ _ _ h
def w_X5_fewest_113 (K88 : (Int32 × Int32 × Int32 × Int32 × Int32 × Int32 × Int32 × PI → Prop)) (Q : Int32 → PI → Prop) (l1 : Int32) (l2 : Int32) (l3 : Int32) (l4 : Int32) (l5 : Int32) (l6 : Int32) (l7 : Int32) (σ : PI) : Prop := ∀ τ28 : PI, τ28 = up σ 276 6 (l5 &&& (l7 ^^^ (-1))) → (wp_X5_goOn l2 τ28 (fun τ29 => (wp_X5_doFeel l1 l3 τ29 (fun r31 τ30 => ((r31 = (nI 0) → w_X5_fewest_145  K88 Q l1 l2 l3 l4 l5 l7 l6 τ30) ∧ (¬ r31 = (nI 0) → w_X5_fewest_145  K88 Q l1 l2 l3 l4 l5 l7 l7 τ30))))))
set_option maxRecDepth 100000 in
set_option maxHeartbeats 4000000 in
theorem j_X5_fewest_113 {M : MC} {X : XP} {Q : Int32 → PI → Prop} (K88 : (Int32 × Int32 × Int32 × Int32 × Int32 × Int32 × Int32 × PI → Prop)) (hK88 : ∀ (l1 : Int32) (l2 : Int32) (l3 : Int32) (l4 : Int32) (l5 : Int32) (l6 : Int32) (l7 : Int32) (σ : PI), K88 (l1, l2, l3, l4, l5, l6, l7, σ) → J M X (QF M X (qI Q)) σ 88 [some (.ref (X.1 276)), some (.int l1), some (.int l2), some (.int l3), some (.int l4), some (.int l5), some (.int l6), some (.int l7)] []) (cx : Cx M X RX5 cX5_fewest 8 (some .int) 6) (l1 : Int32) (l2 : Int32) (l3 : Int32) (l4 : Int32) (l5 : Int32) (l6 : Int32) (l7 : Int32) (σ : PI) (h : w_X5_fewest_113  K88 Q l1 l2 l3 l4 l5 l6 l7 σ) : J M X (QF M X (qI Q)) σ 113 [some (.ref (X.1 276)), some (.int l1), some (.int l2), some (.int l3), some (.int l4), some (.int l5), some (.int l6), some (.int l7)] [] := by
  unfold w_X5_fewest_113 at h
  refine J_aload_n cx 0 dX5_fewest_113 rfl rfl ?_
  refine J_iload cx dX5_fewest_114 rfl ?_
  refine J_iload cx dX5_fewest_116 rfl ?_
  refine J_iconst cx dX5_fewest_118 (by decide : _ = ((-1) : Int32)) ?_
  refine J_ixor cx dX5_fewest_119 ?_
  refine J_iand cx dX5_fewest_120 ?_
  refine J_putI cx dX5_fewest_121 (P_X5_148 _) (by decide) rfl rfl ?_
  refine J_nm (fun τ28 e_τ28 => ?_)
  replace h := h τ28 e_τ28
  refine J_aload_n cx 0 dX5_fewest_124 rfl rfl ?_
  refine J_iload_n cx 2 dX5_fewest_125 rfl rfl ?_
  refine J_cV cx dX5_fewest_126 V_X5_197 (by decide) (by decide) rfl (ct_X5_goOn   _ _ _ h) rfl rfl (Nat.le_of_ble_eq_true rfl) (k_v (fun τ29 h => ?_))
  refine J_aload_n cx 0 dX5_fewest_129 rfl rfl ?_
  refine J_iload_n cx 1 dX5_fewest_130 rfl rfl ?_
  refine J_iload_n cx 3 dX5_fewest_131 rfl rfl ?_
  refine J_cV cx dX5_fewest_132 V_X5_215 (by decide) (by decide) rfl (ct_X5_doFeel   _ _ _ _ h) rfl rfl (Nat.le_of_ble_eq_true rfl) (k_i (fun r31 τ30 h => ?_))
  refine J_if_eq cx (tgt := 143) dX5_fewest_135 (by decide) (fun q32 => ?_) (fun q32 => ?_)
  · replace h := h.1 q32
    refine J_iload cx dX5_fewest_143 rfl ?_
    refine J_fg 6 rfl ?_
    exact j_X5_fewest_145   K88 hK88 cx   _ _ _ _ _ _ _ _ h
  · replace h := h.2 q32
    refine J_iload cx dX5_fewest_138 rfl ?_
    refine J_goto cx (tgt := 145) dX5_fewest_140 (by decide) ?_
    refine J_fg 6 rfl ?_
    exact j_X5_fewest_145   K88 hK88 cx   _ _ _ _ _ _ _ _ h
def B_X5_fewest_88 (K88 : (Int32 × Int32 × Int32 × Int32 × Int32 × Int32 × Int32 × PI → Prop)) (Q : Int32 → PI → Prop) (l1 : Int32) (l2 : Int32) (l3 : Int32) (l4 : Int32) (l5 : Int32) (l6 : Int32) (l7 : Int32) (σ : PI) : Prop := (l5 < l7 → ∀ τ17 : PI, τ17 = up σ 276 6 (nI 0) → ((l6 < (nI 0) → w_X5_fewest_173   Q l6 τ17) ∧ (¬ l6 < (nI 0) → (¬ l4 = (nI 1) → wp_X5_ones l6 τ17 (fun r21 τ20 => (Q r21 τ20))) ∧ (l4 = (nI 1) → w_X5_fewest_173   Q l6 τ17)))) ∧ (¬ l5 < l7 → (l6 < (nI 0) → w_X5_fewest_113  K88 Q l1 l2 l3 l4 l5 l6 l7 σ) ∧ (¬ l6 < (nI 0) → wp_X5_ones l7 σ (fun r24 τ23 => (wp_X5_ones l6 τ23 (fun r26 τ25 => ((r26 ≤ r24 → w_X5_fewest_151  K88 Q l1 l2 l3 l4 l5 l6 l7 τ25) ∧ (¬ r26 ≤ r24 → w_X5_fewest_113  K88 Q l1 l2 l3 l4 l5 l6 l7 τ25)))))))
def w_X5_fewest_88 (Q : Int32 → PI → Prop) (l1 : Int32) (l2 : Int32) (l3 : Int32) (l4 : Int32) (l5 : Int32) (l6 : Int32) (l7 : Int32) (σ : PI) : Prop := ∃ n, Lp (fun K a => B_X5_fewest_88   K Q a.1 a.2.1 a.2.2.1 a.2.2.2.1 a.2.2.2.2.1 a.2.2.2.2.2.1 a.2.2.2.2.2.2.1 a.2.2.2.2.2.2.2) n (l1, l2, l3, l4, l5, l6, l7, σ)
set_option maxRecDepth 100000 in
set_option maxHeartbeats 4000000 in
theorem j_X5_fewest_88 {M : MC} {X : XP} {Q : Int32 → PI → Prop} (cx : Cx M X RX5 cX5_fewest 8 (some .int) 6) (l1 : Int32) (l2 : Int32) (l3 : Int32) (l4 : Int32) (l5 : Int32) (l6 : Int32) (l7 : Int32) (σ : PI) (h : w_X5_fewest_88   Q l1 l2 l3 l4 l5 l6 l7 σ) : J M X (QF M X (qI Q)) σ 88 [some (.ref (X.1 276)), some (.int l1), some (.int l2), some (.int l3), some (.int l4), some (.int l5), some (.int l6), some (.int l7)] [] := by
  refine Lp_J (P := fun (a : Int32 × Int32 × Int32 × Int32 × Int32 × Int32 × Int32 × PI) => J M X (QF M X (qI Q)) (a.2.2.2.2.2.2.2) 88 [some (.ref (X.1 276)), some (.int a.1), some (.int a.2.1), some (.int a.2.2.1), some (.int a.2.2.2.1), some (.int a.2.2.2.2.1), some (.int a.2.2.2.2.2.1), some (.int a.2.2.2.2.2.2.1)] []) (fun K88 hK a h => ?_) h
  obtain ⟨l1, l2, l3, l4, l5, l6, l7, σ⟩ := a
  have hK88 : ∀ (l1 : Int32) (l2 : Int32) (l3 : Int32) (l4 : Int32) (l5 : Int32) (l6 : Int32) (l7 : Int32) (σ : PI), K88 (l1, l2, l3, l4, l5, l6, l7, σ) → J M X (QF M X (qI Q)) σ 88 [some (.ref (X.1 276)), some (.int l1), some (.int l2), some (.int l3), some (.int l4), some (.int l5), some (.int l6), some (.int l7)] [] := fun l1 l2 l3 l4 l5 l6 l7 σ q => hK _ q
  replace h : B_X5_fewest_88   K88 Q l1 l2 l3 l4 l5 l6 l7 σ := h
  show J M X (QF M X (qI Q)) σ 88 [some (.ref (X.1 276)), some (.int l1), some (.int l2), some (.int l3), some (.int l4), some (.int l5), some (.int l6), some (.int l7)] []
  unfold B_X5_fewest_88 at h
  refine J_iload cx dX5_fewest_88 rfl ?_
  refine J_iload cx dX5_fewest_90 rfl ?_
  refine J_icmp_gt cx (tgt := 157) dX5_fewest_92 (by decide) (fun q16 => ?_) (fun q16 => ?_)
  · replace h := h.1 q16
    refine J_aload_n cx 0 dX5_fewest_157 rfl rfl ?_
    refine J_iconst cx dX5_fewest_158 (by decide : _ = ((nI 0) : Int32)) ?_
    refine J_putI cx dX5_fewest_159 (P_X5_148 _) (by decide) rfl rfl ?_
    refine J_nm (fun τ17 e_τ17 => ?_)
    replace h := h τ17 e_τ17
    refine J_iload cx dX5_fewest_162 rfl ?_
    refine J_if_lt cx (tgt := 173) dX5_fewest_164 (by decide) (fun q18 => ?_) (fun q18 => ?_)
    · replace h := h.1 q18
      refine J_fg 0 rfl ?_
      refine J_fg 1 rfl ?_
      refine J_fg 2 rfl ?_
      refine J_fg 3 rfl ?_
      refine J_fg 4 rfl ?_
      refine J_fg 5 rfl ?_
      refine J_fg 7 rfl ?_
      exact j_X5_fewest_173     cx   _ _ h
    · replace h := h.2 q18
      refine J_iload cx dX5_fewest_167 rfl ?_
      refine J_iconst cx dX5_fewest_169 (by decide : _ = ((nI 1) : Int32)) ?_
      refine J_icmp_ne cx (tgt := 178) dX5_fewest_170 (by decide) (fun q19 => ?_) (fun q19 => ?_)
      · replace h := h.1 q19
        refine J_iload cx dX5_fewest_178 rfl ?_
        refine J_cS cx dX5_fewest_180 S_X5_212 (by decide) (ct_X5_ones   _ _ _ h) rfl rfl (Nat.le_of_ble_eq_true rfl) (k_i (fun r21 τ20 h => ?_))
        exact J_iret cx dX5_fewest_183 h
      · replace h := h.2 q19
        refine J_fg 0 rfl ?_
        refine J_fg 1 rfl ?_
        refine J_fg 2 rfl ?_
        refine J_fg 3 rfl ?_
        refine J_fg 4 rfl ?_
        refine J_fg 5 rfl ?_
        refine J_fg 7 rfl ?_
        exact j_X5_fewest_173     cx   _ _ h
  · replace h := h.2 q16
    refine J_iload cx dX5_fewest_95 rfl ?_
    refine J_if_lt cx (tgt := 113) dX5_fewest_97 (by decide) (fun q22 => ?_) (fun q22 => ?_)
    · replace h := h.1 q22
      exact j_X5_fewest_113   K88 hK88 cx   _ _ _ _ _ _ _ _ h
    · replace h := h.2 q22
      refine J_iload cx dX5_fewest_100 rfl ?_
      refine J_cS cx dX5_fewest_102 S_X5_212 (by decide) (ct_X5_ones   _ _ _ h) rfl rfl (Nat.le_of_ble_eq_true rfl) (k_i (fun r24 τ23 h => ?_))
      refine J_iload cx dX5_fewest_105 rfl ?_
      refine J_cS cx dX5_fewest_107 S_X5_212 (by decide) (ct_X5_ones   _ _ _ h) rfl rfl (Nat.le_of_ble_eq_true rfl) (k_i (fun r26 τ25 h => ?_))
      refine J_icmp_ge cx (tgt := 151) dX5_fewest_110 (by decide) (fun q27 => ?_) (fun q27 => ?_)
      · replace h := h.1 q27
        exact j_X5_fewest_151   K88 hK88 cx   _ _ _ _ _ _ _ _ h
      · replace h := h.2 q27
        exact j_X5_fewest_113   K88 hK88 cx   _ _ _ _ _ _ _ _ h
def wp_X5_fewest (a0 : Int32) (a1 : Int32) (a2 : Int32) (a3 : Int32) (σ : PI) (Q : Int32 → PI → Prop) : Prop := (¬ (σ 276 4) = (nI 0) → wp_X5_in (a0 : Int32).toInt64 (lN 0) ((((nI 1) <<< ((σ 280 2) &&& 31)) - (nI 1)) : Int32).toInt64 σ (fun r3 τ2 => ((r3 = (nI 0) → Q (-1000001) τ2) ∧ (¬ r3 = (nI 0) → wp_X5_in (a1 : Int32).toInt64 (lN 1) (lN 30) τ2 (fun r6 τ5 => ((r6 = (nI 0) → Q (-1000001) τ5) ∧ (¬ r6 = (nI 0) → wp_X5_in (a2 : Int32).toInt64 (lN 1) (lN 99) τ5 (fun r9 τ8 => ((r9 = (nI 0) → Q (-1000001) τ8) ∧ (¬ r9 = (nI 0) → wp_X5_isWhat a3 τ8 (fun r12 τ11 => ((¬ r12 = (nI 0) → wp_X5_putAside  τ11 (fun τ14 => (∀ x15 : Int32, x15 = (((nI 1) <<< ((τ14 280 3) &&& 31)) - (nI 1)) → (w_X5_fewest_88   Q a0 a1 a2 a3 x15 (-1000000) (nI 0) τ14)))) ∧ (r12 = (nI 0) → Q (-1000001) τ11))))))))))))) ∧ ((σ 276 4) = (nI 0) → Q (-1000002) σ)
set_option maxRecDepth 100000 in
set_option maxHeartbeats 4000000 in
theorem ct_X5_fewest {l : Launch} {X : XP} (a0 : Int32) (a1 : Int32) (a2 : Int32) (a3 : Int32) (σ : PI) (Q : Int32 → PI → Prop) (h : wp_X5_fewest  a0 a1 a2 a3 σ Q) : Ct l yX5_fewest cX5_fewest 8 (some .int) 6 X [.ref (X.1 276), .int a0, .int a1, .int a2, .int a3] σ (qI Q) := by
  refine Ct_of (L := [some (.ref (X.1 276)), some (.int a0), some (.int a1), some (.int a2), some (.int a3), none, none, none]) (by decide) (Nat.le_of_ble_eq_true rfl) rfl (fun M hl cx => ?_)
  subst hl
  unfold wp_X5_fewest at h
  refine J_aload_n cx 0 dX5_fewest_0 rfl rfl ?_
  refine J_getI cx dX5_fewest_1 F_X5_135 (by decide) rfl rfl ?_
  refine J_if_ne cx (tgt := 10) dX5_fewest_4 (by decide) (fun q1 => ?_) (fun q1 => ?_)
  · replace h := h.1 q1
    refine J_iload_n cx 1 dX5_fewest_10 rfl rfl ?_
    refine J_i2l cx dX5_fewest_11 ?_
    refine J_lconst cx dX5_fewest_12 (by decide : _ = ((lN 0) : Int64)) ?_
    refine J_iconst cx dX5_fewest_13 (by decide : _ = ((nI 1) : Int32)) ?_
    refine J_aload_n cx 0 dX5_fewest_14 rfl rfl ?_
    refine J_getR cx (j := 280) dX5_fewest_15 F_X5_19 (by decide) rfl rfl rfl ?_
    refine J_iconst cx dX5_fewest_18 (by decide : _ = ((nI 2) : Int32)) ?_
    refine J_iald cx dX5_fewest_19 (by decide) rfl (vpl (by decide)) ?_
    refine J_ishl cx dX5_fewest_20 ?_
    refine J_iconst cx dX5_fewest_21 (by decide : _ = ((nI 1) : Int32)) ?_
    refine J_isub cx dX5_fewest_22 ?_
    refine J_i2l cx dX5_fewest_23 ?_
    refine J_cS cx dX5_fewest_24 S_X5_54 (by decide) (ct_X5_in   _ _ _ _ _ h) rfl rfl (Nat.le_of_ble_eq_true rfl) (k_i (fun r3 τ2 h => ?_))
    refine J_if_eq cx (tgt := 62) dX5_fewest_27 (by decide) (fun q4 => ?_) (fun q4 => ?_)
    · replace h := h.1 q4
      refine J_ldc cx (v := (-1000001)) dX5_fewest_62 gw_742 ?_
      exact J_iret cx dX5_fewest_64 h
    · replace h := h.2 q4
      refine J_iload_n cx 2 dX5_fewest_30 rfl rfl ?_
      refine J_i2l cx dX5_fewest_31 ?_
      refine J_lconst cx dX5_fewest_32 (by decide : _ = ((lN 1) : Int64)) ?_
      refine J_ldc2 cx (v := (lN 30)) dX5_fewest_33 gw_939 ?_
      refine J_cS cx dX5_fewest_36 S_X5_54 (by decide) (ct_X5_in   _ _ _ _ _ h) rfl rfl (Nat.le_of_ble_eq_true rfl) (k_i (fun r6 τ5 h => ?_))
      refine J_if_eq cx (tgt := 62) dX5_fewest_39 (by decide) (fun q7 => ?_) (fun q7 => ?_)
      · replace h := h.1 q7
        refine J_ldc cx (v := (-1000001)) dX5_fewest_62 gw_742 ?_
        exact J_iret cx dX5_fewest_64 h
      · replace h := h.2 q7
        refine J_iload_n cx 3 dX5_fewest_42 rfl rfl ?_
        refine J_i2l cx dX5_fewest_43 ?_
        refine J_lconst cx dX5_fewest_44 (by decide : _ = ((lN 1) : Int64)) ?_
        refine J_ldc2 cx (v := (lN 99)) dX5_fewest_45 gw_930 ?_
        refine J_cS cx dX5_fewest_48 S_X5_54 (by decide) (ct_X5_in   _ _ _ _ _ h) rfl rfl (Nat.le_of_ble_eq_true rfl) (k_i (fun r9 τ8 h => ?_))
        refine J_if_eq cx (tgt := 62) dX5_fewest_51 (by decide) (fun q10 => ?_) (fun q10 => ?_)
        · replace h := h.1 q10
          refine J_ldc cx (v := (-1000001)) dX5_fewest_62 gw_742 ?_
          exact J_iret cx dX5_fewest_64 h
        · replace h := h.2 q10
          refine J_iload cx dX5_fewest_54 rfl ?_
          refine J_cS cx dX5_fewest_56 S_X5_209 (by decide) (ct_X5_isWhat   _ _ _ h) rfl rfl (Nat.le_of_ble_eq_true rfl) (k_i (fun r12 τ11 h => ?_))
          refine J_if_ne cx (tgt := 65) dX5_fewest_59 (by decide) (fun q13 => ?_) (fun q13 => ?_)
          · replace h := h.1 q13
            refine J_aload_n cx 0 dX5_fewest_65 rfl rfl ?_
            refine J_cV cx dX5_fewest_66 V_X5_194 (by decide) (by decide) rfl (ct_X5_putAside    _ _ h) rfl rfl (Nat.le_of_ble_eq_true rfl) (k_v (fun τ14 h => ?_))
            refine J_iconst cx dX5_fewest_69 (by decide : _ = ((nI 1) : Int32)) ?_
            refine J_aload_n cx 0 dX5_fewest_70 rfl rfl ?_
            refine J_getR cx (j := 280) dX5_fewest_71 F_X5_19 (by decide) rfl rfl rfl ?_
            refine J_iconst cx dX5_fewest_74 (by decide : _ = ((nI 3) : Int32)) ?_
            refine J_iald cx dX5_fewest_75 (by decide) rfl (vpl (by decide)) ?_
            refine J_ishl cx dX5_fewest_76 ?_
            refine J_iconst cx dX5_fewest_77 (by decide : _ = ((nI 1) : Int32)) ?_
            refine J_isub cx dX5_fewest_78 ?_
            refine J_topi (fun x15 e_x15 => ?_)
            replace h := h x15 e_x15
            refine J_istore cx dX5_fewest_79 (by decide) rfl rfl ?_
            refine J_ldc cx (v := (-1000000)) dX5_fewest_81 gw_925 ?_
            refine J_istore cx dX5_fewest_83 (by decide) rfl rfl ?_
            refine J_iconst cx dX5_fewest_85 (by decide : _ = ((nI 0) : Int32)) ?_
            refine J_istore cx dX5_fewest_86 (by decide) rfl rfl ?_
            exact j_X5_fewest_88     cx   _ _ _ _ _ _ _ _ h
          · replace h := h.2 q13
            refine J_ldc cx (v := (-1000001)) dX5_fewest_62 gw_742 ?_
            exact J_iret cx dX5_fewest_64 h
  · replace h := h.2 q1
    refine J_ldc cx (v := (-1000002)) dX5_fewest_7 gw_822 ?_
    exact J_iret cx dX5_fewest_9 h
def w_X5_bestHouse_102 (K43 : (Int32 × Int32 × Int32 × Int32 × Int32 × Int32 × PI → Prop)) (Q : Int32 → PI → Prop) (l1 : Int32) (l2 : Int32) (l3 : Int32) (l4 : Int32) (l6 : Int32) (s0 : Int32) (σ : PI) : Prop := wp_X5_takeBack  σ (fun τ23 => (K43 (l1, l2, l3, l4, s0, (l6 + (nI 1)), τ23)))
set_option maxRecDepth 100000 in
set_option maxHeartbeats 4000000 in
theorem j_X5_bestHouse_102 {M : MC} {X : XP} {Q : Int32 → PI → Prop} (K43 : (Int32 × Int32 × Int32 × Int32 × Int32 × Int32 × PI → Prop)) (hK43 : ∀ (l1 : Int32) (l2 : Int32) (l3 : Int32) (l4 : Int32) (l5 : Int32) (l6 : Int32) (σ : PI), K43 (l1, l2, l3, l4, l5, l6, σ) → J M X (QF M X (qI Q)) σ 43 [some (.ref (X.1 276)), some (.int l1), some (.int l2), some (.int l3), some (.int l4), some (.int l5), some (.int l6)] []) (cx : Cx M X RX5 cX5_bestHouse 7 (some .int) 6) (l1 : Int32) (l2 : Int32) (l3 : Int32) (l4 : Int32) (l6 : Int32) (s0 : Int32) (σ : PI) (h : w_X5_bestHouse_102  K43 Q l1 l2 l3 l4 l6 s0 σ) : J M X (QF M X (qI Q)) σ 102 [some (.ref (X.1 276)), some (.int l1), some (.int l2), some (.int l3), some (.int l4), none, some (.int l6)] [.int s0] := by
  unfold w_X5_bestHouse_102 at h
  refine J_istore cx dX5_bestHouse_102 (by decide) rfl rfl ?_
  refine J_aload_n cx 0 dX5_bestHouse_104 rfl rfl ?_
  refine J_cV cx dX5_bestHouse_105 V_X5_201 (by decide) (by decide) rfl (ct_X5_takeBack    _ _ h) rfl rfl (Nat.le_of_ble_eq_true rfl) (k_v (fun τ23 h => ?_))
  refine J_iinc cx dX5_bestHouse_108 rfl (by decide : _ = ((nI 1) : Int32)) (by decide) rfl rfl ?_
  refine J_goto cx (tgt := 43) dX5_bestHouse_111 (by decide) ?_
  exact hK43   _ _ _ _ _ _ _ h
def w_X5_bestHouse_82 (K43 : (Int32 × Int32 × Int32 × Int32 × Int32 × Int32 × PI → Prop)) (Q : Int32 → PI → Prop) (l1 : Int32) (l2 : Int32) (l3 : Int32) (l5 : Int32) (l6 : Int32) (s0 : Int32) (σ : PI) : Prop := wp_X5_allFeel  σ (fun r19 τ18 => ((r19 ≤ l5 → w_X5_bestHouse_102  K43 Q l1 l2 l3 s0 l6 l5 τ18) ∧ (¬ r19 ≤ l5 → wp_X5_allFeel  τ18 (fun r22 τ21 => (w_X5_bestHouse_102  K43 Q l1 l2 l3 s0 l6 r22 τ21)))))
set_option maxRecDepth 100000 in
set_option maxHeartbeats 4000000 in
theorem j_X5_bestHouse_82 {M : MC} {X : XP} {Q : Int32 → PI → Prop} (K43 : (Int32 × Int32 × Int32 × Int32 × Int32 × Int32 × PI → Prop)) (hK43 : ∀ (l1 : Int32) (l2 : Int32) (l3 : Int32) (l4 : Int32) (l5 : Int32) (l6 : Int32) (σ : PI), K43 (l1, l2, l3, l4, l5, l6, σ) → J M X (QF M X (qI Q)) σ 43 [some (.ref (X.1 276)), some (.int l1), some (.int l2), some (.int l3), some (.int l4), some (.int l5), some (.int l6)] []) (cx : Cx M X RX5 cX5_bestHouse 7 (some .int) 6) (l1 : Int32) (l2 : Int32) (l3 : Int32) (l5 : Int32) (l6 : Int32) (s0 : Int32) (σ : PI) (h : w_X5_bestHouse_82  K43 Q l1 l2 l3 l5 l6 s0 σ) : J M X (QF M X (qI Q)) σ 82 [some (.ref (X.1 276)), some (.int l1), some (.int l2), some (.int l3), none, some (.int l5), some (.int l6)] [.int s0] := by
  unfold w_X5_bestHouse_82 at h
  refine J_istore cx dX5_bestHouse_82 (by decide) rfl rfl ?_
  refine J_aload_n cx 0 dX5_bestHouse_84 rfl rfl ?_
  refine J_cV cx dX5_bestHouse_85 V_X5_176 (by decide) (by decide) rfl (ct_X5_allFeel    _ _ h) rfl rfl (Nat.le_of_ble_eq_true rfl) (k_i (fun r19 τ18 h => ?_))
  refine J_iload cx dX5_bestHouse_88 rfl ?_
  refine J_icmp_le cx (tgt := 100) dX5_bestHouse_90 (by decide) (fun q20 => ?_) (fun q20 => ?_)
  · replace h := h.1 q20
    refine J_iload cx dX5_bestHouse_100 rfl ?_
    refine J_fg 5 rfl ?_
    exact j_X5_bestHouse_102   K43 hK43 cx   _ _ _ _ _ _ _ h
  · replace h := h.2 q20
    refine J_aload_n cx 0 dX5_bestHouse_93 rfl rfl ?_
    refine J_cV cx dX5_bestHouse_94 V_X5_176 (by decide) (by decide) rfl (ct_X5_allFeel    _ _ h) rfl rfl (Nat.le_of_ble_eq_true rfl) (k_i (fun r22 τ21 h => ?_))
    refine J_goto cx (tgt := 102) dX5_bestHouse_97 (by decide) ?_
    refine J_fg 5 rfl ?_
    exact j_X5_bestHouse_102   K43 hK43 cx   _ _ _ _ _ _ _ h
def B_X5_bestHouse_43 (K43 : (Int32 × Int32 × Int32 × Int32 × Int32 × Int32 × PI → Prop)) (Q : Int32 → PI → Prop) (l1 : Int32) (l2 : Int32) (l3 : Int32) (l4 : Int32) (l5 : Int32) (l6 : Int32) (σ : PI) : Prop := ((σ 280 2) ≤ l6 → (¬ l3 = (nI 0) → Q l5 σ) ∧ (l3 = (nI 0) → Q l4 σ)) ∧ (¬ (σ 280 2) ≤ l6 → wp_X5_sendTo l1 l6 σ (fun τ13 => (wp_X5_goOn l2 τ13 (fun τ14 => (wp_X5_allFeel  τ14 (fun r16 τ15 => ((r16 ≤ l5 → w_X5_bestHouse_82  K43 Q l1 l2 l3 l5 l6 l4 τ15) ∧ (¬ r16 ≤ l5 → w_X5_bestHouse_82  K43 Q l1 l2 l3 l5 l6 l6 τ15))))))))
def w_X5_bestHouse_43 (Q : Int32 → PI → Prop) (l1 : Int32) (l2 : Int32) (l3 : Int32) (l4 : Int32) (l5 : Int32) (l6 : Int32) (σ : PI) : Prop := ∃ n, Lp (fun K a => B_X5_bestHouse_43   K Q a.1 a.2.1 a.2.2.1 a.2.2.2.1 a.2.2.2.2.1 a.2.2.2.2.2.1 a.2.2.2.2.2.2) n (l1, l2, l3, l4, l5, l6, σ)
set_option maxRecDepth 100000 in
set_option maxHeartbeats 4000000 in
theorem j_X5_bestHouse_43 {M : MC} {X : XP} {Q : Int32 → PI → Prop} (cx : Cx M X RX5 cX5_bestHouse 7 (some .int) 6) (l1 : Int32) (l2 : Int32) (l3 : Int32) (l4 : Int32) (l5 : Int32) (l6 : Int32) (σ : PI) (h : w_X5_bestHouse_43   Q l1 l2 l3 l4 l5 l6 σ) : J M X (QF M X (qI Q)) σ 43 [some (.ref (X.1 276)), some (.int l1), some (.int l2), some (.int l3), some (.int l4), some (.int l5), some (.int l6)] [] := by
  refine Lp_J (P := fun (a : Int32 × Int32 × Int32 × Int32 × Int32 × Int32 × PI) => J M X (QF M X (qI Q)) (a.2.2.2.2.2.2) 43 [some (.ref (X.1 276)), some (.int a.1), some (.int a.2.1), some (.int a.2.2.1), some (.int a.2.2.2.1), some (.int a.2.2.2.2.1), some (.int a.2.2.2.2.2.1)] []) (fun K43 hK a h => ?_) h
  obtain ⟨l1, l2, l3, l4, l5, l6, σ⟩ := a
  have hK43 : ∀ (l1 : Int32) (l2 : Int32) (l3 : Int32) (l4 : Int32) (l5 : Int32) (l6 : Int32) (σ : PI), K43 (l1, l2, l3, l4, l5, l6, σ) → J M X (QF M X (qI Q)) σ 43 [some (.ref (X.1 276)), some (.int l1), some (.int l2), some (.int l3), some (.int l4), some (.int l5), some (.int l6)] [] := fun l1 l2 l3 l4 l5 l6 σ q => hK _ q
  replace h : B_X5_bestHouse_43   K43 Q l1 l2 l3 l4 l5 l6 σ := h
  show J M X (QF M X (qI Q)) σ 43 [some (.ref (X.1 276)), some (.int l1), some (.int l2), some (.int l3), some (.int l4), some (.int l5), some (.int l6)] []
  unfold B_X5_bestHouse_43 at h
  refine J_iload cx dX5_bestHouse_43 rfl ?_
  refine J_aload_n cx 0 dX5_bestHouse_45 rfl rfl ?_
  refine J_getR cx (j := 280) dX5_bestHouse_46 F_X5_19 (by decide) rfl rfl rfl ?_
  refine J_iconst cx dX5_bestHouse_49 (by decide : _ = ((nI 2) : Int32)) ?_
  refine J_iald cx dX5_bestHouse_50 (by decide) rfl (vpl (by decide)) ?_
  refine J_icmp_ge cx (tgt := 114) dX5_bestHouse_51 (by decide) (fun q11 => ?_) (fun q11 => ?_)
  · replace h := h.1 q11
    refine J_iload_n cx 3 dX5_bestHouse_114 rfl rfl ?_
    refine J_if_ne cx (tgt := 123) dX5_bestHouse_115 (by decide) (fun q12 => ?_) (fun q12 => ?_)
    · replace h := h.1 q12
      refine J_iload cx dX5_bestHouse_123 rfl ?_
      exact J_iret cx dX5_bestHouse_125 h
    · replace h := h.2 q12
      refine J_iload cx dX5_bestHouse_118 rfl ?_
      refine J_goto cx (tgt := 125) dX5_bestHouse_120 (by decide) ?_
      exact J_iret cx dX5_bestHouse_125 h
  · replace h := h.2 q11
    refine J_aload_n cx 0 dX5_bestHouse_54 rfl rfl ?_
    refine J_iload_n cx 1 dX5_bestHouse_55 rfl rfl ?_
    refine J_iload cx dX5_bestHouse_56 rfl ?_
    refine J_cV cx dX5_bestHouse_58 V_X5_186 (by decide) (by decide) rfl (ct_X5_sendTo   _ _ _ _ h) rfl rfl (Nat.le_of_ble_eq_true rfl) (k_v (fun τ13 h => ?_))
    refine J_aload_n cx 0 dX5_bestHouse_61 rfl rfl ?_
    refine J_iload_n cx 2 dX5_bestHouse_62 rfl rfl ?_
    refine J_cV cx dX5_bestHouse_63 V_X5_197 (by decide) (by decide) rfl (ct_X5_goOn   _ _ _ h) rfl rfl (Nat.le_of_ble_eq_true rfl) (k_v (fun τ14 h => ?_))
    refine J_aload_n cx 0 dX5_bestHouse_66 rfl rfl ?_
    refine J_cV cx dX5_bestHouse_67 V_X5_176 (by decide) (by decide) rfl (ct_X5_allFeel    _ _ h) rfl rfl (Nat.le_of_ble_eq_true rfl) (k_i (fun r16 τ15 h => ?_))
    refine J_iload cx dX5_bestHouse_70 rfl ?_
    refine J_icmp_le cx (tgt := 80) dX5_bestHouse_72 (by decide) (fun q17 => ?_) (fun q17 => ?_)
    · replace h := h.1 q17
      refine J_iload cx dX5_bestHouse_80 rfl ?_
      refine J_fg 4 rfl ?_
      exact j_X5_bestHouse_82   K43 hK43 cx   _ _ _ _ _ _ _ h
    · replace h := h.2 q17
      refine J_iload cx dX5_bestHouse_75 rfl ?_
      refine J_goto cx (tgt := 82) dX5_bestHouse_77 (by decide) ?_
      refine J_fg 4 rfl ?_
      exact j_X5_bestHouse_82   K43 hK43 cx   _ _ _ _ _ _ _ h
def wp_X5_bestHouse (a0 : Int32) (a1 : Int32) (a2 : Int32) (σ : PI) (Q : Int32 → PI → Prop) : Prop := wp_X5_isLeaver a0 σ (fun r2 τ1 => ((r2 = (nI 0) → Q (-1000001) τ1) ∧ (¬ r2 = (nI 0) → wp_X5_in (a1 : Int32).toInt64 (lN 1) (lN 60) τ1 (fun r5 τ4 => ((r5 = (nI 0) → Q (-1000001) τ4) ∧ (¬ r5 = (nI 0) → wp_X5_isWhat a2 τ4 (fun r8 τ7 => ((¬ r8 = (nI 0) → wp_X5_putAside  τ7 (fun τ10 => (w_X5_bestHouse_43   Q a0 a1 a2 (nI 0) (-1) (nI 0) τ10))) ∧ (r8 = (nI 0) → Q (-1000001) τ7)))))))))
set_option maxRecDepth 100000 in
set_option maxHeartbeats 4000000 in
theorem ct_X5_bestHouse {l : Launch} {X : XP} (a0 : Int32) (a1 : Int32) (a2 : Int32) (σ : PI) (Q : Int32 → PI → Prop) (h : wp_X5_bestHouse  a0 a1 a2 σ Q) : Ct l yX5_bestHouse cX5_bestHouse 7 (some .int) 6 X [.ref (X.1 276), .int a0, .int a1, .int a2] σ (qI Q) := by
  refine Ct_of (L := [some (.ref (X.1 276)), some (.int a0), some (.int a1), some (.int a2), none, none, none]) (by decide) (Nat.le_of_ble_eq_true rfl) rfl (fun M hl cx => ?_)
  subst hl
  unfold wp_X5_bestHouse at h
  refine J_aload_n cx 0 dX5_bestHouse_0 rfl rfl ?_
  refine J_iload_n cx 1 dX5_bestHouse_1 rfl rfl ?_
  refine J_cV cx dX5_bestHouse_2 V_X5_180 (by decide) (by decide) rfl (ct_X5_isLeaver   _ _ _ h) rfl rfl (Nat.le_of_ble_eq_true rfl) (k_i (fun r2 τ1 h => ?_))
  refine J_if_eq cx (tgt := 27) dX5_bestHouse_5 (by decide) (fun q3 => ?_) (fun q3 => ?_)
  · replace h := h.1 q3
    refine J_ldc cx (v := (-1000001)) dX5_bestHouse_27 gw_742 ?_
    exact J_iret cx dX5_bestHouse_29 h
  · replace h := h.2 q3
    refine J_iload_n cx 2 dX5_bestHouse_8 rfl rfl ?_
    refine J_i2l cx dX5_bestHouse_9 ?_
    refine J_lconst cx dX5_bestHouse_10 (by decide : _ = ((lN 1) : Int64)) ?_
    refine J_ldc2 cx (v := (lN 60)) dX5_bestHouse_11 gw_904 ?_
    refine J_cS cx dX5_bestHouse_14 S_X5_54 (by decide) (ct_X5_in   _ _ _ _ _ h) rfl rfl (Nat.le_of_ble_eq_true rfl) (k_i (fun r5 τ4 h => ?_))
    refine J_if_eq cx (tgt := 27) dX5_bestHouse_17 (by decide) (fun q6 => ?_) (fun q6 => ?_)
    · replace h := h.1 q6
      refine J_ldc cx (v := (-1000001)) dX5_bestHouse_27 gw_742 ?_
      exact J_iret cx dX5_bestHouse_29 h
    · replace h := h.2 q6
      refine J_iload_n cx 3 dX5_bestHouse_20 rfl rfl ?_
      refine J_cS cx dX5_bestHouse_21 S_X5_209 (by decide) (ct_X5_isWhat   _ _ _ h) rfl rfl (Nat.le_of_ble_eq_true rfl) (k_i (fun r8 τ7 h => ?_))
      refine J_if_ne cx (tgt := 30) dX5_bestHouse_24 (by decide) (fun q9 => ?_) (fun q9 => ?_)
      · replace h := h.1 q9
        refine J_aload_n cx 0 dX5_bestHouse_30 rfl rfl ?_
        refine J_cV cx dX5_bestHouse_31 V_X5_194 (by decide) (by decide) rfl (ct_X5_putAside    _ _ h) rfl rfl (Nat.le_of_ble_eq_true rfl) (k_v (fun τ10 h => ?_))
        refine J_iconst cx dX5_bestHouse_34 (by decide : _ = ((nI 0) : Int32)) ?_
        refine J_istore cx dX5_bestHouse_35 (by decide) rfl rfl ?_
        refine J_iconst cx dX5_bestHouse_37 (by decide : _ = ((-1) : Int32)) ?_
        refine J_istore cx dX5_bestHouse_38 (by decide) rfl rfl ?_
        refine J_iconst cx dX5_bestHouse_40 (by decide : _ = ((nI 0) : Int32)) ?_
        refine J_istore cx dX5_bestHouse_41 (by decide) rfl rfl ?_
        exact j_X5_bestHouse_43     cx   _ _ _ _ _ _ _ h
      · replace h := h.2 q9
        refine J_ldc cx (v := (-1000001)) dX5_bestHouse_27 gw_742 ?_
        exact J_iret cx dX5_bestHouse_29 h
def w_X5_tells_121 (K61 : (Int32 × Int32 × Int32 × Int32 × Int32 × Int32 × PI → Prop)) (Q : Int32 → PI → Prop) (l1 : Int32) (l2 : Int32) (l3 : Int32) (l4 : Int32) (l6 : Int32) (s0 : Int32) (σ : PI) : Prop := wp_X5_takeBack  σ (fun τ26 => (K61 (l1, l2, l3, l4, s0, (l6 + (nI 1)), τ26)))
set_option maxRecDepth 100000 in
set_option maxHeartbeats 4000000 in
theorem j_X5_tells_121 {M : MC} {X : XP} {Q : Int32 → PI → Prop} (K61 : (Int32 × Int32 × Int32 × Int32 × Int32 × Int32 × PI → Prop)) (hK61 : ∀ (l1 : Int32) (l2 : Int32) (l3 : Int32) (l4 : Int32) (l5 : Int32) (l6 : Int32) (σ : PI), K61 (l1, l2, l3, l4, l5, l6, σ) → J M X (QF M X (qI Q)) σ 61 [some (.ref (X.1 276)), some (.int l1), some (.int l2), some (.int l3), some (.int l4), some (.int l5), some (.int l6)] []) (cx : Cx M X RX5 cX5_tells 7 (some .int) 6) (l1 : Int32) (l2 : Int32) (l3 : Int32) (l4 : Int32) (l6 : Int32) (s0 : Int32) (σ : PI) (h : w_X5_tells_121  K61 Q l1 l2 l3 l4 l6 s0 σ) : J M X (QF M X (qI Q)) σ 121 [some (.ref (X.1 276)), some (.int l1), some (.int l2), some (.int l3), some (.int l4), none, some (.int l6)] [.int s0] := by
  unfold w_X5_tells_121 at h
  refine J_istore cx dX5_tells_121 (by decide) rfl rfl ?_
  refine J_aload_n cx 0 dX5_tells_123 rfl rfl ?_
  refine J_cV cx dX5_tells_124 V_X5_201 (by decide) (by decide) rfl (ct_X5_takeBack    _ _ h) rfl rfl (Nat.le_of_ble_eq_true rfl) (k_v (fun τ26 h => ?_))
  refine J_iinc cx dX5_tells_127 rfl (by decide : _ = ((nI 1) : Int32)) (by decide) rfl rfl ?_
  refine J_goto cx (tgt := 61) dX5_tells_130 (by decide) ?_
  exact hK61   _ _ _ _ _ _ _ h
def w_X5_tells_101 (K61 : (Int32 × Int32 × Int32 × Int32 × Int32 × Int32 × PI → Prop)) (Q : Int32 → PI → Prop) (l1 : Int32) (l2 : Int32) (l3 : Int32) (l5 : Int32) (l6 : Int32) (s0 : Int32) (σ : PI) : Prop := wp_X5_allFeel  σ (fun r22 τ21 => ((l5 ≤ r22 → w_X5_tells_121  K61 Q l1 l2 l3 s0 l6 l5 τ21) ∧ (¬ l5 ≤ r22 → wp_X5_allFeel  τ21 (fun r25 τ24 => (w_X5_tells_121  K61 Q l1 l2 l3 s0 l6 r25 τ24)))))
set_option maxRecDepth 100000 in
set_option maxHeartbeats 4000000 in
theorem j_X5_tells_101 {M : MC} {X : XP} {Q : Int32 → PI → Prop} (K61 : (Int32 × Int32 × Int32 × Int32 × Int32 × Int32 × PI → Prop)) (hK61 : ∀ (l1 : Int32) (l2 : Int32) (l3 : Int32) (l4 : Int32) (l5 : Int32) (l6 : Int32) (σ : PI), K61 (l1, l2, l3, l4, l5, l6, σ) → J M X (QF M X (qI Q)) σ 61 [some (.ref (X.1 276)), some (.int l1), some (.int l2), some (.int l3), some (.int l4), some (.int l5), some (.int l6)] []) (cx : Cx M X RX5 cX5_tells 7 (some .int) 6) (l1 : Int32) (l2 : Int32) (l3 : Int32) (l5 : Int32) (l6 : Int32) (s0 : Int32) (σ : PI) (h : w_X5_tells_101  K61 Q l1 l2 l3 l5 l6 s0 σ) : J M X (QF M X (qI Q)) σ 101 [some (.ref (X.1 276)), some (.int l1), some (.int l2), some (.int l3), none, some (.int l5), some (.int l6)] [.int s0] := by
  unfold w_X5_tells_101 at h
  refine J_istore cx dX5_tells_101 (by decide) rfl rfl ?_
  refine J_aload_n cx 0 dX5_tells_103 rfl rfl ?_
  refine J_cV cx dX5_tells_104 V_X5_176 (by decide) (by decide) rfl (ct_X5_allFeel    _ _ h) rfl rfl (Nat.le_of_ble_eq_true rfl) (k_i (fun r22 τ21 h => ?_))
  refine J_iload cx dX5_tells_107 rfl ?_
  refine J_icmp_ge cx (tgt := 119) dX5_tells_109 (by decide) (fun q23 => ?_) (fun q23 => ?_)
  · replace h := h.1 q23
    refine J_iload cx dX5_tells_119 rfl ?_
    refine J_fg 5 rfl ?_
    exact j_X5_tells_121   K61 hK61 cx   _ _ _ _ _ _ _ h
  · replace h := h.2 q23
    refine J_aload_n cx 0 dX5_tells_112 rfl rfl ?_
    refine J_cV cx dX5_tells_113 V_X5_176 (by decide) (by decide) rfl (ct_X5_allFeel    _ _ h) rfl rfl (Nat.le_of_ble_eq_true rfl) (k_i (fun r25 τ24 h => ?_))
    refine J_goto cx (tgt := 121) dX5_tells_116 (by decide) ?_
    refine J_fg 5 rfl ?_
    exact j_X5_tells_121   K61 hK61 cx   _ _ _ _ _ _ _ h
def B_X5_tells_61 (K61 : (Int32 × Int32 × Int32 × Int32 × Int32 × Int32 × PI → Prop)) (Q : Int32 → PI → Prop) (l1 : Int32) (l2 : Int32) (l3 : Int32) (l4 : Int32) (l5 : Int32) (l6 : Int32) (σ : PI) : Prop := ((σ 280 3) ≤ l6 → ∀ τ14 : PI, τ14 = up σ 276 6 (nI 0) → ((¬ l2 = (nI 0) → Q ((l3 - l5) + (nI 1000)) τ14) ∧ (l2 = (nI 0) → Q l4 τ14))) ∧ (¬ (σ 280 3) ≤ l6 → ∀ τ16 : PI, τ16 = up σ 276 6 ((nI 1) <<< (l6 &&& 31)) → (wp_X5_goOn l1 τ16 (fun τ17 => (wp_X5_allFeel  τ17 (fun r19 τ18 => ((l5 ≤ r19 → w_X5_tells_101  K61 Q l1 l2 l3 l5 l6 l4 τ18) ∧ (¬ l5 ≤ r19 → w_X5_tells_101  K61 Q l1 l2 l3 l5 l6 l6 τ18)))))))
def w_X5_tells_61 (Q : Int32 → PI → Prop) (l1 : Int32) (l2 : Int32) (l3 : Int32) (l4 : Int32) (l5 : Int32) (l6 : Int32) (σ : PI) : Prop := ∃ n, Lp (fun K a => B_X5_tells_61   K Q a.1 a.2.1 a.2.2.1 a.2.2.2.1 a.2.2.2.2.1 a.2.2.2.2.2.1 a.2.2.2.2.2.2) n (l1, l2, l3, l4, l5, l6, σ)
set_option maxRecDepth 100000 in
set_option maxHeartbeats 4000000 in
theorem j_X5_tells_61 {M : MC} {X : XP} {Q : Int32 → PI → Prop} (cx : Cx M X RX5 cX5_tells 7 (some .int) 6) (l1 : Int32) (l2 : Int32) (l3 : Int32) (l4 : Int32) (l5 : Int32) (l6 : Int32) (σ : PI) (h : w_X5_tells_61   Q l1 l2 l3 l4 l5 l6 σ) : J M X (QF M X (qI Q)) σ 61 [some (.ref (X.1 276)), some (.int l1), some (.int l2), some (.int l3), some (.int l4), some (.int l5), some (.int l6)] [] := by
  refine Lp_J (P := fun (a : Int32 × Int32 × Int32 × Int32 × Int32 × Int32 × PI) => J M X (QF M X (qI Q)) (a.2.2.2.2.2.2) 61 [some (.ref (X.1 276)), some (.int a.1), some (.int a.2.1), some (.int a.2.2.1), some (.int a.2.2.2.1), some (.int a.2.2.2.2.1), some (.int a.2.2.2.2.2.1)] []) (fun K61 hK a h => ?_) h
  obtain ⟨l1, l2, l3, l4, l5, l6, σ⟩ := a
  have hK61 : ∀ (l1 : Int32) (l2 : Int32) (l3 : Int32) (l4 : Int32) (l5 : Int32) (l6 : Int32) (σ : PI), K61 (l1, l2, l3, l4, l5, l6, σ) → J M X (QF M X (qI Q)) σ 61 [some (.ref (X.1 276)), some (.int l1), some (.int l2), some (.int l3), some (.int l4), some (.int l5), some (.int l6)] [] := fun l1 l2 l3 l4 l5 l6 σ q => hK _ q
  replace h : B_X5_tells_61   K61 Q l1 l2 l3 l4 l5 l6 σ := h
  show J M X (QF M X (qI Q)) σ 61 [some (.ref (X.1 276)), some (.int l1), some (.int l2), some (.int l3), some (.int l4), some (.int l5), some (.int l6)] []
  unfold B_X5_tells_61 at h
  refine J_iload cx dX5_tells_61 rfl ?_
  refine J_aload_n cx 0 dX5_tells_63 rfl rfl ?_
  refine J_getR cx (j := 280) dX5_tells_64 F_X5_19 (by decide) rfl rfl rfl ?_
  refine J_iconst cx dX5_tells_67 (by decide : _ = ((nI 3) : Int32)) ?_
  refine J_iald cx dX5_tells_68 (by decide) rfl (vpl (by decide)) ?_
  refine J_icmp_ge cx (tgt := 133) dX5_tells_69 (by decide) (fun q13 => ?_) (fun q13 => ?_)
  · replace h := h.1 q13
    refine J_aload_n cx 0 dX5_tells_133 rfl rfl ?_
    refine J_iconst cx dX5_tells_134 (by decide : _ = ((nI 0) : Int32)) ?_
    refine J_putI cx dX5_tells_135 (P_X5_148 _) (by decide) rfl rfl ?_
    refine J_nm (fun τ14 e_τ14 => ?_)
    replace h := h τ14 e_τ14
    refine J_iload_n cx 2 dX5_tells_138 rfl rfl ?_
    refine J_if_ne cx (tgt := 147) dX5_tells_139 (by decide) (fun q15 => ?_) (fun q15 => ?_)
    · replace h := h.1 q15
      refine J_iload_n cx 3 dX5_tells_147 rfl rfl ?_
      refine J_iload cx dX5_tells_148 rfl ?_
      refine J_isub cx dX5_tells_150 ?_
      refine J_sipush cx dX5_tells_151 (by decide : _ = ((nI 1000) : Int32)) ?_
      refine J_iadd cx dX5_tells_154 ?_
      exact J_iret cx dX5_tells_155 h
    · replace h := h.2 q15
      refine J_iload cx dX5_tells_142 rfl ?_
      refine J_goto cx (tgt := 155) dX5_tells_144 (by decide) ?_
      exact J_iret cx dX5_tells_155 h
  · replace h := h.2 q13
    refine J_aload_n cx 0 dX5_tells_72 rfl rfl ?_
    refine J_iconst cx dX5_tells_73 (by decide : _ = ((nI 1) : Int32)) ?_
    refine J_iload cx dX5_tells_74 rfl ?_
    refine J_ishl cx dX5_tells_76 ?_
    refine J_putI cx dX5_tells_77 (P_X5_148 _) (by decide) rfl rfl ?_
    refine J_nm (fun τ16 e_τ16 => ?_)
    replace h := h τ16 e_τ16
    refine J_aload_n cx 0 dX5_tells_80 rfl rfl ?_
    refine J_iload_n cx 1 dX5_tells_81 rfl rfl ?_
    refine J_cV cx dX5_tells_82 V_X5_197 (by decide) (by decide) rfl (ct_X5_goOn   _ _ _ h) rfl rfl (Nat.le_of_ble_eq_true rfl) (k_v (fun τ17 h => ?_))
    refine J_aload_n cx 0 dX5_tells_85 rfl rfl ?_
    refine J_cV cx dX5_tells_86 V_X5_176 (by decide) (by decide) rfl (ct_X5_allFeel    _ _ h) rfl rfl (Nat.le_of_ble_eq_true rfl) (k_i (fun r19 τ18 h => ?_))
    refine J_iload cx dX5_tells_89 rfl ?_
    refine J_icmp_ge cx (tgt := 99) dX5_tells_91 (by decide) (fun q20 => ?_) (fun q20 => ?_)
    · replace h := h.1 q20
      refine J_iload cx dX5_tells_99 rfl ?_
      refine J_fg 4 rfl ?_
      exact j_X5_tells_101   K61 hK61 cx   _ _ _ _ _ _ _ h
    · replace h := h.2 q20
      refine J_iload cx dX5_tells_94 rfl ?_
      refine J_goto cx (tgt := 101) dX5_tells_96 (by decide) ?_
      refine J_fg 4 rfl ?_
      exact j_X5_tells_101   K61 hK61 cx   _ _ _ _ _ _ _ h
def wp_X5_tells (a0 : Int32) (a1 : Int32) (σ : PI) (Q : Int32 → PI → Prop) : Prop := (¬ (σ 276 4) = (nI 0) → wp_X5_in (a0 : Int32).toInt64 (lN 1) (lN 60) σ (fun r3 τ2 => ((r3 = (nI 0) → Q (-1000001) τ2) ∧ (¬ r3 = (nI 0) → wp_X5_isWhat a1 τ2 (fun r6 τ5 => ((¬ r6 = (nI 0) → wp_X5_putAside  τ5 (fun τ8 => (wp_X5_goOn a0 τ8 (fun τ9 => (wp_X5_allFeel  τ9 (fun r11 τ10 => (wp_X5_takeBack  τ10 (fun τ12 => (w_X5_tells_61   Q a0 a1 r11 (nI 0) (nI 496) (nI 0) τ12))))))))) ∧ (r6 = (nI 0) → Q (-1000001) τ5))))))) ∧ ((σ 276 4) = (nI 0) → Q (-1000002) σ)
set_option maxRecDepth 100000 in
set_option maxHeartbeats 4000000 in
theorem ct_X5_tells {l : Launch} {X : XP} (a0 : Int32) (a1 : Int32) (σ : PI) (Q : Int32 → PI → Prop) (h : wp_X5_tells  a0 a1 σ Q) : Ct l yX5_tells cX5_tells 7 (some .int) 6 X [.ref (X.1 276), .int a0, .int a1] σ (qI Q) := by
  refine Ct_of (L := [some (.ref (X.1 276)), some (.int a0), some (.int a1), none, none, none, none]) (by decide) (Nat.le_of_ble_eq_true rfl) rfl (fun M hl cx => ?_)
  subst hl
  unfold wp_X5_tells at h
  refine J_aload_n cx 0 dX5_tells_0 rfl rfl ?_
  refine J_getI cx dX5_tells_1 F_X5_135 (by decide) rfl rfl ?_
  refine J_if_ne cx (tgt := 10) dX5_tells_4 (by decide) (fun q1 => ?_) (fun q1 => ?_)
  · replace h := h.1 q1
    refine J_iload_n cx 1 dX5_tells_10 rfl rfl ?_
    refine J_i2l cx dX5_tells_11 ?_
    refine J_lconst cx dX5_tells_12 (by decide : _ = ((lN 1) : Int64)) ?_
    refine J_ldc2 cx (v := (lN 60)) dX5_tells_13 gw_904 ?_
    refine J_cS cx dX5_tells_16 S_X5_54 (by decide) (ct_X5_in   _ _ _ _ _ h) rfl rfl (Nat.le_of_ble_eq_true rfl) (k_i (fun r3 τ2 h => ?_))
    refine J_if_eq cx (tgt := 29) dX5_tells_19 (by decide) (fun q4 => ?_) (fun q4 => ?_)
    · replace h := h.1 q4
      refine J_ldc cx (v := (-1000001)) dX5_tells_29 gw_742 ?_
      exact J_iret cx dX5_tells_31 h
    · replace h := h.2 q4
      refine J_iload_n cx 2 dX5_tells_22 rfl rfl ?_
      refine J_cS cx dX5_tells_23 S_X5_209 (by decide) (ct_X5_isWhat   _ _ _ h) rfl rfl (Nat.le_of_ble_eq_true rfl) (k_i (fun r6 τ5 h => ?_))
      refine J_if_ne cx (tgt := 32) dX5_tells_26 (by decide) (fun q7 => ?_) (fun q7 => ?_)
      · replace h := h.1 q7
        refine J_aload_n cx 0 dX5_tells_32 rfl rfl ?_
        refine J_cV cx dX5_tells_33 V_X5_194 (by decide) (by decide) rfl (ct_X5_putAside    _ _ h) rfl rfl (Nat.le_of_ble_eq_true rfl) (k_v (fun τ8 h => ?_))
        refine J_aload_n cx 0 dX5_tells_36 rfl rfl ?_
        refine J_iload_n cx 1 dX5_tells_37 rfl rfl ?_
        refine J_cV cx dX5_tells_38 V_X5_197 (by decide) (by decide) rfl (ct_X5_goOn   _ _ _ h) rfl rfl (Nat.le_of_ble_eq_true rfl) (k_v (fun τ9 h => ?_))
        refine J_aload_n cx 0 dX5_tells_41 rfl rfl ?_
        refine J_cV cx dX5_tells_42 V_X5_176 (by decide) (by decide) rfl (ct_X5_allFeel    _ _ h) rfl rfl (Nat.le_of_ble_eq_true rfl) (k_i (fun r11 τ10 h => ?_))
        refine J_istore_n cx 3 dX5_tells_45 rfl (by decide) rfl rfl ?_
        refine J_aload_n cx 0 dX5_tells_46 rfl rfl ?_
        refine J_cV cx dX5_tells_47 V_X5_201 (by decide) (by decide) rfl (ct_X5_takeBack    _ _ h) rfl rfl (Nat.le_of_ble_eq_true rfl) (k_v (fun τ12 h => ?_))
        refine J_iconst cx dX5_tells_50 (by decide : _ = ((nI 0) : Int32)) ?_
        refine J_istore cx dX5_tells_51 (by decide) rfl rfl ?_
        refine J_sipush cx dX5_tells_53 (by decide : _ = ((nI 496) : Int32)) ?_
        refine J_istore cx dX5_tells_56 (by decide) rfl rfl ?_
        refine J_iconst cx dX5_tells_58 (by decide : _ = ((nI 0) : Int32)) ?_
        refine J_istore cx dX5_tells_59 (by decide) rfl rfl ?_
        exact j_X5_tells_61     cx   _ _ _ _ _ _ _ h
      · replace h := h.2 q7
        refine J_ldc cx (v := (-1000001)) dX5_tells_29 gw_742 ?_
        exact J_iret cx dX5_tells_31 h
  · replace h := h.2 q1
    refine J_ldc cx (v := (-1000002)) dX5_tells_7 gw_822 ?_
    exact J_iret cx dX5_tells_9 h
def wp_X5_lacks (a0 : Int32) (a1 : Int32) (a2 : Int32) (σ : PI) (Q : Int32 → PI → Prop) : Prop := vp_in a0 8 ∧ (((nI 0) ≤ (σ 278 (a0 : Int32).toNatClampNeg) → vp_in a0 8 ∧ (wp_X5_in (a1 : Int32).toInt64 (lN 0) (((σ 278 (a0 : Int32).toNatClampNeg) - a2) : Int32).toInt64 σ (fun r5 τ4 => ((r5 = (nI 0) → wp_X5_find (nI 2) τ4 (fun r8 τ7 => (Q r8 τ7))) ∧ (¬ r5 = (nI 0) → Q (nI 0) τ4))))) ∧ (¬ (nI 0) ≤ (σ 278 (a0 : Int32).toNatClampNeg) → wp_X5_find (nI 1) σ (fun r10 τ9 => (Q r10 τ9))))
set_option maxRecDepth 100000 in
set_option maxHeartbeats 4000000 in
theorem ct_X5_lacks {l : Launch} {X : XP} (a0 : Int32) (a1 : Int32) (a2 : Int32) (σ : PI) (Q : Int32 → PI → Prop) (h : wp_X5_lacks  a0 a1 a2 σ Q) : Ct l yX5_lacks cX5_lacks 4 (some .int) 1 X [.ref (X.1 276), .int a0, .int a1, .int a2] σ (qI Q) := by
  refine Ct_of (L := [some (.ref (X.1 276)), some (.int a0), some (.int a1), some (.int a2)]) (by decide) (Nat.le_of_ble_eq_true rfl) rfl (fun M hl cx => ?_)
  subst hl
  unfold wp_X5_lacks at h
  refine J_aload_n cx 0 dX5_lacks_0 rfl rfl ?_
  refine J_getR cx (j := 278) dX5_lacks_1 F_X5_13 (by decide) rfl rfl rfl ?_
  refine J_iload_n cx 1 dX5_lacks_4 rfl rfl ?_
  obtain ⟨s1, h⟩ := h
  refine J_iald cx dX5_lacks_5 (by decide) rfl s1 ?_
  refine J_if_ge cx (tgt := 15) dX5_lacks_6 (by decide) (fun q2 => ?_) (fun q2 => ?_)
  · replace h := h.1 q2
    refine J_iload_n cx 2 dX5_lacks_15 rfl rfl ?_
    refine J_i2l cx dX5_lacks_16 ?_
    refine J_lconst cx dX5_lacks_17 (by decide : _ = ((lN 0) : Int64)) ?_
    refine J_aload_n cx 0 dX5_lacks_18 rfl rfl ?_
    refine J_getR cx (j := 278) dX5_lacks_19 F_X5_13 (by decide) rfl rfl rfl ?_
    refine J_iload_n cx 1 dX5_lacks_22 rfl rfl ?_
    obtain ⟨s3, h⟩ := h
    refine J_iald cx dX5_lacks_23 (by decide) rfl s3 ?_
    refine J_iload_n cx 3 dX5_lacks_24 rfl rfl ?_
    refine J_isub cx dX5_lacks_25 ?_
    refine J_i2l cx dX5_lacks_26 ?_
    refine J_cS cx dX5_lacks_27 S_X5_54 (by decide) (ct_X5_in   _ _ _ _ _ h) rfl rfl (Nat.le_of_ble_eq_true rfl) (k_i (fun r5 τ4 h => ?_))
    refine J_if_eq cx (tgt := 37) dX5_lacks_30 (by decide) (fun q6 => ?_) (fun q6 => ?_)
    · replace h := h.1 q6
      refine J_aload_n cx 0 dX5_lacks_37 rfl rfl ?_
      refine J_iconst cx dX5_lacks_38 (by decide : _ = ((nI 2) : Int32)) ?_
      refine J_cV cx dX5_lacks_39 V_X5_65 (by decide) (by decide) rfl (ct_X5_find   _ _ _ h) rfl rfl (Nat.le_of_ble_eq_true rfl) (k_i (fun r8 τ7 h => ?_))
      exact J_iret cx dX5_lacks_42 h
    · replace h := h.2 q6
      refine J_iconst cx dX5_lacks_33 (by decide : _ = ((nI 0) : Int32)) ?_
      refine J_goto cx (tgt := 42) dX5_lacks_34 (by decide) ?_
      exact J_iret cx dX5_lacks_42 h
  · replace h := h.2 q2
    refine J_aload_n cx 0 dX5_lacks_9 rfl rfl ?_
    refine J_iconst cx dX5_lacks_10 (by decide : _ = ((nI 1) : Int32)) ?_
    refine J_cV cx dX5_lacks_11 V_X5_65 (by decide) (by decide) rfl (ct_X5_find   _ _ _ h) rfl rfl (Nat.le_of_ble_eq_true rfl) (k_i (fun r10 τ9 h => ?_))
    exact J_iret cx dX5_lacks_14 h
def w_X5_isSo_47 (K6 : (Int32 × Int32 × Int32 × Int32 × Int32 × PI → Prop)) (Q : Int32 → PI → Prop) (l1 : Int32) (l2 : Int32) (l3 : Int32) (l5 : Int32) (s0 : Int32) (σ : PI) : Prop := K6 (l1, l2, l3, s0, (l5 + (nI 1)), σ)
set_option maxRecDepth 100000 in
set_option maxHeartbeats 4000000 in
theorem j_X5_isSo_47 {M : MC} {X : XP} {Q : Int32 → PI → Prop} (K6 : (Int32 × Int32 × Int32 × Int32 × Int32 × PI → Prop)) (hK6 : ∀ (l1 : Int32) (l2 : Int32) (l3 : Int32) (l4 : Int32) (l5 : Int32) (σ : PI), K6 (l1, l2, l3, l4, l5, σ) → J M X (QF M X (qI Q)) σ 6 [some (.ref (X.1 276)), some (.int l1), some (.int l2), some (.int l3), some (.int l4), some (.int l5)] []) (cx : Cx M X RX5 cX5_isSo 6 (some .boolean) 5) (l1 : Int32) (l2 : Int32) (l3 : Int32) (l5 : Int32) (s0 : Int32) (σ : PI) (h : w_X5_isSo_47  K6 Q l1 l2 l3 l5 s0 σ) : J M X (QF M X (qI Q)) σ 47 [some (.ref (X.1 276)), some (.int l1), some (.int l2), some (.int l3), none, some (.int l5)] [.int s0] := by
  unfold w_X5_isSo_47 at h
  refine J_istore cx dX5_isSo_47 (by decide) rfl rfl ?_
  refine J_iinc cx dX5_isSo_49 rfl (by decide : _ = ((nI 1) : Int32)) (by decide) rfl rfl ?_
  refine J_goto cx (tgt := 6) dX5_isSo_52 (by decide) ?_
  exact hK6   _ _ _ _ _ _ h
def w_X5_isSo_46 (K6 : (Int32 × Int32 × Int32 × Int32 × Int32 × PI → Prop)) (Q : Int32 → PI → Prop) (l1 : Int32) (l2 : Int32) (l3 : Int32) (l5 : Int32) (σ : PI) : Prop := w_X5_isSo_47  K6 Q l1 l2 l3 l5 (nI 0) σ
set_option maxRecDepth 100000 in
set_option maxHeartbeats 4000000 in
theorem j_X5_isSo_46 {M : MC} {X : XP} {Q : Int32 → PI → Prop} (K6 : (Int32 × Int32 × Int32 × Int32 × Int32 × PI → Prop)) (hK6 : ∀ (l1 : Int32) (l2 : Int32) (l3 : Int32) (l4 : Int32) (l5 : Int32) (σ : PI), K6 (l1, l2, l3, l4, l5, σ) → J M X (QF M X (qI Q)) σ 6 [some (.ref (X.1 276)), some (.int l1), some (.int l2), some (.int l3), some (.int l4), some (.int l5)] []) (cx : Cx M X RX5 cX5_isSo 6 (some .boolean) 5) (l1 : Int32) (l2 : Int32) (l3 : Int32) (l5 : Int32) (σ : PI) (h : w_X5_isSo_46  K6 Q l1 l2 l3 l5 σ) : J M X (QF M X (qI Q)) σ 46 [some (.ref (X.1 276)), some (.int l1), some (.int l2), some (.int l3), none, some (.int l5)] [] := by
  unfold w_X5_isSo_46 at h
  refine J_iconst cx dX5_isSo_46 (by decide : _ = ((nI 0) : Int32)) ?_
  exact j_X5_isSo_47   K6 hK6 cx   _ _ _ _ _ _ h
def B_X5_isSo_6 (K6 : (Int32 × Int32 × Int32 × Int32 × Int32 × PI → Prop)) (Q : Int32 → PI → Prop) (l1 : Int32) (l2 : Int32) (l3 : Int32) (l4 : Int32) (l5 : Int32) (σ : PI) : Prop := (l3 ≤ l5 → wp_X5_takeBack  σ (fun τ2 => (bz l4 ∧ Q l4 τ2))) ∧ (¬ l3 ≤ l5 → wp_X5_oneDay  σ (fun τ3 => ((l4 = (nI 0) → w_X5_isSo_46  K6 Q l1 l2 l3 l5 τ3) ∧ (¬ l4 = (nI 0) → vp_in (l2 + l5) 320 ∧ (vp_in ((nI 6) + l1) 70 ∧ ((¬ (τ3 279 ((l2 + l5) : Int32).toNatClampNeg) = (τ3 280 (((nI 6) + l1) : Int32).toNatClampNeg) → w_X5_isSo_46  K6 Q l1 l2 l3 l5 τ3) ∧ ((τ3 279 ((l2 + l5) : Int32).toNatClampNeg) = (τ3 280 (((nI 6) + l1) : Int32).toNatClampNeg) → w_X5_isSo_47  K6 Q l1 l2 l3 l5 (nI 1) τ3)))))))
def w_X5_isSo_6 (Q : Int32 → PI → Prop) (l1 : Int32) (l2 : Int32) (l3 : Int32) (l4 : Int32) (l5 : Int32) (σ : PI) : Prop := ∃ n, Lp (fun K a => B_X5_isSo_6   K Q a.1 a.2.1 a.2.2.1 a.2.2.2.1 a.2.2.2.2.1 a.2.2.2.2.2) n (l1, l2, l3, l4, l5, σ)
set_option maxRecDepth 100000 in
set_option maxHeartbeats 4000000 in
theorem j_X5_isSo_6 {M : MC} {X : XP} {Q : Int32 → PI → Prop} (cx : Cx M X RX5 cX5_isSo 6 (some .boolean) 5) (l1 : Int32) (l2 : Int32) (l3 : Int32) (l4 : Int32) (l5 : Int32) (σ : PI) (h : w_X5_isSo_6   Q l1 l2 l3 l4 l5 σ) : J M X (QF M X (qI Q)) σ 6 [some (.ref (X.1 276)), some (.int l1), some (.int l2), some (.int l3), some (.int l4), some (.int l5)] [] := by
  refine Lp_J (P := fun (a : Int32 × Int32 × Int32 × Int32 × Int32 × PI) => J M X (QF M X (qI Q)) (a.2.2.2.2.2) 6 [some (.ref (X.1 276)), some (.int a.1), some (.int a.2.1), some (.int a.2.2.1), some (.int a.2.2.2.1), some (.int a.2.2.2.2.1)] []) (fun K6 hK a h => ?_) h
  obtain ⟨l1, l2, l3, l4, l5, σ⟩ := a
  have hK6 : ∀ (l1 : Int32) (l2 : Int32) (l3 : Int32) (l4 : Int32) (l5 : Int32) (σ : PI), K6 (l1, l2, l3, l4, l5, σ) → J M X (QF M X (qI Q)) σ 6 [some (.ref (X.1 276)), some (.int l1), some (.int l2), some (.int l3), some (.int l4), some (.int l5)] [] := fun l1 l2 l3 l4 l5 σ q => hK _ q
  replace h : B_X5_isSo_6   K6 Q l1 l2 l3 l4 l5 σ := h
  show J M X (QF M X (qI Q)) σ 6 [some (.ref (X.1 276)), some (.int l1), some (.int l2), some (.int l3), some (.int l4), some (.int l5)] []
  unfold B_X5_isSo_6 at h
  refine J_iload cx dX5_isSo_6 rfl ?_
  refine J_iload_n cx 3 dX5_isSo_8 rfl rfl ?_
  refine J_icmp_ge cx (tgt := 55) dX5_isSo_9 (by decide) (fun q1 => ?_) (fun q1 => ?_)
  · replace h := h.1 q1
    refine J_aload_n cx 0 dX5_isSo_55 rfl rfl ?_
    refine J_cV cx dX5_isSo_56 V_X5_201 (by decide) (by decide) rfl (ct_X5_takeBack    _ _ h) rfl rfl (Nat.le_of_ble_eq_true rfl) (k_v (fun τ2 h => ?_))
    refine J_iload cx dX5_isSo_59 rfl ?_
    exact J_zret cx dX5_isSo_61 h.1 h.2
  · replace h := h.2 q1
    refine J_aload_n cx 0 dX5_isSo_12 rfl rfl ?_
    refine J_cV cx dX5_isSo_13 V_X5_173 (by decide) (by decide) rfl (ct_X5_oneDay    _ _ h) rfl rfl (Nat.le_of_ble_eq_true rfl) (k_v (fun τ3 h => ?_))
    refine J_iload cx dX5_isSo_16 rfl ?_
    refine J_if_eq cx (tgt := 46) dX5_isSo_18 (by decide) (fun q4 => ?_) (fun q4 => ?_)
    · replace h := h.1 q4
      refine J_fg 4 rfl ?_
      exact j_X5_isSo_46   K6 hK6 cx   _ _ _ _ _ h
    · replace h := h.2 q4
      refine J_aload_n cx 0 dX5_isSo_21 rfl rfl ?_
      refine J_getR cx (j := 279) dX5_isSo_22 F_X5_16 (by decide) rfl rfl rfl ?_
      refine J_iload_n cx 2 dX5_isSo_25 rfl rfl ?_
      refine J_iload cx dX5_isSo_26 rfl ?_
      refine J_iadd cx dX5_isSo_28 ?_
      obtain ⟨s5, h⟩ := h
      refine J_iald cx dX5_isSo_29 (by decide) rfl s5 ?_
      refine J_aload_n cx 0 dX5_isSo_30 rfl rfl ?_
      refine J_getR cx (j := 280) dX5_isSo_31 F_X5_19 (by decide) rfl rfl rfl ?_
      refine J_bipush cx dX5_isSo_34 (by decide : _ = ((nI 6) : Int32)) ?_
      refine J_iload_n cx 1 dX5_isSo_36 rfl rfl ?_
      refine J_iadd cx dX5_isSo_37 ?_
      obtain ⟨s6, h⟩ := h
      refine J_iald cx dX5_isSo_38 (by decide) rfl s6 ?_
      refine J_icmp_ne cx (tgt := 46) dX5_isSo_39 (by decide) (fun q7 => ?_) (fun q7 => ?_)
      · replace h := h.1 q7
        refine J_fg 4 rfl ?_
        exact j_X5_isSo_46   K6 hK6 cx   _ _ _ _ _ h
      · replace h := h.2 q7
        refine J_iconst cx dX5_isSo_42 (by decide : _ = ((nI 1) : Int32)) ?_
        refine J_goto cx (tgt := 47) dX5_isSo_43 (by decide) ?_
        refine J_fg 4 rfl ?_
        exact j_X5_isSo_47   K6 hK6 cx   _ _ _ _ _ _ h
def wp_X5_isSo (a0 : Int32) (a1 : Int32) (a2 : Int32) (σ : PI) (Q : Int32 → PI → Prop) : Prop := w_X5_isSo_6   Q a0 a1 a2 (nI 1) (nI 0) σ
set_option maxRecDepth 100000 in
set_option maxHeartbeats 4000000 in
theorem ct_X5_isSo {l : Launch} {X : XP} (a0 : Int32) (a1 : Int32) (a2 : Int32) (σ : PI) (Q : Int32 → PI → Prop) (h : wp_X5_isSo  a0 a1 a2 σ Q) : Ct l yX5_isSo cX5_isSo 6 (some .boolean) 5 X [.ref (X.1 276), .int a0, .int a1, .int a2] σ (qI Q) := by
  refine Ct_of (L := [some (.ref (X.1 276)), some (.int a0), some (.int a1), some (.int a2), none, none]) (by decide) (Nat.le_of_ble_eq_true rfl) rfl (fun M hl cx => ?_)
  subst hl
  unfold wp_X5_isSo at h
  refine J_iconst cx dX5_isSo_0 (by decide : _ = ((nI 1) : Int32)) ?_
  refine J_istore cx dX5_isSo_1 (by decide) rfl rfl ?_
  refine J_iconst cx dX5_isSo_3 (by decide : _ = ((nI 0) : Int32)) ?_
  refine J_istore cx dX5_isSo_4 (by decide) rfl rfl ?_
  exact j_X5_isSo_6     cx   _ _ _ _ _ _ h
def w_X5_lacksAsk_28 (Q : Int32 → PI → Prop) (σ : PI) : Prop := Q (-1000001) σ
set_option maxRecDepth 100000 in
set_option maxHeartbeats 4000000 in
theorem j_X5_lacksAsk_28 {M : MC} {X : XP} {Q : Int32 → PI → Prop} (cx : Cx M X RX5 cX5_lacksAsk 5 (some .int) 2) (σ : PI) (h : w_X5_lacksAsk_28   Q  σ) : J M X (QF M X (qI Q)) σ 28 [none, none, none, none, none] [] := by
  unfold w_X5_lacksAsk_28 at h
  refine J_ldc cx (v := (-1000001)) dX5_lacksAsk_28 gw_742 ?_
  refine J_goto cx (tgt := 41) dX5_lacksAsk_30 (by decide) ?_
  exact J_iret cx dX5_lacksAsk_41 h
def wp_X5_lacksAsk (a0 : Int32) (a1 : Int32) (a2 : Int32) (a3 : Int32) (σ : PI) (Q : Int32 → PI → Prop) : Prop := wp_X5_isMan a0 σ (fun r2 τ1 => ((r2 = (nI 0) → w_X5_lacksAsk_28   Q  τ1) ∧ (¬ r2 = (nI 0) → wp_X5_isRow a1 τ1 (fun r5 τ4 => ((r5 = (nI 0) → w_X5_lacksAsk_28   Q  τ4) ∧ (¬ r5 = (nI 0) → wp_X5_in (a3 : Int32).toInt64 (lN 1) (lN 12) τ4 (fun r8 τ7 => ((¬ r8 = (nI 0) → wp_X5_lacks a1 a2 a3 τ7 (fun r11 τ10 => (Q r11 τ10))) ∧ (r8 = (nI 0) → w_X5_lacksAsk_28   Q  τ7)))))))))
set_option maxRecDepth 100000 in
set_option maxHeartbeats 4000000 in
theorem ct_X5_lacksAsk {l : Launch} {X : XP} (a0 : Int32) (a1 : Int32) (a2 : Int32) (a3 : Int32) (σ : PI) (Q : Int32 → PI → Prop) (h : wp_X5_lacksAsk  a0 a1 a2 a3 σ Q) : Ct l yX5_lacksAsk cX5_lacksAsk 5 (some .int) 2 X [.ref (X.1 276), .int a0, .int a1, .int a2, .int a3] σ (qI Q) := by
  refine Ct_of (L := [some (.ref (X.1 276)), some (.int a0), some (.int a1), some (.int a2), some (.int a3)]) (by decide) (Nat.le_of_ble_eq_true rfl) rfl (fun M hl cx => ?_)
  subst hl
  unfold wp_X5_lacksAsk at h
  refine J_aload_n cx 0 dX5_lacksAsk_0 rfl rfl ?_
  refine J_iload_n cx 1 dX5_lacksAsk_1 rfl rfl ?_
  refine J_cV cx dX5_lacksAsk_2 V_X5_183 (by decide) (by decide) rfl (ct_X5_isMan   _ _ _ h) rfl rfl (Nat.le_of_ble_eq_true rfl) (k_i (fun r2 τ1 h => ?_))
  refine J_if_eq cx (tgt := 28) dX5_lacksAsk_5 (by decide) (fun q3 => ?_) (fun q3 => ?_)
  · replace h := h.1 q3
    refine J_fg 0 rfl ?_
    refine J_fg 1 rfl ?_
    refine J_fg 2 rfl ?_
    refine J_fg 3 rfl ?_
    refine J_fg 4 rfl ?_
    exact j_X5_lacksAsk_28     cx   _ h
  · replace h := h.2 q3
    refine J_iload_n cx 2 dX5_lacksAsk_8 rfl rfl ?_
    refine J_cS cx dX5_lacksAsk_9 S_X5_58 (by decide) (ct_X5_isRow   _ _ _ h) rfl rfl (Nat.le_of_ble_eq_true rfl) (k_i (fun r5 τ4 h => ?_))
    refine J_if_eq cx (tgt := 28) dX5_lacksAsk_12 (by decide) (fun q6 => ?_) (fun q6 => ?_)
    · replace h := h.1 q6
      refine J_fg 0 rfl ?_
      refine J_fg 1 rfl ?_
      refine J_fg 2 rfl ?_
      refine J_fg 3 rfl ?_
      refine J_fg 4 rfl ?_
      exact j_X5_lacksAsk_28     cx   _ h
    · replace h := h.2 q6
      refine J_iload cx dX5_lacksAsk_15 rfl ?_
      refine J_i2l cx dX5_lacksAsk_17 ?_
      refine J_lconst cx dX5_lacksAsk_18 (by decide : _ = ((lN 1) : Int64)) ?_
      refine J_ldc2 cx (v := (lN 12)) dX5_lacksAsk_19 gw_966 ?_
      refine J_cS cx dX5_lacksAsk_22 S_X5_54 (by decide) (ct_X5_in   _ _ _ _ _ h) rfl rfl (Nat.le_of_ble_eq_true rfl) (k_i (fun r8 τ7 h => ?_))
      refine J_if_ne cx (tgt := 33) dX5_lacksAsk_25 (by decide) (fun q9 => ?_) (fun q9 => ?_)
      · replace h := h.1 q9
        refine J_aload_n cx 0 dX5_lacksAsk_33 rfl rfl ?_
        refine J_iload_n cx 2 dX5_lacksAsk_34 rfl rfl ?_
        refine J_iload_n cx 3 dX5_lacksAsk_35 rfl rfl ?_
        refine J_iload cx dX5_lacksAsk_36 rfl ?_
        refine J_cV cx dX5_lacksAsk_38 V_X5_220 (by decide) (by decide) rfl (ct_X5_lacks   _ _ _ _ _ h) rfl rfl (Nat.le_of_ble_eq_true rfl) (k_i (fun r11 τ10 h => ?_))
        exact J_iret cx dX5_lacksAsk_41 h
      · replace h := h.2 q9
        refine J_fg 0 rfl ?_
        refine J_fg 1 rfl ?_
        refine J_fg 2 rfl ?_
        refine J_fg 3 rfl ?_
        refine J_fg 4 rfl ?_
        exact j_X5_lacksAsk_28     cx   _ h
def w_X5_who_87 (K43 : (Int32 × Int32 × Int32 × Int32 × Int32 × Int32 × Int32 × PI → Prop)) (Q : Int32 → PI → Prop) (l1 : Int32) (l2 : Int32) (l3 : Int32) (l4 : Int32) (l5 : Int32) (l8 : Int32) (s0 : Int32) (s1 : Int32) (σ : PI) : Prop := ∀ x16 : Int32, x16 = (s1 ||| s0) → (K43 (l1, l2, l3, l4, l5, x16, (l8 + (nI 1)), σ))
set_option maxRecDepth 100000 in
set_option maxHeartbeats 4000000 in
theorem j_X5_who_87 {M : MC} {X : XP} {Q : Int32 → PI → Prop} (K43 : (Int32 × Int32 × Int32 × Int32 × Int32 × Int32 × Int32 × PI → Prop)) (hK43 : ∀ (l1 : Int32) (l2 : Int32) (l3 : Int32) (l4 : Int32) (l5 : Int32) (l7 : Int32) (l8 : Int32) (σ : PI), K43 (l1, l2, l3, l4, l5, l7, l8, σ) → J M X (QF M X (qI Q)) σ 43 [some (.ref (X.1 276)), some (.int l1), some (.int l2), some (.int l3), some (.int l4), some (.int l5), none, some (.int l7), some (.int l8)] []) (cx : Cx M X RX5 cX5_who 9 (some .int) 6) (l1 : Int32) (l2 : Int32) (l3 : Int32) (l4 : Int32) (l5 : Int32) (l8 : Int32) (s0 : Int32) (s1 : Int32) (σ : PI) (h : w_X5_who_87  K43 Q l1 l2 l3 l4 l5 l8 s0 s1 σ) : J M X (QF M X (qI Q)) σ 87 [some (.ref (X.1 276)), some (.int l1), some (.int l2), some (.int l3), some (.int l4), some (.int l5), none, none, some (.int l8)] [.int s0, .int s1] := by
  unfold w_X5_who_87 at h
  refine J_ior cx dX5_who_87 ?_
  refine J_topi (fun x16 e_x16 => ?_)
  replace h := h x16 e_x16
  refine J_istore cx dX5_who_88 (by decide) rfl rfl ?_
  refine J_iinc cx dX5_who_90 rfl (by decide : _ = ((nI 1) : Int32)) (by decide) rfl rfl ?_
  refine J_goto cx (tgt := 43) dX5_who_93 (by decide) ?_
  exact hK43   _ _ _ _ _ _ _ _ h
def B_X5_who_43 (K43 : (Int32 × Int32 × Int32 × Int32 × Int32 × Int32 × Int32 × PI → Prop)) (Q : Int32 → PI → Prop) (l1 : Int32) (l2 : Int32) (l3 : Int32) (l4 : Int32) (l5 : Int32) (l7 : Int32) (l8 : Int32) (σ : PI) : Prop := ((nI 5) < l8 → wp_X5_well l7 σ (fun r10 τ9 => (Q r10 τ9))) ∧ (¬ (nI 5) < l8 → vp_in ((nI 16) + l1) 70 ∧ (∀ τ12 : PI, τ12 = up σ 280 (((nI 16) + l1) : Int32).toNatClampNeg l8 → (wp_X5_isSo l2 (((nI 40) * l3) + l4) l5 τ12 (fun r14 τ13 => ((r14 = (nI 0) → w_X5_who_87  K43 Q l1 l2 l3 l4 l5 l8 (nI 0) l7 τ13) ∧ (¬ r14 = (nI 0) → w_X5_who_87  K43 Q l1 l2 l3 l4 l5 l8 ((nI 1) <<< (l8 &&& 31)) l7 τ13))))))
def w_X5_who_43 (Q : Int32 → PI → Prop) (l1 : Int32) (l2 : Int32) (l3 : Int32) (l4 : Int32) (l5 : Int32) (l7 : Int32) (l8 : Int32) (σ : PI) : Prop := ∃ n, Lp (fun K a => B_X5_who_43   K Q a.1 a.2.1 a.2.2.1 a.2.2.2.1 a.2.2.2.2.1 a.2.2.2.2.2.1 a.2.2.2.2.2.2.1 a.2.2.2.2.2.2.2) n (l1, l2, l3, l4, l5, l7, l8, σ)
set_option maxRecDepth 100000 in
set_option maxHeartbeats 4000000 in
theorem j_X5_who_43 {M : MC} {X : XP} {Q : Int32 → PI → Prop} (cx : Cx M X RX5 cX5_who 9 (some .int) 6) (l1 : Int32) (l2 : Int32) (l3 : Int32) (l4 : Int32) (l5 : Int32) (l7 : Int32) (l8 : Int32) (σ : PI) (h : w_X5_who_43   Q l1 l2 l3 l4 l5 l7 l8 σ) : J M X (QF M X (qI Q)) σ 43 [some (.ref (X.1 276)), some (.int l1), some (.int l2), some (.int l3), some (.int l4), some (.int l5), none, some (.int l7), some (.int l8)] [] := by
  refine Lp_J (P := fun (a : Int32 × Int32 × Int32 × Int32 × Int32 × Int32 × Int32 × PI) => J M X (QF M X (qI Q)) (a.2.2.2.2.2.2.2) 43 [some (.ref (X.1 276)), some (.int a.1), some (.int a.2.1), some (.int a.2.2.1), some (.int a.2.2.2.1), some (.int a.2.2.2.2.1), none, some (.int a.2.2.2.2.2.1), some (.int a.2.2.2.2.2.2.1)] []) (fun K43 hK a h => ?_) h
  obtain ⟨l1, l2, l3, l4, l5, l7, l8, σ⟩ := a
  have hK43 : ∀ (l1 : Int32) (l2 : Int32) (l3 : Int32) (l4 : Int32) (l5 : Int32) (l7 : Int32) (l8 : Int32) (σ : PI), K43 (l1, l2, l3, l4, l5, l7, l8, σ) → J M X (QF M X (qI Q)) σ 43 [some (.ref (X.1 276)), some (.int l1), some (.int l2), some (.int l3), some (.int l4), some (.int l5), none, some (.int l7), some (.int l8)] [] := fun l1 l2 l3 l4 l5 l7 l8 σ q => hK _ q
  replace h : B_X5_who_43   K43 Q l1 l2 l3 l4 l5 l7 l8 σ := h
  show J M X (QF M X (qI Q)) σ 43 [some (.ref (X.1 276)), some (.int l1), some (.int l2), some (.int l3), some (.int l4), some (.int l5), none, some (.int l7), some (.int l8)] []
  unfold B_X5_who_43 at h
  refine J_iload cx dX5_who_43 rfl ?_
  refine J_iconst cx dX5_who_45 (by decide : _ = ((nI 5) : Int32)) ?_
  refine J_icmp_gt cx (tgt := 96) dX5_who_46 (by decide) (fun q8 => ?_) (fun q8 => ?_)
  · replace h := h.1 q8
    refine J_aload_n cx 0 dX5_who_96 rfl rfl ?_
    refine J_iload cx dX5_who_97 rfl ?_
    refine J_cV cx dX5_who_99 V_X5_69 (by decide) (by decide) rfl (ct_X5_well   _ _ _ h) rfl rfl (Nat.le_of_ble_eq_true rfl) (k_i (fun r10 τ9 h => ?_))
    exact J_iret cx dX5_who_102 h
  · replace h := h.2 q8
    refine J_aload_n cx 0 dX5_who_49 rfl rfl ?_
    refine J_getR cx (j := 280) dX5_who_50 F_X5_19 (by decide) rfl rfl rfl ?_
    refine J_bipush cx dX5_who_53 (by decide : _ = ((nI 16) : Int32)) ?_
    refine J_iload_n cx 1 dX5_who_55 rfl rfl ?_
    refine J_iadd cx dX5_who_56 ?_
    refine J_iload cx dX5_who_57 rfl ?_
    obtain ⟨s11, h⟩ := h
    refine J_iast cx dX5_who_59 (by decide) rfl s11 ?_
    refine J_nm (fun τ12 e_τ12 => ?_)
    replace h := h τ12 e_τ12
    refine J_iload cx dX5_who_60 rfl ?_
    refine J_aload_n cx 0 dX5_who_62 rfl rfl ?_
    refine J_iload_n cx 2 dX5_who_63 rfl rfl ?_
    refine J_bipush cx dX5_who_64 (by decide : _ = ((nI 40) : Int32)) ?_
    refine J_iload_n cx 3 dX5_who_66 rfl rfl ?_
    refine J_imul cx dX5_who_67 ?_
    refine J_iload cx dX5_who_68 rfl ?_
    refine J_iadd cx dX5_who_70 ?_
    refine J_iload cx dX5_who_71 rfl ?_
    refine J_cV cx dX5_who_73 V_X5_228 (by decide) (by decide) rfl (ct_X5_isSo   _ _ _ _ _ h) rfl rfl (Nat.le_of_ble_eq_true rfl) (k_i (fun r14 τ13 h => ?_))
    refine J_if_eq cx (tgt := 86) dX5_who_76 (by decide) (fun q15 => ?_) (fun q15 => ?_)
    · replace h := h.1 q15
      refine J_iconst cx dX5_who_86 (by decide : _ = ((nI 0) : Int32)) ?_
      refine J_fg 7 rfl ?_
      exact j_X5_who_87   K43 hK43 cx   _ _ _ _ _ _ _ _ _ h
    · replace h := h.2 q15
      refine J_iconst cx dX5_who_79 (by decide : _ = ((nI 1) : Int32)) ?_
      refine J_iload cx dX5_who_80 rfl ?_
      refine J_ishl cx dX5_who_82 ?_
      refine J_goto cx (tgt := 87) dX5_who_83 (by decide) ?_
      refine J_fg 7 rfl ?_
      exact j_X5_who_87   K43 hK43 cx   _ _ _ _ _ _ _ _ _ h
def w_X5_who_23 (Q : Int32 → PI → Prop) (l1 : Int32) (l2 : Int32) (l3 : Int32) (l4 : Int32) (l5 : Int32) (s0 : Int32) (σ : PI) : Prop := ((nI 0) ≤ s0 → wp_X5_putAside  σ (fun τ7 => (w_X5_who_43   Q l1 l2 l3 l4 l5 (nI 0) (nI 1) τ7))) ∧ (¬ (nI 0) ≤ s0 → Q s0 σ)
set_option maxRecDepth 100000 in
set_option maxHeartbeats 4000000 in
theorem j_X5_who_23 {M : MC} {X : XP} {Q : Int32 → PI → Prop} (cx : Cx M X RX5 cX5_who 9 (some .int) 6) (l1 : Int32) (l2 : Int32) (l3 : Int32) (l4 : Int32) (l5 : Int32) (s0 : Int32) (σ : PI) (h : w_X5_who_23   Q l1 l2 l3 l4 l5 s0 σ) : J M X (QF M X (qI Q)) σ 23 [some (.ref (X.1 276)), some (.int l1), some (.int l2), some (.int l3), some (.int l4), some (.int l5), none, none, none] [.int s0] := by
  unfold w_X5_who_23 at h
  refine J_istore cx dX5_who_23 (by decide) rfl rfl ?_
  refine J_iload cx dX5_who_25 rfl ?_
  refine J_if_ge cx (tgt := 33) dX5_who_27 (by decide) (fun q6 => ?_) (fun q6 => ?_)
  · replace h := h.1 q6
    refine J_aload_n cx 0 dX5_who_33 rfl rfl ?_
    refine J_cV cx dX5_who_34 V_X5_194 (by decide) (by decide) rfl (ct_X5_putAside    _ _ h) rfl rfl (Nat.le_of_ble_eq_true rfl) (k_v (fun τ7 h => ?_))
    refine J_iconst cx dX5_who_37 (by decide : _ = ((nI 0) : Int32)) ?_
    refine J_istore cx dX5_who_38 (by decide) rfl rfl ?_
    refine J_iconst cx dX5_who_40 (by decide : _ = ((nI 1) : Int32)) ?_
    refine J_istore cx dX5_who_41 (by decide) rfl rfl ?_
    refine J_fg 6 rfl ?_
    exact j_X5_who_43     cx   _ _ _ _ _ _ _ _ h
  · replace h := h.2 q6
    refine J_iload cx dX5_who_30 rfl ?_
    exact J_iret cx dX5_who_32 h
def wp_X5_who (a0 : Int32) (a1 : Int32) (a2 : Int32) (a3 : Int32) (a4 : Int32) (σ : PI) (Q : Int32 → PI → Prop) : Prop := wp_X5_isLeaver a0 σ (fun r2 τ1 => ((r2 = (nI 0) → w_X5_who_23   Q a0 a1 a2 a3 a4 (-1000001) τ1) ∧ (¬ r2 = (nI 0) → wp_X5_lacksAsk a1 a2 a3 a4 τ1 (fun r5 τ4 => (w_X5_who_23   Q a0 a1 a2 a3 a4 r5 τ4)))))
set_option maxRecDepth 100000 in
set_option maxHeartbeats 4000000 in
theorem ct_X5_who {l : Launch} {X : XP} (a0 : Int32) (a1 : Int32) (a2 : Int32) (a3 : Int32) (a4 : Int32) (σ : PI) (Q : Int32 → PI → Prop) (h : wp_X5_who  a0 a1 a2 a3 a4 σ Q) : Ct l yX5_who cX5_who 9 (some .int) 6 X [.ref (X.1 276), .int a0, .int a1, .int a2, .int a3, .int a4] σ (qI Q) := by
  refine Ct_of (L := [some (.ref (X.1 276)), some (.int a0), some (.int a1), some (.int a2), some (.int a3), some (.int a4), none, none, none]) (by decide) (Nat.le_of_ble_eq_true rfl) rfl (fun M hl cx => ?_)
  subst hl
  unfold wp_X5_who at h
  refine J_aload_n cx 0 dX5_who_0 rfl rfl ?_
  refine J_iload_n cx 1 dX5_who_1 rfl rfl ?_
  refine J_cV cx dX5_who_2 V_X5_180 (by decide) (by decide) rfl (ct_X5_isLeaver   _ _ _ h) rfl rfl (Nat.le_of_ble_eq_true rfl) (k_i (fun r2 τ1 h => ?_))
  refine J_if_eq cx (tgt := 21) dX5_who_5 (by decide) (fun q3 => ?_) (fun q3 => ?_)
  · replace h := h.1 q3
    refine J_ldc cx (v := (-1000001)) dX5_who_21 gw_742 ?_
    exact j_X5_who_23     cx   _ _ _ _ _ _ _ h
  · replace h := h.2 q3
    refine J_aload_n cx 0 dX5_who_8 rfl rfl ?_
    refine J_iload_n cx 2 dX5_who_9 rfl rfl ?_
    refine J_iload_n cx 3 dX5_who_10 rfl rfl ?_
    refine J_iload cx dX5_who_11 rfl ?_
    refine J_iload cx dX5_who_13 rfl ?_
    refine J_cV cx dX5_who_15 V_X5_224 (by decide) (by decide) rfl (ct_X5_lacksAsk   _ _ _ _ _ _ h) rfl rfl (Nat.le_of_ble_eq_true rfl) (k_i (fun r5 τ4 h => ?_))
    refine J_goto cx (tgt := 23) dX5_who_18 (by decide) ?_
    exact j_X5_who_23     cx   _ _ _ _ _ _ _ h
def w_X5_houses_88 (K43 : (Int32 × Int32 × Int32 × Int32 × Int32 × Int32 × Int32 × PI → Prop)) (Q : Int32 → PI → Prop) (l1 : Int32) (l2 : Int32) (l3 : Int32) (l4 : Int32) (l5 : Int32) (l8 : Int32) (s0 : Int32) (s1 : Int32) (σ : PI) : Prop := ∀ x15 : Int32, x15 = (s1 ||| s0) → (K43 (l1, l2, l3, l4, l5, x15, (l8 + (nI 1)), σ))
set_option maxRecDepth 100000 in
set_option maxHeartbeats 4000000 in
theorem j_X5_houses_88 {M : MC} {X : XP} {Q : Int32 → PI → Prop} (K43 : (Int32 × Int32 × Int32 × Int32 × Int32 × Int32 × Int32 × PI → Prop)) (hK43 : ∀ (l1 : Int32) (l2 : Int32) (l3 : Int32) (l4 : Int32) (l5 : Int32) (l7 : Int32) (l8 : Int32) (σ : PI), K43 (l1, l2, l3, l4, l5, l7, l8, σ) → J M X (QF M X (qI Q)) σ 43 [some (.ref (X.1 276)), some (.int l1), some (.int l2), some (.int l3), some (.int l4), some (.int l5), none, some (.int l7), some (.int l8)] []) (cx : Cx M X RX5 cX5_houses 9 (some .int) 6) (l1 : Int32) (l2 : Int32) (l3 : Int32) (l4 : Int32) (l5 : Int32) (l8 : Int32) (s0 : Int32) (s1 : Int32) (σ : PI) (h : w_X5_houses_88  K43 Q l1 l2 l3 l4 l5 l8 s0 s1 σ) : J M X (QF M X (qI Q)) σ 88 [some (.ref (X.1 276)), some (.int l1), some (.int l2), some (.int l3), some (.int l4), some (.int l5), none, none, some (.int l8)] [.int s0, .int s1] := by
  unfold w_X5_houses_88 at h
  refine J_ior cx dX5_houses_88 ?_
  refine J_topi (fun x15 e_x15 => ?_)
  replace h := h x15 e_x15
  refine J_istore cx dX5_houses_89 (by decide) rfl rfl ?_
  refine J_iinc cx dX5_houses_91 rfl (by decide : _ = ((nI 1) : Int32)) (by decide) rfl rfl ?_
  refine J_goto cx (tgt := 43) dX5_houses_94 (by decide) ?_
  exact hK43   _ _ _ _ _ _ _ _ h
def B_X5_houses_43 (K43 : (Int32 × Int32 × Int32 × Int32 × Int32 × Int32 × Int32 × PI → Prop)) (Q : Int32 → PI → Prop) (l1 : Int32) (l2 : Int32) (l3 : Int32) (l4 : Int32) (l5 : Int32) (l7 : Int32) (l8 : Int32) (σ : PI) : Prop := ((σ 280 2) ≤ l8 → wp_X5_well l7 σ (fun r10 τ9 => (Q r10 τ9))) ∧ (¬ (σ 280 2) ≤ l8 → wp_X5_sendTo l1 l8 σ (fun τ11 => (wp_X5_isSo l2 (((nI 40) * l3) + l4) l5 τ11 (fun r13 τ12 => ((r13 = (nI 0) → w_X5_houses_88  K43 Q l1 l2 l3 l4 l5 l8 (nI 0) l7 τ12) ∧ (¬ r13 = (nI 0) → w_X5_houses_88  K43 Q l1 l2 l3 l4 l5 l8 ((nI 1) <<< (l8 &&& 31)) l7 τ12))))))
def w_X5_houses_43 (Q : Int32 → PI → Prop) (l1 : Int32) (l2 : Int32) (l3 : Int32) (l4 : Int32) (l5 : Int32) (l7 : Int32) (l8 : Int32) (σ : PI) : Prop := ∃ n, Lp (fun K a => B_X5_houses_43   K Q a.1 a.2.1 a.2.2.1 a.2.2.2.1 a.2.2.2.2.1 a.2.2.2.2.2.1 a.2.2.2.2.2.2.1 a.2.2.2.2.2.2.2) n (l1, l2, l3, l4, l5, l7, l8, σ)
set_option maxRecDepth 100000 in
set_option maxHeartbeats 4000000 in
theorem j_X5_houses_43 {M : MC} {X : XP} {Q : Int32 → PI → Prop} (cx : Cx M X RX5 cX5_houses 9 (some .int) 6) (l1 : Int32) (l2 : Int32) (l3 : Int32) (l4 : Int32) (l5 : Int32) (l7 : Int32) (l8 : Int32) (σ : PI) (h : w_X5_houses_43   Q l1 l2 l3 l4 l5 l7 l8 σ) : J M X (QF M X (qI Q)) σ 43 [some (.ref (X.1 276)), some (.int l1), some (.int l2), some (.int l3), some (.int l4), some (.int l5), none, some (.int l7), some (.int l8)] [] := by
  refine Lp_J (P := fun (a : Int32 × Int32 × Int32 × Int32 × Int32 × Int32 × Int32 × PI) => J M X (QF M X (qI Q)) (a.2.2.2.2.2.2.2) 43 [some (.ref (X.1 276)), some (.int a.1), some (.int a.2.1), some (.int a.2.2.1), some (.int a.2.2.2.1), some (.int a.2.2.2.2.1), none, some (.int a.2.2.2.2.2.1), some (.int a.2.2.2.2.2.2.1)] []) (fun K43 hK a h => ?_) h
  obtain ⟨l1, l2, l3, l4, l5, l7, l8, σ⟩ := a
  have hK43 : ∀ (l1 : Int32) (l2 : Int32) (l3 : Int32) (l4 : Int32) (l5 : Int32) (l7 : Int32) (l8 : Int32) (σ : PI), K43 (l1, l2, l3, l4, l5, l7, l8, σ) → J M X (QF M X (qI Q)) σ 43 [some (.ref (X.1 276)), some (.int l1), some (.int l2), some (.int l3), some (.int l4), some (.int l5), none, some (.int l7), some (.int l8)] [] := fun l1 l2 l3 l4 l5 l7 l8 σ q => hK _ q
  replace h : B_X5_houses_43   K43 Q l1 l2 l3 l4 l5 l7 l8 σ := h
  show J M X (QF M X (qI Q)) σ 43 [some (.ref (X.1 276)), some (.int l1), some (.int l2), some (.int l3), some (.int l4), some (.int l5), none, some (.int l7), some (.int l8)] []
  unfold B_X5_houses_43 at h
  refine J_iload cx dX5_houses_43 rfl ?_
  refine J_aload_n cx 0 dX5_houses_45 rfl rfl ?_
  refine J_getR cx (j := 280) dX5_houses_46 F_X5_19 (by decide) rfl rfl rfl ?_
  refine J_iconst cx dX5_houses_49 (by decide : _ = ((nI 2) : Int32)) ?_
  refine J_iald cx dX5_houses_50 (by decide) rfl (vpl (by decide)) ?_
  refine J_icmp_ge cx (tgt := 97) dX5_houses_51 (by decide) (fun q8 => ?_) (fun q8 => ?_)
  · replace h := h.1 q8
    refine J_aload_n cx 0 dX5_houses_97 rfl rfl ?_
    refine J_iload cx dX5_houses_98 rfl ?_
    refine J_cV cx dX5_houses_100 V_X5_69 (by decide) (by decide) rfl (ct_X5_well   _ _ _ h) rfl rfl (Nat.le_of_ble_eq_true rfl) (k_i (fun r10 τ9 h => ?_))
    exact J_iret cx dX5_houses_103 h
  · replace h := h.2 q8
    refine J_aload_n cx 0 dX5_houses_54 rfl rfl ?_
    refine J_iload_n cx 1 dX5_houses_55 rfl rfl ?_
    refine J_iload cx dX5_houses_56 rfl ?_
    refine J_cV cx dX5_houses_58 V_X5_186 (by decide) (by decide) rfl (ct_X5_sendTo   _ _ _ _ h) rfl rfl (Nat.le_of_ble_eq_true rfl) (k_v (fun τ11 h => ?_))
    refine J_iload cx dX5_houses_61 rfl ?_
    refine J_aload_n cx 0 dX5_houses_63 rfl rfl ?_
    refine J_iload_n cx 2 dX5_houses_64 rfl rfl ?_
    refine J_bipush cx dX5_houses_65 (by decide : _ = ((nI 40) : Int32)) ?_
    refine J_iload_n cx 3 dX5_houses_67 rfl rfl ?_
    refine J_imul cx dX5_houses_68 ?_
    refine J_iload cx dX5_houses_69 rfl ?_
    refine J_iadd cx dX5_houses_71 ?_
    refine J_iload cx dX5_houses_72 rfl ?_
    refine J_cV cx dX5_houses_74 V_X5_228 (by decide) (by decide) rfl (ct_X5_isSo   _ _ _ _ _ h) rfl rfl (Nat.le_of_ble_eq_true rfl) (k_i (fun r13 τ12 h => ?_))
    refine J_if_eq cx (tgt := 87) dX5_houses_77 (by decide) (fun q14 => ?_) (fun q14 => ?_)
    · replace h := h.1 q14
      refine J_iconst cx dX5_houses_87 (by decide : _ = ((nI 0) : Int32)) ?_
      refine J_fg 7 rfl ?_
      exact j_X5_houses_88   K43 hK43 cx   _ _ _ _ _ _ _ _ _ h
    · replace h := h.2 q14
      refine J_iconst cx dX5_houses_80 (by decide : _ = ((nI 1) : Int32)) ?_
      refine J_iload cx dX5_houses_81 rfl ?_
      refine J_ishl cx dX5_houses_83 ?_
      refine J_goto cx (tgt := 88) dX5_houses_84 (by decide) ?_
      refine J_fg 7 rfl ?_
      exact j_X5_houses_88   K43 hK43 cx   _ _ _ _ _ _ _ _ _ h
def w_X5_houses_23 (Q : Int32 → PI → Prop) (l1 : Int32) (l2 : Int32) (l3 : Int32) (l4 : Int32) (l5 : Int32) (s0 : Int32) (σ : PI) : Prop := ((nI 0) ≤ s0 → wp_X5_putAside  σ (fun τ7 => (w_X5_houses_43   Q l1 l2 l3 l4 l5 (nI 0) (nI 0) τ7))) ∧ (¬ (nI 0) ≤ s0 → Q s0 σ)
set_option maxRecDepth 100000 in
set_option maxHeartbeats 4000000 in
theorem j_X5_houses_23 {M : MC} {X : XP} {Q : Int32 → PI → Prop} (cx : Cx M X RX5 cX5_houses 9 (some .int) 6) (l1 : Int32) (l2 : Int32) (l3 : Int32) (l4 : Int32) (l5 : Int32) (s0 : Int32) (σ : PI) (h : w_X5_houses_23   Q l1 l2 l3 l4 l5 s0 σ) : J M X (QF M X (qI Q)) σ 23 [some (.ref (X.1 276)), some (.int l1), some (.int l2), some (.int l3), some (.int l4), some (.int l5), none, none, none] [.int s0] := by
  unfold w_X5_houses_23 at h
  refine J_istore cx dX5_houses_23 (by decide) rfl rfl ?_
  refine J_iload cx dX5_houses_25 rfl ?_
  refine J_if_ge cx (tgt := 33) dX5_houses_27 (by decide) (fun q6 => ?_) (fun q6 => ?_)
  · replace h := h.1 q6
    refine J_aload_n cx 0 dX5_houses_33 rfl rfl ?_
    refine J_cV cx dX5_houses_34 V_X5_194 (by decide) (by decide) rfl (ct_X5_putAside    _ _ h) rfl rfl (Nat.le_of_ble_eq_true rfl) (k_v (fun τ7 h => ?_))
    refine J_iconst cx dX5_houses_37 (by decide : _ = ((nI 0) : Int32)) ?_
    refine J_istore cx dX5_houses_38 (by decide) rfl rfl ?_
    refine J_iconst cx dX5_houses_40 (by decide : _ = ((nI 0) : Int32)) ?_
    refine J_istore cx dX5_houses_41 (by decide) rfl rfl ?_
    refine J_fg 6 rfl ?_
    exact j_X5_houses_43     cx   _ _ _ _ _ _ _ _ h
  · replace h := h.2 q6
    refine J_iload cx dX5_houses_30 rfl ?_
    exact J_iret cx dX5_houses_32 h
def wp_X5_houses (a0 : Int32) (a1 : Int32) (a2 : Int32) (a3 : Int32) (a4 : Int32) (σ : PI) (Q : Int32 → PI → Prop) : Prop := wp_X5_isLeaver a0 σ (fun r2 τ1 => ((r2 = (nI 0) → w_X5_houses_23   Q a0 a1 a2 a3 a4 (-1000001) τ1) ∧ (¬ r2 = (nI 0) → wp_X5_lacksAsk a1 a2 a3 a4 τ1 (fun r5 τ4 => (w_X5_houses_23   Q a0 a1 a2 a3 a4 r5 τ4)))))
set_option maxRecDepth 100000 in
set_option maxHeartbeats 4000000 in
theorem ct_X5_houses {l : Launch} {X : XP} (a0 : Int32) (a1 : Int32) (a2 : Int32) (a3 : Int32) (a4 : Int32) (σ : PI) (Q : Int32 → PI → Prop) (h : wp_X5_houses  a0 a1 a2 a3 a4 σ Q) : Ct l yX5_houses cX5_houses 9 (some .int) 6 X [.ref (X.1 276), .int a0, .int a1, .int a2, .int a3, .int a4] σ (qI Q) := by
  refine Ct_of (L := [some (.ref (X.1 276)), some (.int a0), some (.int a1), some (.int a2), some (.int a3), some (.int a4), none, none, none]) (by decide) (Nat.le_of_ble_eq_true rfl) rfl (fun M hl cx => ?_)
  subst hl
  unfold wp_X5_houses at h
  refine J_aload_n cx 0 dX5_houses_0 rfl rfl ?_
  refine J_iload_n cx 1 dX5_houses_1 rfl rfl ?_
  refine J_cV cx dX5_houses_2 V_X5_180 (by decide) (by decide) rfl (ct_X5_isLeaver   _ _ _ h) rfl rfl (Nat.le_of_ble_eq_true rfl) (k_i (fun r2 τ1 h => ?_))
  refine J_if_eq cx (tgt := 21) dX5_houses_5 (by decide) (fun q3 => ?_) (fun q3 => ?_)
  · replace h := h.1 q3
    refine J_ldc cx (v := (-1000001)) dX5_houses_21 gw_742 ?_
    exact j_X5_houses_23     cx   _ _ _ _ _ _ _ h
  · replace h := h.2 q3
    refine J_aload_n cx 0 dX5_houses_8 rfl rfl ?_
    refine J_iload_n cx 2 dX5_houses_9 rfl rfl ?_
    refine J_iload_n cx 3 dX5_houses_10 rfl rfl ?_
    refine J_iload cx dX5_houses_11 rfl ?_
    refine J_iload cx dX5_houses_13 rfl ?_
    refine J_cV cx dX5_houses_15 V_X5_224 (by decide) (by decide) rfl (ct_X5_lacksAsk   _ _ _ _ _ _ h) rfl rfl (Nat.le_of_ble_eq_true rfl) (k_i (fun r5 τ4 h => ?_))
    refine J_goto cx (tgt := 23) dX5_houses_18 (by decide) ?_
    exact j_X5_houses_23     cx   _ _ _ _ _ _ _ h
def w_X5_weights_88 (K43 : (Int32 × Int32 × Int32 × Int32 × Int32 × Int32 × Int32 × PI → Prop)) (Q : Int32 → PI → Prop) (l1 : Int32) (l2 : Int32) (l3 : Int32) (l4 : Int32) (l5 : Int32) (l8 : Int32) (s0 : Int32) (s1 : Int32) (σ : PI) : Prop := ∀ x16 : Int32, x16 = (s1 ||| s0) → (K43 (l1, l2, l3, l4, l5, x16, (l8 + (nI 1)), σ))
set_option maxRecDepth 100000 in
set_option maxHeartbeats 4000000 in
theorem j_X5_weights_88 {M : MC} {X : XP} {Q : Int32 → PI → Prop} (K43 : (Int32 × Int32 × Int32 × Int32 × Int32 × Int32 × Int32 × PI → Prop)) (hK43 : ∀ (l1 : Int32) (l2 : Int32) (l3 : Int32) (l4 : Int32) (l5 : Int32) (l7 : Int32) (l8 : Int32) (σ : PI), K43 (l1, l2, l3, l4, l5, l7, l8, σ) → J M X (QF M X (qI Q)) σ 43 [some (.ref (X.1 276)), some (.int l1), some (.int l2), some (.int l3), some (.int l4), some (.int l5), none, some (.int l7), some (.int l8)] []) (cx : Cx M X RX5 cX5_weights 9 (some .int) 6) (l1 : Int32) (l2 : Int32) (l3 : Int32) (l4 : Int32) (l5 : Int32) (l8 : Int32) (s0 : Int32) (s1 : Int32) (σ : PI) (h : w_X5_weights_88  K43 Q l1 l2 l3 l4 l5 l8 s0 s1 σ) : J M X (QF M X (qI Q)) σ 88 [some (.ref (X.1 276)), some (.int l1), some (.int l2), some (.int l3), some (.int l4), some (.int l5), none, none, some (.int l8)] [.int s0, .int s1] := by
  unfold w_X5_weights_88 at h
  refine J_ior cx dX5_weights_88 ?_
  refine J_topi (fun x16 e_x16 => ?_)
  replace h := h x16 e_x16
  refine J_istore cx dX5_weights_89 (by decide) rfl rfl ?_
  refine J_iinc cx dX5_weights_91 rfl (by decide : _ = ((nI 1) : Int32)) (by decide) rfl rfl ?_
  refine J_goto cx (tgt := 43) dX5_weights_94 (by decide) ?_
  exact hK43   _ _ _ _ _ _ _ _ h
def B_X5_weights_43 (K43 : (Int32 × Int32 × Int32 × Int32 × Int32 × Int32 × Int32 × PI → Prop)) (Q : Int32 → PI → Prop) (l1 : Int32) (l2 : Int32) (l3 : Int32) (l4 : Int32) (l5 : Int32) (l7 : Int32) (l8 : Int32) (σ : PI) : Prop := ((nI 10) ≤ l8 → wp_X5_well l7 σ (fun r10 τ9 => (Q r10 τ9))) ∧ (¬ (nI 10) ≤ l8 → vp_in ((nI 28) + l1) 70 ∧ (∀ τ12 : PI, τ12 = up σ 280 (((nI 28) + l1) : Int32).toNatClampNeg l8 → (wp_X5_isSo l2 (((nI 40) * l3) + l4) l5 τ12 (fun r14 τ13 => ((r14 = (nI 0) → w_X5_weights_88  K43 Q l1 l2 l3 l4 l5 l8 (nI 0) l7 τ13) ∧ (¬ r14 = (nI 0) → w_X5_weights_88  K43 Q l1 l2 l3 l4 l5 l8 ((nI 1) <<< (l8 &&& 31)) l7 τ13))))))
def w_X5_weights_43 (Q : Int32 → PI → Prop) (l1 : Int32) (l2 : Int32) (l3 : Int32) (l4 : Int32) (l5 : Int32) (l7 : Int32) (l8 : Int32) (σ : PI) : Prop := ∃ n, Lp (fun K a => B_X5_weights_43   K Q a.1 a.2.1 a.2.2.1 a.2.2.2.1 a.2.2.2.2.1 a.2.2.2.2.2.1 a.2.2.2.2.2.2.1 a.2.2.2.2.2.2.2) n (l1, l2, l3, l4, l5, l7, l8, σ)
set_option maxRecDepth 100000 in
set_option maxHeartbeats 4000000 in
theorem j_X5_weights_43 {M : MC} {X : XP} {Q : Int32 → PI → Prop} (cx : Cx M X RX5 cX5_weights 9 (some .int) 6) (l1 : Int32) (l2 : Int32) (l3 : Int32) (l4 : Int32) (l5 : Int32) (l7 : Int32) (l8 : Int32) (σ : PI) (h : w_X5_weights_43   Q l1 l2 l3 l4 l5 l7 l8 σ) : J M X (QF M X (qI Q)) σ 43 [some (.ref (X.1 276)), some (.int l1), some (.int l2), some (.int l3), some (.int l4), some (.int l5), none, some (.int l7), some (.int l8)] [] := by
  refine Lp_J (P := fun (a : Int32 × Int32 × Int32 × Int32 × Int32 × Int32 × Int32 × PI) => J M X (QF M X (qI Q)) (a.2.2.2.2.2.2.2) 43 [some (.ref (X.1 276)), some (.int a.1), some (.int a.2.1), some (.int a.2.2.1), some (.int a.2.2.2.1), some (.int a.2.2.2.2.1), none, some (.int a.2.2.2.2.2.1), some (.int a.2.2.2.2.2.2.1)] []) (fun K43 hK a h => ?_) h
  obtain ⟨l1, l2, l3, l4, l5, l7, l8, σ⟩ := a
  have hK43 : ∀ (l1 : Int32) (l2 : Int32) (l3 : Int32) (l4 : Int32) (l5 : Int32) (l7 : Int32) (l8 : Int32) (σ : PI), K43 (l1, l2, l3, l4, l5, l7, l8, σ) → J M X (QF M X (qI Q)) σ 43 [some (.ref (X.1 276)), some (.int l1), some (.int l2), some (.int l3), some (.int l4), some (.int l5), none, some (.int l7), some (.int l8)] [] := fun l1 l2 l3 l4 l5 l7 l8 σ q => hK _ q
  replace h : B_X5_weights_43   K43 Q l1 l2 l3 l4 l5 l7 l8 σ := h
  show J M X (QF M X (qI Q)) σ 43 [some (.ref (X.1 276)), some (.int l1), some (.int l2), some (.int l3), some (.int l4), some (.int l5), none, some (.int l7), some (.int l8)] []
  unfold B_X5_weights_43 at h
  refine J_iload cx dX5_weights_43 rfl ?_
  refine J_bipush cx dX5_weights_45 (by decide : _ = ((nI 10) : Int32)) ?_
  refine J_icmp_ge cx (tgt := 97) dX5_weights_47 (by decide) (fun q8 => ?_) (fun q8 => ?_)
  · replace h := h.1 q8
    refine J_aload_n cx 0 dX5_weights_97 rfl rfl ?_
    refine J_iload cx dX5_weights_98 rfl ?_
    refine J_cV cx dX5_weights_100 V_X5_69 (by decide) (by decide) rfl (ct_X5_well   _ _ _ h) rfl rfl (Nat.le_of_ble_eq_true rfl) (k_i (fun r10 τ9 h => ?_))
    exact J_iret cx dX5_weights_103 h
  · replace h := h.2 q8
    refine J_aload_n cx 0 dX5_weights_50 rfl rfl ?_
    refine J_getR cx (j := 280) dX5_weights_51 F_X5_19 (by decide) rfl rfl rfl ?_
    refine J_bipush cx dX5_weights_54 (by decide : _ = ((nI 28) : Int32)) ?_
    refine J_iload_n cx 1 dX5_weights_56 rfl rfl ?_
    refine J_iadd cx dX5_weights_57 ?_
    refine J_iload cx dX5_weights_58 rfl ?_
    obtain ⟨s11, h⟩ := h
    refine J_iast cx dX5_weights_60 (by decide) rfl s11 ?_
    refine J_nm (fun τ12 e_τ12 => ?_)
    replace h := h τ12 e_τ12
    refine J_iload cx dX5_weights_61 rfl ?_
    refine J_aload_n cx 0 dX5_weights_63 rfl rfl ?_
    refine J_iload_n cx 2 dX5_weights_64 rfl rfl ?_
    refine J_bipush cx dX5_weights_65 (by decide : _ = ((nI 40) : Int32)) ?_
    refine J_iload_n cx 3 dX5_weights_67 rfl rfl ?_
    refine J_imul cx dX5_weights_68 ?_
    refine J_iload cx dX5_weights_69 rfl ?_
    refine J_iadd cx dX5_weights_71 ?_
    refine J_iload cx dX5_weights_72 rfl ?_
    refine J_cV cx dX5_weights_74 V_X5_228 (by decide) (by decide) rfl (ct_X5_isSo   _ _ _ _ _ h) rfl rfl (Nat.le_of_ble_eq_true rfl) (k_i (fun r14 τ13 h => ?_))
    refine J_if_eq cx (tgt := 87) dX5_weights_77 (by decide) (fun q15 => ?_) (fun q15 => ?_)
    · replace h := h.1 q15
      refine J_iconst cx dX5_weights_87 (by decide : _ = ((nI 0) : Int32)) ?_
      refine J_fg 7 rfl ?_
      exact j_X5_weights_88   K43 hK43 cx   _ _ _ _ _ _ _ _ _ h
    · replace h := h.2 q15
      refine J_iconst cx dX5_weights_80 (by decide : _ = ((nI 1) : Int32)) ?_
      refine J_iload cx dX5_weights_81 rfl ?_
      refine J_ishl cx dX5_weights_83 ?_
      refine J_goto cx (tgt := 88) dX5_weights_84 (by decide) ?_
      refine J_fg 7 rfl ?_
      exact j_X5_weights_88   K43 hK43 cx   _ _ _ _ _ _ _ _ _ h
def w_X5_weights_23 (Q : Int32 → PI → Prop) (l1 : Int32) (l2 : Int32) (l3 : Int32) (l4 : Int32) (l5 : Int32) (s0 : Int32) (σ : PI) : Prop := ((nI 0) ≤ s0 → wp_X5_putAside  σ (fun τ7 => (w_X5_weights_43   Q l1 l2 l3 l4 l5 (nI 0) (nI 1) τ7))) ∧ (¬ (nI 0) ≤ s0 → Q s0 σ)
set_option maxRecDepth 100000 in
set_option maxHeartbeats 4000000 in
theorem j_X5_weights_23 {M : MC} {X : XP} {Q : Int32 → PI → Prop} (cx : Cx M X RX5 cX5_weights 9 (some .int) 6) (l1 : Int32) (l2 : Int32) (l3 : Int32) (l4 : Int32) (l5 : Int32) (s0 : Int32) (σ : PI) (h : w_X5_weights_23   Q l1 l2 l3 l4 l5 s0 σ) : J M X (QF M X (qI Q)) σ 23 [some (.ref (X.1 276)), some (.int l1), some (.int l2), some (.int l3), some (.int l4), some (.int l5), none, none, none] [.int s0] := by
  unfold w_X5_weights_23 at h
  refine J_istore cx dX5_weights_23 (by decide) rfl rfl ?_
  refine J_iload cx dX5_weights_25 rfl ?_
  refine J_if_ge cx (tgt := 33) dX5_weights_27 (by decide) (fun q6 => ?_) (fun q6 => ?_)
  · replace h := h.1 q6
    refine J_aload_n cx 0 dX5_weights_33 rfl rfl ?_
    refine J_cV cx dX5_weights_34 V_X5_194 (by decide) (by decide) rfl (ct_X5_putAside    _ _ h) rfl rfl (Nat.le_of_ble_eq_true rfl) (k_v (fun τ7 h => ?_))
    refine J_iconst cx dX5_weights_37 (by decide : _ = ((nI 0) : Int32)) ?_
    refine J_istore cx dX5_weights_38 (by decide) rfl rfl ?_
    refine J_iconst cx dX5_weights_40 (by decide : _ = ((nI 1) : Int32)) ?_
    refine J_istore cx dX5_weights_41 (by decide) rfl rfl ?_
    refine J_fg 6 rfl ?_
    exact j_X5_weights_43     cx   _ _ _ _ _ _ _ _ h
  · replace h := h.2 q6
    refine J_iload cx dX5_weights_30 rfl ?_
    exact J_iret cx dX5_weights_32 h
def wp_X5_weights (a0 : Int32) (a1 : Int32) (a2 : Int32) (a3 : Int32) (a4 : Int32) (σ : PI) (Q : Int32 → PI → Prop) : Prop := wp_X5_isLeaver a0 σ (fun r2 τ1 => ((r2 = (nI 0) → w_X5_weights_23   Q a0 a1 a2 a3 a4 (-1000001) τ1) ∧ (¬ r2 = (nI 0) → wp_X5_lacksAsk a1 a2 a3 a4 τ1 (fun r5 τ4 => (w_X5_weights_23   Q a0 a1 a2 a3 a4 r5 τ4)))))
set_option maxRecDepth 100000 in
set_option maxHeartbeats 4000000 in
theorem ct_X5_weights {l : Launch} {X : XP} (a0 : Int32) (a1 : Int32) (a2 : Int32) (a3 : Int32) (a4 : Int32) (σ : PI) (Q : Int32 → PI → Prop) (h : wp_X5_weights  a0 a1 a2 a3 a4 σ Q) : Ct l yX5_weights cX5_weights 9 (some .int) 6 X [.ref (X.1 276), .int a0, .int a1, .int a2, .int a3, .int a4] σ (qI Q) := by
  refine Ct_of (L := [some (.ref (X.1 276)), some (.int a0), some (.int a1), some (.int a2), some (.int a3), some (.int a4), none, none, none]) (by decide) (Nat.le_of_ble_eq_true rfl) rfl (fun M hl cx => ?_)
  subst hl
  unfold wp_X5_weights at h
  refine J_aload_n cx 0 dX5_weights_0 rfl rfl ?_
  refine J_iload_n cx 1 dX5_weights_1 rfl rfl ?_
  refine J_cV cx dX5_weights_2 V_X5_180 (by decide) (by decide) rfl (ct_X5_isLeaver   _ _ _ h) rfl rfl (Nat.le_of_ble_eq_true rfl) (k_i (fun r2 τ1 h => ?_))
  refine J_if_eq cx (tgt := 21) dX5_weights_5 (by decide) (fun q3 => ?_) (fun q3 => ?_)
  · replace h := h.1 q3
    refine J_ldc cx (v := (-1000001)) dX5_weights_21 gw_742 ?_
    exact j_X5_weights_23     cx   _ _ _ _ _ _ _ h
  · replace h := h.2 q3
    refine J_aload_n cx 0 dX5_weights_8 rfl rfl ?_
    refine J_iload_n cx 2 dX5_weights_9 rfl rfl ?_
    refine J_iload_n cx 3 dX5_weights_10 rfl rfl ?_
    refine J_iload cx dX5_weights_11 rfl ?_
    refine J_iload cx dX5_weights_13 rfl ?_
    refine J_cV cx dX5_weights_15 V_X5_224 (by decide) (by decide) rfl (ct_X5_lacksAsk   _ _ _ _ _ _ h) rfl rfl (Nat.le_of_ble_eq_true rfl) (k_i (fun r5 τ4 h => ?_))
    refine J_goto cx (tgt := 23) dX5_weights_18 (by decide) ?_
    exact j_X5_weights_23     cx   _ _ _ _ _ _ _ h
def w_X5_absent_95 (K50 : (Int32 × Int32 × Int32 × Int32 × Int32 × Int32 × PI → Prop)) (Q : Int32 → PI → Prop) (l1 : Int32) (l2 : Int32) (l3 : Int32) (l4 : Int32) (l7 : Int32) (s0 : Int32) (s1 : Int32) (σ : PI) : Prop := ∀ x16 : Int32, x16 = (s1 ||| s0) → (K50 (l1, l2, l3, l4, x16, (l7 + (nI 1)), σ))
set_option maxRecDepth 100000 in
set_option maxHeartbeats 4000000 in
theorem j_X5_absent_95 {M : MC} {X : XP} {Q : Int32 → PI → Prop} (K50 : (Int32 × Int32 × Int32 × Int32 × Int32 × Int32 × PI → Prop)) (hK50 : ∀ (l1 : Int32) (l2 : Int32) (l3 : Int32) (l4 : Int32) (l6 : Int32) (l7 : Int32) (σ : PI), K50 (l1, l2, l3, l4, l6, l7, σ) → J M X (QF M X (qI Q)) σ 50 [some (.ref (X.1 276)), some (.int l1), some (.int l2), some (.int l3), some (.int l4), none, some (.int l6), some (.int l7)] []) (cx : Cx M X RX5 cX5_absent 8 (some .int) 6) (l1 : Int32) (l2 : Int32) (l3 : Int32) (l4 : Int32) (l7 : Int32) (s0 : Int32) (s1 : Int32) (σ : PI) (h : w_X5_absent_95  K50 Q l1 l2 l3 l4 l7 s0 s1 σ) : J M X (QF M X (qI Q)) σ 95 [some (.ref (X.1 276)), some (.int l1), some (.int l2), some (.int l3), some (.int l4), none, none, some (.int l7)] [.int s0, .int s1] := by
  unfold w_X5_absent_95 at h
  refine J_ior cx dX5_absent_95 ?_
  refine J_topi (fun x16 e_x16 => ?_)
  replace h := h x16 e_x16
  refine J_istore cx dX5_absent_96 (by decide) rfl rfl ?_
  refine J_iinc cx dX5_absent_98 rfl (by decide : _ = ((nI 1) : Int32)) (by decide) rfl rfl ?_
  refine J_goto cx (tgt := 50) dX5_absent_101 (by decide) ?_
  exact hK50   _ _ _ _ _ _ _ h
def B_X5_absent_50 (K50 : (Int32 × Int32 × Int32 × Int32 × Int32 × Int32 × PI → Prop)) (Q : Int32 → PI → Prop) (l1 : Int32) (l2 : Int32) (l3 : Int32) (l4 : Int32) (l6 : Int32) (l7 : Int32) (σ : PI) : Prop := ((σ 280 3) ≤ l7 → ∀ τ9 : PI, τ9 = up σ 276 6 (nI 0) → (wp_X5_well l6 τ9 (fun r11 τ10 => (Q r11 τ10)))) ∧ (¬ (σ 280 3) ≤ l7 → ∀ τ12 : PI, τ12 = up σ 276 6 ((nI 1) <<< (l7 &&& 31)) → (wp_X5_isSo l1 (((nI 40) * l2) + l3) l4 τ12 (fun r14 τ13 => ((r14 = (nI 0) → w_X5_absent_95  K50 Q l1 l2 l3 l4 l7 (nI 0) l6 τ13) ∧ (¬ r14 = (nI 0) → w_X5_absent_95  K50 Q l1 l2 l3 l4 l7 ((nI 1) <<< (l7 &&& 31)) l6 τ13)))))
def w_X5_absent_50 (Q : Int32 → PI → Prop) (l1 : Int32) (l2 : Int32) (l3 : Int32) (l4 : Int32) (l6 : Int32) (l7 : Int32) (σ : PI) : Prop := ∃ n, Lp (fun K a => B_X5_absent_50   K Q a.1 a.2.1 a.2.2.1 a.2.2.2.1 a.2.2.2.2.1 a.2.2.2.2.2.1 a.2.2.2.2.2.2) n (l1, l2, l3, l4, l6, l7, σ)
set_option maxRecDepth 100000 in
set_option maxHeartbeats 4000000 in
theorem j_X5_absent_50 {M : MC} {X : XP} {Q : Int32 → PI → Prop} (cx : Cx M X RX5 cX5_absent 8 (some .int) 6) (l1 : Int32) (l2 : Int32) (l3 : Int32) (l4 : Int32) (l6 : Int32) (l7 : Int32) (σ : PI) (h : w_X5_absent_50   Q l1 l2 l3 l4 l6 l7 σ) : J M X (QF M X (qI Q)) σ 50 [some (.ref (X.1 276)), some (.int l1), some (.int l2), some (.int l3), some (.int l4), none, some (.int l6), some (.int l7)] [] := by
  refine Lp_J (P := fun (a : Int32 × Int32 × Int32 × Int32 × Int32 × Int32 × PI) => J M X (QF M X (qI Q)) (a.2.2.2.2.2.2) 50 [some (.ref (X.1 276)), some (.int a.1), some (.int a.2.1), some (.int a.2.2.1), some (.int a.2.2.2.1), none, some (.int a.2.2.2.2.1), some (.int a.2.2.2.2.2.1)] []) (fun K50 hK a h => ?_) h
  obtain ⟨l1, l2, l3, l4, l6, l7, σ⟩ := a
  have hK50 : ∀ (l1 : Int32) (l2 : Int32) (l3 : Int32) (l4 : Int32) (l6 : Int32) (l7 : Int32) (σ : PI), K50 (l1, l2, l3, l4, l6, l7, σ) → J M X (QF M X (qI Q)) σ 50 [some (.ref (X.1 276)), some (.int l1), some (.int l2), some (.int l3), some (.int l4), none, some (.int l6), some (.int l7)] [] := fun l1 l2 l3 l4 l6 l7 σ q => hK _ q
  replace h : B_X5_absent_50   K50 Q l1 l2 l3 l4 l6 l7 σ := h
  show J M X (QF M X (qI Q)) σ 50 [some (.ref (X.1 276)), some (.int l1), some (.int l2), some (.int l3), some (.int l4), none, some (.int l6), some (.int l7)] []
  unfold B_X5_absent_50 at h
  refine J_iload cx dX5_absent_50 rfl ?_
  refine J_aload_n cx 0 dX5_absent_52 rfl rfl ?_
  refine J_getR cx (j := 280) dX5_absent_53 F_X5_19 (by decide) rfl rfl rfl ?_
  refine J_iconst cx dX5_absent_56 (by decide : _ = ((nI 3) : Int32)) ?_
  refine J_iald cx dX5_absent_57 (by decide) rfl (vpl (by decide)) ?_
  refine J_icmp_ge cx (tgt := 104) dX5_absent_58 (by decide) (fun q8 => ?_) (fun q8 => ?_)
  · replace h := h.1 q8
    refine J_aload_n cx 0 dX5_absent_104 rfl rfl ?_
    refine J_iconst cx dX5_absent_105 (by decide : _ = ((nI 0) : Int32)) ?_
    refine J_putI cx dX5_absent_106 (P_X5_148 _) (by decide) rfl rfl ?_
    refine J_nm (fun τ9 e_τ9 => ?_)
    replace h := h τ9 e_τ9
    refine J_aload_n cx 0 dX5_absent_109 rfl rfl ?_
    refine J_iload cx dX5_absent_110 rfl ?_
    refine J_cV cx dX5_absent_112 V_X5_69 (by decide) (by decide) rfl (ct_X5_well   _ _ _ h) rfl rfl (Nat.le_of_ble_eq_true rfl) (k_i (fun r11 τ10 h => ?_))
    exact J_iret cx dX5_absent_115 h
  · replace h := h.2 q8
    refine J_aload_n cx 0 dX5_absent_61 rfl rfl ?_
    refine J_iconst cx dX5_absent_62 (by decide : _ = ((nI 1) : Int32)) ?_
    refine J_iload cx dX5_absent_63 rfl ?_
    refine J_ishl cx dX5_absent_65 ?_
    refine J_putI cx dX5_absent_66 (P_X5_148 _) (by decide) rfl rfl ?_
    refine J_nm (fun τ12 e_τ12 => ?_)
    replace h := h τ12 e_τ12
    refine J_iload cx dX5_absent_69 rfl ?_
    refine J_aload_n cx 0 dX5_absent_71 rfl rfl ?_
    refine J_iload_n cx 1 dX5_absent_72 rfl rfl ?_
    refine J_bipush cx dX5_absent_73 (by decide : _ = ((nI 40) : Int32)) ?_
    refine J_iload_n cx 2 dX5_absent_75 rfl rfl ?_
    refine J_imul cx dX5_absent_76 ?_
    refine J_iload_n cx 3 dX5_absent_77 rfl rfl ?_
    refine J_iadd cx dX5_absent_78 ?_
    refine J_iload cx dX5_absent_79 rfl ?_
    refine J_cV cx dX5_absent_81 V_X5_228 (by decide) (by decide) rfl (ct_X5_isSo   _ _ _ _ _ h) rfl rfl (Nat.le_of_ble_eq_true rfl) (k_i (fun r14 τ13 h => ?_))
    refine J_if_eq cx (tgt := 94) dX5_absent_84 (by decide) (fun q15 => ?_) (fun q15 => ?_)
    · replace h := h.1 q15
      refine J_iconst cx dX5_absent_94 (by decide : _ = ((nI 0) : Int32)) ?_
      refine J_fg 6 rfl ?_
      exact j_X5_absent_95   K50 hK50 cx   _ _ _ _ _ _ _ _ h
    · replace h := h.2 q15
      refine J_iconst cx dX5_absent_87 (by decide : _ = ((nI 1) : Int32)) ?_
      refine J_iload cx dX5_absent_88 rfl ?_
      refine J_ishl cx dX5_absent_90 ?_
      refine J_goto cx (tgt := 95) dX5_absent_91 (by decide) ?_
      refine J_fg 6 rfl ?_
      exact j_X5_absent_95   K50 hK50 cx   _ _ _ _ _ _ _ _ h
def w_X5_absent_45 (Q : Int32 → PI → Prop) (l1 : Int32) (l2 : Int32) (l3 : Int32) (l4 : Int32) (s0 : Int32) (σ : PI) : Prop := w_X5_absent_50   Q l1 l2 l3 l4 s0 (nI 0) σ
set_option maxRecDepth 100000 in
set_option maxHeartbeats 4000000 in
theorem j_X5_absent_45 {M : MC} {X : XP} {Q : Int32 → PI → Prop} (cx : Cx M X RX5 cX5_absent 8 (some .int) 6) (l1 : Int32) (l2 : Int32) (l3 : Int32) (l4 : Int32) (s0 : Int32) (σ : PI) (h : w_X5_absent_45   Q l1 l2 l3 l4 s0 σ) : J M X (QF M X (qI Q)) σ 45 [some (.ref (X.1 276)), some (.int l1), some (.int l2), some (.int l3), some (.int l4), none, none, none] [.int s0] := by
  unfold w_X5_absent_45 at h
  refine J_istore cx dX5_absent_45 (by decide) rfl rfl ?_
  refine J_iconst cx dX5_absent_47 (by decide : _ = ((nI 0) : Int32)) ?_
  refine J_istore cx dX5_absent_48 (by decide) rfl rfl ?_
  exact j_X5_absent_50     cx   _ _ _ _ _ _ _ h
def wp_X5_absent (a0 : Int32) (a1 : Int32) (a2 : Int32) (a3 : Int32) (σ : PI) (Q : Int32 → PI → Prop) : Prop := wp_X5_lacksAsk a0 a1 a2 a3 σ (fun r2 τ1 => (((nI 0) ≤ r2 → wp_X5_putAside  τ1 (fun τ4 => (wp_X5_isSo a0 (((nI 40) * a1) + a2) a3 τ4 (fun r6 τ5 => ((r6 = (nI 0) → w_X5_absent_45   Q a0 a1 a2 a3 (nI 0) τ5) ∧ (¬ r6 = (nI 0) → w_X5_absent_45   Q a0 a1 a2 a3 (nI 64) τ5)))))) ∧ (¬ (nI 0) ≤ r2 → Q r2 τ1)))
set_option maxRecDepth 100000 in
set_option maxHeartbeats 4000000 in
theorem ct_X5_absent {l : Launch} {X : XP} (a0 : Int32) (a1 : Int32) (a2 : Int32) (a3 : Int32) (σ : PI) (Q : Int32 → PI → Prop) (h : wp_X5_absent  a0 a1 a2 a3 σ Q) : Ct l yX5_absent cX5_absent 8 (some .int) 6 X [.ref (X.1 276), .int a0, .int a1, .int a2, .int a3] σ (qI Q) := by
  refine Ct_of (L := [some (.ref (X.1 276)), some (.int a0), some (.int a1), some (.int a2), some (.int a3), none, none, none]) (by decide) (Nat.le_of_ble_eq_true rfl) rfl (fun M hl cx => ?_)
  subst hl
  unfold wp_X5_absent at h
  refine J_aload_n cx 0 dX5_absent_0 rfl rfl ?_
  refine J_iload_n cx 1 dX5_absent_1 rfl rfl ?_
  refine J_iload_n cx 2 dX5_absent_2 rfl rfl ?_
  refine J_iload_n cx 3 dX5_absent_3 rfl rfl ?_
  refine J_iload cx dX5_absent_4 rfl ?_
  refine J_cV cx dX5_absent_6 V_X5_224 (by decide) (by decide) rfl (ct_X5_lacksAsk   _ _ _ _ _ _ h) rfl rfl (Nat.le_of_ble_eq_true rfl) (k_i (fun r2 τ1 h => ?_))
  refine J_istore cx dX5_absent_9 (by decide) rfl rfl ?_
  refine J_iload cx dX5_absent_11 rfl ?_
  refine J_if_ge cx (tgt := 19) dX5_absent_13 (by decide) (fun q3 => ?_) (fun q3 => ?_)
  · replace h := h.1 q3
    refine J_aload_n cx 0 dX5_absent_19 rfl rfl ?_
    refine J_cV cx dX5_absent_20 V_X5_194 (by decide) (by decide) rfl (ct_X5_putAside    _ _ h) rfl rfl (Nat.le_of_ble_eq_true rfl) (k_v (fun τ4 h => ?_))
    refine J_aload_n cx 0 dX5_absent_23 rfl rfl ?_
    refine J_iload_n cx 1 dX5_absent_24 rfl rfl ?_
    refine J_bipush cx dX5_absent_25 (by decide : _ = ((nI 40) : Int32)) ?_
    refine J_iload_n cx 2 dX5_absent_27 rfl rfl ?_
    refine J_imul cx dX5_absent_28 ?_
    refine J_iload_n cx 3 dX5_absent_29 rfl rfl ?_
    refine J_iadd cx dX5_absent_30 ?_
    refine J_iload cx dX5_absent_31 rfl ?_
    refine J_cV cx dX5_absent_33 V_X5_228 (by decide) (by decide) rfl (ct_X5_isSo   _ _ _ _ _ h) rfl rfl (Nat.le_of_ble_eq_true rfl) (k_i (fun r6 τ5 h => ?_))
    refine J_if_eq cx (tgt := 44) dX5_absent_36 (by decide) (fun q7 => ?_) (fun q7 => ?_)
    · replace h := h.1 q7
      refine J_iconst cx dX5_absent_44 (by decide : _ = ((nI 0) : Int32)) ?_
      refine J_fg 5 rfl ?_
      exact j_X5_absent_45     cx   _ _ _ _ _ _ h
    · replace h := h.2 q7
      refine J_bipush cx dX5_absent_39 (by decide : _ = ((nI 64) : Int32)) ?_
      refine J_goto cx (tgt := 45) dX5_absent_41 (by decide) ?_
      refine J_fg 5 rfl ?_
      exact j_X5_absent_45     cx   _ _ _ _ _ _ h
  · replace h := h.2 q3
    refine J_iload cx dX5_absent_16 rfl ?_
    exact J_iret cx dX5_absent_18 h
def wp_X5_isFree (a0 : Int32) (σ : PI) (Q : Int32 → PI → Prop) : Prop := wp_X5_has (σ 280 5) a0 σ (fun r2 τ1 => ((¬ r2 = (nI 0) → Q (nI 0) τ1) ∧ (r2 = (nI 0) → wp_X5_awayFrom a0 τ1 (fun r5 τ4 => ((¬ r5 = (nI 0) → Q (nI 0) τ4) ∧ (r5 = (nI 0) → Q (nI 1) τ4))))))
set_option maxRecDepth 100000 in
set_option maxHeartbeats 4000000 in
theorem ct_X5_isFree {l : Launch} {X : XP} (a0 : Int32) (σ : PI) (Q : Int32 → PI → Prop) (h : wp_X5_isFree  a0 σ Q) : Ct l yX5_isFree cX5_isFree 2 (some .boolean) 2 X [.ref (X.1 276), .int a0] σ (qI Q) := by
  refine Ct_of (L := [some (.ref (X.1 276)), some (.int a0)]) (by decide) (Nat.le_of_ble_eq_true rfl) rfl (fun M hl cx => ?_)
  subst hl
  unfold wp_X5_isFree at h
  refine J_aload_n cx 0 dX5_isFree_0 rfl rfl ?_
  refine J_getR cx (j := 280) dX5_isFree_1 F_X5_19 (by decide) rfl rfl rfl ?_
  refine J_iconst cx dX5_isFree_4 (by decide : _ = ((nI 5) : Int32)) ?_
  refine J_iald cx dX5_isFree_5 (by decide) rfl (vpl (by decide)) ?_
  refine J_iload_n cx 1 dX5_isFree_6 rfl rfl ?_
  refine J_cS cx dX5_isFree_7 S_X5_151 (by decide) (ct_X5_has   _ _ _ _ h) rfl rfl (Nat.le_of_ble_eq_true rfl) (k_i (fun r2 τ1 h => ?_))
  refine J_if_ne cx (tgt := 25) dX5_isFree_10 (by decide) (fun q3 => ?_) (fun q3 => ?_)
  · replace h := h.1 q3
    refine J_iconst cx dX5_isFree_25 (by decide : _ = ((nI 0) : Int32)) ?_
    exact J_zret cx dX5_isFree_26 (Or.inl rfl) h
  · replace h := h.2 q3
    refine J_aload_n cx 0 dX5_isFree_13 rfl rfl ?_
    refine J_iload_n cx 1 dX5_isFree_14 rfl rfl ?_
    refine J_cV cx dX5_isFree_15 V_X5_155 (by decide) (by decide) rfl (ct_X5_awayFrom   _ _ _ h) rfl rfl (Nat.le_of_ble_eq_true rfl) (k_i (fun r5 τ4 h => ?_))
    refine J_if_ne cx (tgt := 25) dX5_isFree_18 (by decide) (fun q6 => ?_) (fun q6 => ?_)
    · replace h := h.1 q6
      refine J_iconst cx dX5_isFree_25 (by decide : _ = ((nI 0) : Int32)) ?_
      exact J_zret cx dX5_isFree_26 (Or.inl rfl) h
    · replace h := h.2 q6
      refine J_iconst cx dX5_isFree_21 (by decide : _ = ((nI 1) : Int32)) ?_
      refine J_goto cx (tgt := 26) dX5_isFree_22 (by decide) ?_
      exact J_zret cx dX5_isFree_26 (Or.inr rfl) h
def w_X5_greets_71 (K35 : (Int32 × Int32 × Int32 × Int32 × PI → Prop)) (Q : Int32 → PI → Prop) (l1 : Int32) (l2 : Int32) (l3 : Int32) (l4 : Int32) (σ : PI) : Prop := K35 (l1, l2, l3, (l4 + (-1)), σ)
set_option maxRecDepth 100000 in
set_option maxHeartbeats 4000000 in
theorem j_X5_greets_71 {M : MC} {X : XP} {Q : Int32 → PI → Prop} (K35 : (Int32 × Int32 × Int32 × Int32 × PI → Prop)) (hK35 : ∀ (l1 : Int32) (l2 : Int32) (l3 : Int32) (l4 : Int32) (σ : PI), K35 (l1, l2, l3, l4, σ) → J M X (QF M X (qI Q)) σ 35 [some (.ref (X.1 276)), some (.int l1), some (.int l2), some (.int l3), some (.int l4)] []) (cx : Cx M X RX5 cX5_greets 5 (some .int) 3) (l1 : Int32) (l2 : Int32) (l3 : Int32) (l4 : Int32) (σ : PI) (h : w_X5_greets_71  K35 Q l1 l2 l3 l4 σ) : J M X (QF M X (qI Q)) σ 71 [some (.ref (X.1 276)), some (.int l1), some (.int l2), some (.int l3), some (.int l4)] [] := by
  unfold w_X5_greets_71 at h
  refine J_iinc cx dX5_greets_71 rfl (by decide : _ = ((-1) : Int32)) (by decide) rfl rfl ?_
  refine J_goto cx (tgt := 35) dX5_greets_74 (by decide) ?_
  exact hK35   _ _ _ _ _ h
def B_X5_greets_35 (K35 : (Int32 × Int32 × Int32 × Int32 × PI → Prop)) (Q : Int32 → PI → Prop) (l1 : Int32) (l2 : Int32) (l3 : Int32) (l4 : Int32) (σ : PI) : Prop := (l4 < (nI 0) → (¬ l1 = (nI 0) → Q l3 σ) ∧ (l1 = (nI 0) → Q l2 σ)) ∧ (¬ l4 < (nI 0) → wp_X5_isFree l4 σ (fun r9 τ8 => ((r9 = (nI 0) → w_X5_greets_71  K35 Q l1 l2 l3 l4 τ8) ∧ (¬ r9 = (nI 0) → wp_X5_isFree (l4 + (nI 1)) τ8 (fun r12 τ11 => ((r12 = (nI 0) → w_X5_greets_71  K35 Q l1 l2 l3 l4 τ11) ∧ (¬ r12 = (nI 0) → ∀ x14 : Int32, x14 = (((nI 11) * l4) + (nI 1)) → (w_X5_greets_71  K35 Q l1 (l2 + (nI 1)) x14 l4 τ11))))))))
def w_X5_greets_35 (Q : Int32 → PI → Prop) (l1 : Int32) (l2 : Int32) (l3 : Int32) (l4 : Int32) (σ : PI) : Prop := ∃ n, Lp (fun K a => B_X5_greets_35   K Q a.1 a.2.1 a.2.2.1 a.2.2.2.1 a.2.2.2.2) n (l1, l2, l3, l4, σ)
set_option maxRecDepth 100000 in
set_option maxHeartbeats 4000000 in
theorem j_X5_greets_35 {M : MC} {X : XP} {Q : Int32 → PI → Prop} (cx : Cx M X RX5 cX5_greets 5 (some .int) 3) (l1 : Int32) (l2 : Int32) (l3 : Int32) (l4 : Int32) (σ : PI) (h : w_X5_greets_35   Q l1 l2 l3 l4 σ) : J M X (QF M X (qI Q)) σ 35 [some (.ref (X.1 276)), some (.int l1), some (.int l2), some (.int l3), some (.int l4)] [] := by
  refine Lp_J (P := fun (a : Int32 × Int32 × Int32 × Int32 × PI) => J M X (QF M X (qI Q)) (a.2.2.2.2) 35 [some (.ref (X.1 276)), some (.int a.1), some (.int a.2.1), some (.int a.2.2.1), some (.int a.2.2.2.1)] []) (fun K35 hK a h => ?_) h
  obtain ⟨l1, l2, l3, l4, σ⟩ := a
  have hK35 : ∀ (l1 : Int32) (l2 : Int32) (l3 : Int32) (l4 : Int32) (σ : PI), K35 (l1, l2, l3, l4, σ) → J M X (QF M X (qI Q)) σ 35 [some (.ref (X.1 276)), some (.int l1), some (.int l2), some (.int l3), some (.int l4)] [] := fun l1 l2 l3 l4 σ q => hK _ q
  replace h : B_X5_greets_35   K35 Q l1 l2 l3 l4 σ := h
  show J M X (QF M X (qI Q)) σ 35 [some (.ref (X.1 276)), some (.int l1), some (.int l2), some (.int l3), some (.int l4)] []
  unfold B_X5_greets_35 at h
  refine J_iload cx dX5_greets_35 rfl ?_
  refine J_if_lt cx (tgt := 77) dX5_greets_37 (by decide) (fun q6 => ?_) (fun q6 => ?_)
  · replace h := h.1 q6
    refine J_iload_n cx 1 dX5_greets_77 rfl rfl ?_
    refine J_if_ne cx (tgt := 85) dX5_greets_78 (by decide) (fun q7 => ?_) (fun q7 => ?_)
    · replace h := h.1 q7
      refine J_iload_n cx 3 dX5_greets_85 rfl rfl ?_
      exact J_iret cx dX5_greets_86 h
    · replace h := h.2 q7
      refine J_iload_n cx 2 dX5_greets_81 rfl rfl ?_
      refine J_goto cx (tgt := 86) dX5_greets_82 (by decide) ?_
      exact J_iret cx dX5_greets_86 h
  · replace h := h.2 q6
    refine J_aload_n cx 0 dX5_greets_40 rfl rfl ?_
    refine J_iload cx dX5_greets_41 rfl ?_
    refine J_cV cx dX5_greets_43 V_X5_232 (by decide) (by decide) rfl (ct_X5_isFree   _ _ _ h) rfl rfl (Nat.le_of_ble_eq_true rfl) (k_i (fun r9 τ8 h => ?_))
    refine J_if_eq cx (tgt := 71) dX5_greets_46 (by decide) (fun q10 => ?_) (fun q10 => ?_)
    · replace h := h.1 q10
      exact j_X5_greets_71   K35 hK35 cx   _ _ _ _ _ h
    · replace h := h.2 q10
      refine J_aload_n cx 0 dX5_greets_49 rfl rfl ?_
      refine J_iload cx dX5_greets_50 rfl ?_
      refine J_iconst cx dX5_greets_52 (by decide : _ = ((nI 1) : Int32)) ?_
      refine J_iadd cx dX5_greets_53 ?_
      refine J_cV cx dX5_greets_54 V_X5_232 (by decide) (by decide) rfl (ct_X5_isFree   _ _ _ h) rfl rfl (Nat.le_of_ble_eq_true rfl) (k_i (fun r12 τ11 h => ?_))
      refine J_if_eq cx (tgt := 71) dX5_greets_57 (by decide) (fun q13 => ?_) (fun q13 => ?_)
      · replace h := h.1 q13
        exact j_X5_greets_71   K35 hK35 cx   _ _ _ _ _ h
      · replace h := h.2 q13
        refine J_bipush cx dX5_greets_60 (by decide : _ = ((nI 11) : Int32)) ?_
        refine J_iload cx dX5_greets_62 rfl ?_
        refine J_imul cx dX5_greets_64 ?_
        refine J_iconst cx dX5_greets_65 (by decide : _ = ((nI 1) : Int32)) ?_
        refine J_iadd cx dX5_greets_66 ?_
        refine J_topi (fun x14 e_x14 => ?_)
        replace h := h x14 e_x14
        refine J_istore_n cx 3 dX5_greets_67 rfl (by decide) rfl rfl ?_
        refine J_iinc cx dX5_greets_68 rfl (by decide : _ = ((nI 1) : Int32)) (by decide) rfl rfl ?_
        exact j_X5_greets_71   K35 hK35 cx   _ _ _ _ _ h
def wp_X5_greets (a0 : Int32) (σ : PI) (Q : Int32 → PI → Prop) : Prop := (¬ (σ 276 4) = (nI 0) → wp_X5_isWhat a0 σ (fun r3 τ2 => ((¬ r3 = (nI 0) → ∀ x5 : Int32, x5 = ((τ2 280 2) - (nI 2)) → (w_X5_greets_35   Q a0 (nI 0) (-1000000) x5 τ2)) ∧ (r3 = (nI 0) → Q (-1000001) τ2)))) ∧ ((σ 276 4) = (nI 0) → Q (-1000002) σ)
set_option maxRecDepth 100000 in
set_option maxHeartbeats 4000000 in
theorem ct_X5_greets {l : Launch} {X : XP} (a0 : Int32) (σ : PI) (Q : Int32 → PI → Prop) (h : wp_X5_greets  a0 σ Q) : Ct l yX5_greets cX5_greets 5 (some .int) 3 X [.ref (X.1 276), .int a0] σ (qI Q) := by
  refine Ct_of (L := [some (.ref (X.1 276)), some (.int a0), none, none, none]) (by decide) (Nat.le_of_ble_eq_true rfl) rfl (fun M hl cx => ?_)
  subst hl
  unfold wp_X5_greets at h
  refine J_aload_n cx 0 dX5_greets_0 rfl rfl ?_
  refine J_getI cx dX5_greets_1 F_X5_135 (by decide) rfl rfl ?_
  refine J_if_ne cx (tgt := 10) dX5_greets_4 (by decide) (fun q1 => ?_) (fun q1 => ?_)
  · replace h := h.1 q1
    refine J_iload_n cx 1 dX5_greets_10 rfl rfl ?_
    refine J_cS cx dX5_greets_11 S_X5_209 (by decide) (ct_X5_isWhat   _ _ _ h) rfl rfl (Nat.le_of_ble_eq_true rfl) (k_i (fun r3 τ2 h => ?_))
    refine J_if_ne cx (tgt := 20) dX5_greets_14 (by decide) (fun q4 => ?_) (fun q4 => ?_)
    · replace h := h.1 q4
      refine J_iconst cx dX5_greets_20 (by decide : _ = ((nI 0) : Int32)) ?_
      refine J_istore_n cx 2 dX5_greets_21 rfl (by decide) rfl rfl ?_
      refine J_ldc cx (v := (-1000000)) dX5_greets_22 gw_925 ?_
      refine J_istore_n cx 3 dX5_greets_24 rfl (by decide) rfl rfl ?_
      refine J_aload_n cx 0 dX5_greets_25 rfl rfl ?_
      refine J_getR cx (j := 280) dX5_greets_26 F_X5_19 (by decide) rfl rfl rfl ?_
      refine J_iconst cx dX5_greets_29 (by decide : _ = ((nI 2) : Int32)) ?_
      refine J_iald cx dX5_greets_30 (by decide) rfl (vpl (by decide)) ?_
      refine J_iconst cx dX5_greets_31 (by decide : _ = ((nI 2) : Int32)) ?_
      refine J_isub cx dX5_greets_32 ?_
      refine J_topi (fun x5 e_x5 => ?_)
      replace h := h x5 e_x5
      refine J_istore cx dX5_greets_33 (by decide) rfl rfl ?_
      exact j_X5_greets_35     cx   _ _ _ _ _ h
    · replace h := h.2 q4
      refine J_ldc cx (v := (-1000001)) dX5_greets_17 gw_742 ?_
      exact J_iret cx dX5_greets_19 h
  · replace h := h.2 q1
    refine J_ldc cx (v := (-1000002)) dX5_greets_7 gw_822 ?_
    exact J_iret cx dX5_greets_9 h
def w_X5_talk_97 (K29 : (Int32 × Int32 × Int32 × Int32 × PI → Prop)) (Q : Int32 → PI → Prop) (l1 : Int32) (l2 : Int32) (l4 : Int32) (s0 : Int32) (σ : PI) : Prop := K29 (l1, l2, s0, (l4 + (nI 1)), σ)
set_option maxRecDepth 100000 in
set_option maxHeartbeats 4000000 in
theorem j_X5_talk_97 {M : MC} {X : XP} {Q : Int32 → PI → Prop} (K29 : (Int32 × Int32 × Int32 × Int32 × PI → Prop)) (hK29 : ∀ (l1 : Int32) (l2 : Int32) (l3 : Int32) (l4 : Int32) (σ : PI), K29 (l1, l2, l3, l4, σ) → J M X (QF M X (qI Q)) σ 29 [some (.ref (X.1 276)), some (.int l1), some (.int l2), some (.int l3), some (.int l4), none] []) (cx : Cx M X RX5 cX5_talk 6 (some .int) 2) (l1 : Int32) (l2 : Int32) (l4 : Int32) (s0 : Int32) (σ : PI) (h : w_X5_talk_97  K29 Q l1 l2 l4 s0 σ) : J M X (QF M X (qI Q)) σ 97 [some (.ref (X.1 276)), some (.int l1), some (.int l2), none, some (.int l4), none] [.int s0] := by
  unfold w_X5_talk_97 at h
  refine J_istore_n cx 3 dX5_talk_97 rfl (by decide) rfl rfl ?_
  refine J_iinc cx dX5_talk_98 rfl (by decide : _ = ((nI 1) : Int32)) (by decide) rfl rfl ?_
  refine J_goto cx (tgt := 29) dX5_talk_101 (by decide) ?_
  exact hK29   _ _ _ _ _ h
def w_X5_talk_96 (K29 : (Int32 × Int32 × Int32 × Int32 × PI → Prop)) (Q : Int32 → PI → Prop) (l1 : Int32) (l2 : Int32) (l3 : Int32) (l4 : Int32) (σ : PI) : Prop := w_X5_talk_97  K29 Q l1 l2 l4 l3 σ
set_option maxRecDepth 100000 in
set_option maxHeartbeats 4000000 in
theorem j_X5_talk_96 {M : MC} {X : XP} {Q : Int32 → PI → Prop} (K29 : (Int32 × Int32 × Int32 × Int32 × PI → Prop)) (hK29 : ∀ (l1 : Int32) (l2 : Int32) (l3 : Int32) (l4 : Int32) (σ : PI), K29 (l1, l2, l3, l4, σ) → J M X (QF M X (qI Q)) σ 29 [some (.ref (X.1 276)), some (.int l1), some (.int l2), some (.int l3), some (.int l4), none] []) (cx : Cx M X RX5 cX5_talk 6 (some .int) 2) (l1 : Int32) (l2 : Int32) (l3 : Int32) (l4 : Int32) (σ : PI) (h : w_X5_talk_96  K29 Q l1 l2 l3 l4 σ) : J M X (QF M X (qI Q)) σ 96 [some (.ref (X.1 276)), some (.int l1), some (.int l2), some (.int l3), some (.int l4), none] [] := by
  unfold w_X5_talk_96 at h
  refine J_iload_n cx 3 dX5_talk_96 rfl rfl ?_
  refine J_fg 3 rfl ?_
  exact j_X5_talk_97   K29 hK29 cx   _ _ _ _ _ h
def w_X5_talk_71 (K29 : (Int32 × Int32 × Int32 × Int32 × PI → Prop)) (Q : Int32 → PI → Prop) (l1 : Int32) (l2 : Int32) (l3 : Int32) (l4 : Int32) (s0 : Int32) (σ : PI) : Prop := (s0 = (nI 0) → w_X5_talk_96  K29 Q l1 l2 l3 l4 σ) ∧ (¬ s0 = (nI 0) → wp_X5_has (σ 280 5) l4 σ (fun r17 τ16 => ((r17 = (nI 0) → w_X5_talk_96  K29 Q l1 l2 l3 l4 τ16) ∧ (¬ r17 = (nI 0) → w_X5_talk_97  K29 Q l1 l2 l4 (nI 0) τ16))))
set_option maxRecDepth 100000 in
set_option maxHeartbeats 4000000 in
theorem j_X5_talk_71 {M : MC} {X : XP} {Q : Int32 → PI → Prop} (K29 : (Int32 × Int32 × Int32 × Int32 × PI → Prop)) (hK29 : ∀ (l1 : Int32) (l2 : Int32) (l3 : Int32) (l4 : Int32) (σ : PI), K29 (l1, l2, l3, l4, σ) → J M X (QF M X (qI Q)) σ 29 [some (.ref (X.1 276)), some (.int l1), some (.int l2), some (.int l3), some (.int l4), none] []) (cx : Cx M X RX5 cX5_talk 6 (some .int) 2) (l1 : Int32) (l2 : Int32) (l3 : Int32) (l4 : Int32) (s0 : Int32) (σ : PI) (h : w_X5_talk_71  K29 Q l1 l2 l3 l4 s0 σ) : J M X (QF M X (qI Q)) σ 71 [some (.ref (X.1 276)), some (.int l1), some (.int l2), some (.int l3), some (.int l4), none] [.int s0] := by
  unfold w_X5_talk_71 at h
  refine J_istore cx dX5_talk_71 (by decide) rfl rfl ?_
  refine J_iload cx dX5_talk_73 rfl ?_
  refine J_if_eq cx (tgt := 96) dX5_talk_75 (by decide) (fun q15 => ?_) (fun q15 => ?_)
  · replace h := h.1 q15
    refine J_fg 5 rfl ?_
    exact j_X5_talk_96   K29 hK29 cx   _ _ _ _ _ h
  · replace h := h.2 q15
    refine J_aload_n cx 0 dX5_talk_78 rfl rfl ?_
    refine J_getR cx (j := 280) dX5_talk_79 F_X5_19 (by decide) rfl rfl rfl ?_
    refine J_iconst cx dX5_talk_82 (by decide : _ = ((nI 5) : Int32)) ?_
    refine J_iald cx dX5_talk_83 (by decide) rfl (vpl (by decide)) ?_
    refine J_iload cx dX5_talk_84 rfl ?_
    refine J_cS cx dX5_talk_86 S_X5_151 (by decide) (ct_X5_has   _ _ _ _ h) rfl rfl (Nat.le_of_ble_eq_true rfl) (k_i (fun r17 τ16 h => ?_))
    refine J_if_eq cx (tgt := 96) dX5_talk_89 (by decide) (fun q18 => ?_) (fun q18 => ?_)
    · replace h := h.1 q18
      refine J_fg 5 rfl ?_
      exact j_X5_talk_96   K29 hK29 cx   _ _ _ _ _ h
    · replace h := h.2 q18
      refine J_iconst cx dX5_talk_92 (by decide : _ = ((nI 0) : Int32)) ?_
      refine J_goto cx (tgt := 97) dX5_talk_93 (by decide) ?_
      refine J_fg 3 rfl ?_
      refine J_fg 5 rfl ?_
      exact j_X5_talk_97   K29 hK29 cx   _ _ _ _ _ h
def w_X5_talk_66 (K29 : (Int32 × Int32 × Int32 × Int32 × PI → Prop)) (Q : Int32 → PI → Prop) (l1 : Int32) (l2 : Int32) (l3 : Int32) (l4 : Int32) (σ : PI) : Prop := w_X5_talk_71  K29 Q l1 l2 l3 l4 (nI 1) σ
set_option maxRecDepth 100000 in
set_option maxHeartbeats 4000000 in
theorem j_X5_talk_66 {M : MC} {X : XP} {Q : Int32 → PI → Prop} (K29 : (Int32 × Int32 × Int32 × Int32 × PI → Prop)) (hK29 : ∀ (l1 : Int32) (l2 : Int32) (l3 : Int32) (l4 : Int32) (σ : PI), K29 (l1, l2, l3, l4, σ) → J M X (QF M X (qI Q)) σ 29 [some (.ref (X.1 276)), some (.int l1), some (.int l2), some (.int l3), some (.int l4), none] []) (cx : Cx M X RX5 cX5_talk 6 (some .int) 2) (l1 : Int32) (l2 : Int32) (l3 : Int32) (l4 : Int32) (σ : PI) (h : w_X5_talk_66  K29 Q l1 l2 l3 l4 σ) : J M X (QF M X (qI Q)) σ 66 [some (.ref (X.1 276)), some (.int l1), some (.int l2), some (.int l3), some (.int l4), none] [] := by
  unfold w_X5_talk_66 at h
  refine J_iconst cx dX5_talk_66 (by decide : _ = ((nI 1) : Int32)) ?_
  refine J_goto cx (tgt := 71) dX5_talk_67 (by decide) ?_
  exact j_X5_talk_71   K29 hK29 cx   _ _ _ _ _ _ h
def B_X5_talk_29 (K29 : (Int32 × Int32 × Int32 × Int32 × PI → Prop)) (Q : Int32 → PI → Prop) (l1 : Int32) (l2 : Int32) (l3 : Int32) (l4 : Int32) (σ : PI) : Prop := ((σ 280 2) ≤ l4 → Q l3 σ) ∧ (¬ (σ 280 2) ≤ l4 → wp_X5_in (l4 : Int32).toInt64 (l1 : Int32).toInt64 (l2 : Int32).toInt64 σ (fun r10 τ9 => ((¬ r10 = (nI 0) → w_X5_talk_66  K29 Q l1 l2 l3 l4 τ9) ∧ (r10 = (nI 0) → wp_X5_in (l4 : Int32).toInt64 (l2 : Int32).toInt64 (l1 : Int32).toInt64 τ9 (fun r13 τ12 => ((r13 = (nI 0) → w_X5_talk_71  K29 Q l1 l2 l3 l4 (nI 0) τ12) ∧ (¬ r13 = (nI 0) → w_X5_talk_66  K29 Q l1 l2 l3 l4 τ12)))))))
def w_X5_talk_29 (Q : Int32 → PI → Prop) (l1 : Int32) (l2 : Int32) (l3 : Int32) (l4 : Int32) (σ : PI) : Prop := ∃ n, Lp (fun K a => B_X5_talk_29   K Q a.1 a.2.1 a.2.2.1 a.2.2.2.1 a.2.2.2.2) n (l1, l2, l3, l4, σ)
set_option maxRecDepth 100000 in
set_option maxHeartbeats 4000000 in
theorem j_X5_talk_29 {M : MC} {X : XP} {Q : Int32 → PI → Prop} (cx : Cx M X RX5 cX5_talk 6 (some .int) 2) (l1 : Int32) (l2 : Int32) (l3 : Int32) (l4 : Int32) (σ : PI) (h : w_X5_talk_29   Q l1 l2 l3 l4 σ) : J M X (QF M X (qI Q)) σ 29 [some (.ref (X.1 276)), some (.int l1), some (.int l2), some (.int l3), some (.int l4), none] [] := by
  refine Lp_J (P := fun (a : Int32 × Int32 × Int32 × Int32 × PI) => J M X (QF M X (qI Q)) (a.2.2.2.2) 29 [some (.ref (X.1 276)), some (.int a.1), some (.int a.2.1), some (.int a.2.2.1), some (.int a.2.2.2.1), none] []) (fun K29 hK a h => ?_) h
  obtain ⟨l1, l2, l3, l4, σ⟩ := a
  have hK29 : ∀ (l1 : Int32) (l2 : Int32) (l3 : Int32) (l4 : Int32) (σ : PI), K29 (l1, l2, l3, l4, σ) → J M X (QF M X (qI Q)) σ 29 [some (.ref (X.1 276)), some (.int l1), some (.int l2), some (.int l3), some (.int l4), none] [] := fun l1 l2 l3 l4 σ q => hK _ q
  replace h : B_X5_talk_29   K29 Q l1 l2 l3 l4 σ := h
  show J M X (QF M X (qI Q)) σ 29 [some (.ref (X.1 276)), some (.int l1), some (.int l2), some (.int l3), some (.int l4), none] []
  unfold B_X5_talk_29 at h
  refine J_iload cx dX5_talk_29 rfl ?_
  refine J_aload_n cx 0 dX5_talk_31 rfl rfl ?_
  refine J_getR cx (j := 280) dX5_talk_32 F_X5_19 (by decide) rfl rfl rfl ?_
  refine J_iconst cx dX5_talk_35 (by decide : _ = ((nI 2) : Int32)) ?_
  refine J_iald cx dX5_talk_36 (by decide) rfl (vpl (by decide)) ?_
  refine J_icmp_ge cx (tgt := 104) dX5_talk_37 (by decide) (fun q8 => ?_) (fun q8 => ?_)
  · replace h := h.1 q8
    refine J_iload_n cx 3 dX5_talk_104 rfl rfl ?_
    exact J_iret cx dX5_talk_105 h
  · replace h := h.2 q8
    refine J_iload cx dX5_talk_40 rfl ?_
    refine J_i2l cx dX5_talk_42 ?_
    refine J_iload_n cx 1 dX5_talk_43 rfl rfl ?_
    refine J_i2l cx dX5_talk_44 ?_
    refine J_iload_n cx 2 dX5_talk_45 rfl rfl ?_
    refine J_i2l cx dX5_talk_46 ?_
    refine J_cS cx dX5_talk_47 S_X5_54 (by decide) (ct_X5_in   _ _ _ _ _ h) rfl rfl (Nat.le_of_ble_eq_true rfl) (k_i (fun r10 τ9 h => ?_))
    refine J_if_ne cx (tgt := 66) dX5_talk_50 (by decide) (fun q11 => ?_) (fun q11 => ?_)
    · replace h := h.1 q11
      exact j_X5_talk_66   K29 hK29 cx   _ _ _ _ _ h
    · replace h := h.2 q11
      refine J_iload cx dX5_talk_53 rfl ?_
      refine J_i2l cx dX5_talk_55 ?_
      refine J_iload_n cx 2 dX5_talk_56 rfl rfl ?_
      refine J_i2l cx dX5_talk_57 ?_
      refine J_iload_n cx 1 dX5_talk_58 rfl rfl ?_
      refine J_i2l cx dX5_talk_59 ?_
      refine J_cS cx dX5_talk_60 S_X5_54 (by decide) (ct_X5_in   _ _ _ _ _ h) rfl rfl (Nat.le_of_ble_eq_true rfl) (k_i (fun r13 τ12 h => ?_))
      refine J_if_eq cx (tgt := 70) dX5_talk_63 (by decide) (fun q14 => ?_) (fun q14 => ?_)
      · replace h := h.1 q14
        refine J_iconst cx dX5_talk_70 (by decide : _ = ((nI 0) : Int32)) ?_
        exact j_X5_talk_71   K29 hK29 cx   _ _ _ _ _ _ h
      · replace h := h.2 q14
        exact j_X5_talk_66   K29 hK29 cx   _ _ _ _ _ h
def wp_X5_talk (a0 : Int32) (a1 : Int32) (σ : PI) (Q : Int32 → PI → Prop) : Prop := wp_X5_isMan a0 σ (fun r2 τ1 => ((r2 = (nI 0) → Q (-1000001) τ1) ∧ (¬ r2 = (nI 0) → wp_X5_isMan a1 τ1 (fun r5 τ4 => ((r5 = (nI 0) → Q (-1000001) τ4) ∧ (¬ r5 = (nI 0) → (¬ a0 = a1 → w_X5_talk_29   Q a0 a1 (nI 1) (nI 0) τ4) ∧ (a0 = a1 → Q (-1000001) τ4)))))))
set_option maxRecDepth 100000 in
set_option maxHeartbeats 4000000 in
theorem ct_X5_talk {l : Launch} {X : XP} (a0 : Int32) (a1 : Int32) (σ : PI) (Q : Int32 → PI → Prop) (h : wp_X5_talk  a0 a1 σ Q) : Ct l yX5_talk cX5_talk 6 (some .int) 2 X [.ref (X.1 276), .int a0, .int a1] σ (qI Q) := by
  refine Ct_of (L := [some (.ref (X.1 276)), some (.int a0), some (.int a1), none, none, none]) (by decide) (Nat.le_of_ble_eq_true rfl) rfl (fun M hl cx => ?_)
  subst hl
  unfold wp_X5_talk at h
  refine J_aload_n cx 0 dX5_talk_0 rfl rfl ?_
  refine J_iload_n cx 1 dX5_talk_1 rfl rfl ?_
  refine J_cV cx dX5_talk_2 V_X5_183 (by decide) (by decide) rfl (ct_X5_isMan   _ _ _ h) rfl rfl (Nat.le_of_ble_eq_true rfl) (k_i (fun r2 τ1 h => ?_))
  refine J_if_eq cx (tgt := 21) dX5_talk_5 (by decide) (fun q3 => ?_) (fun q3 => ?_)
  · replace h := h.1 q3
    refine J_ldc cx (v := (-1000001)) dX5_talk_21 gw_742 ?_
    exact J_iret cx dX5_talk_23 h
  · replace h := h.2 q3
    refine J_aload_n cx 0 dX5_talk_8 rfl rfl ?_
    refine J_iload_n cx 2 dX5_talk_9 rfl rfl ?_
    refine J_cV cx dX5_talk_10 V_X5_183 (by decide) (by decide) rfl (ct_X5_isMan   _ _ _ h) rfl rfl (Nat.le_of_ble_eq_true rfl) (k_i (fun r5 τ4 h => ?_))
    refine J_if_eq cx (tgt := 21) dX5_talk_13 (by decide) (fun q6 => ?_) (fun q6 => ?_)
    · replace h := h.1 q6
      refine J_ldc cx (v := (-1000001)) dX5_talk_21 gw_742 ?_
      exact J_iret cx dX5_talk_23 h
    · replace h := h.2 q6
      refine J_iload_n cx 1 dX5_talk_16 rfl rfl ?_
      refine J_iload_n cx 2 dX5_talk_17 rfl rfl ?_
      refine J_icmp_ne cx (tgt := 24) dX5_talk_18 (by decide) (fun q7 => ?_) (fun q7 => ?_)
      · replace h := h.1 q7
        refine J_iconst cx dX5_talk_24 (by decide : _ = ((nI 1) : Int32)) ?_
        refine J_istore_n cx 3 dX5_talk_25 rfl (by decide) rfl rfl ?_
        refine J_iconst cx dX5_talk_26 (by decide : _ = ((nI 0) : Int32)) ?_
        refine J_istore cx dX5_talk_27 (by decide) rfl rfl ?_
        exact j_X5_talk_29     cx   _ _ _ _ _ h
      · replace h := h.2 q7
        refine J_ldc cx (v := (-1000001)) dX5_talk_21 gw_742 ?_
        exact J_iret cx dX5_talk_23 h
def w_X5_alone_77 (K16 : (Int32 × Int32 × Int32 × PI → Prop)) (Q : Int32 → PI → Prop) (l1 : Int32) (l3 : Int32) (s0 : Int32) (σ : PI) : Prop := K16 (l1, s0, (l3 + (nI 1)), σ)
set_option maxRecDepth 100000 in
set_option maxHeartbeats 4000000 in
theorem j_X5_alone_77 {M : MC} {X : XP} {Q : Int32 → PI → Prop} (K16 : (Int32 × Int32 × Int32 × PI → Prop)) (hK16 : ∀ (l1 : Int32) (l2 : Int32) (l3 : Int32) (σ : PI), K16 (l1, l2, l3, σ) → J M X (QF M X (qI Q)) σ 16 [some (.ref (X.1 276)), some (.int l1), some (.int l2), some (.int l3), none] []) (cx : Cx M X RX5 cX5_alone 5 (some .int) 0) (l1 : Int32) (l3 : Int32) (s0 : Int32) (σ : PI) (h : w_X5_alone_77  K16 Q l1 l3 s0 σ) : J M X (QF M X (qI Q)) σ 77 [some (.ref (X.1 276)), some (.int l1), none, some (.int l3), none] [.int s0] := by
  unfold w_X5_alone_77 at h
  refine J_istore_n cx 2 dX5_alone_77 rfl (by decide) rfl rfl ?_
  refine J_iinc cx dX5_alone_78 rfl (by decide : _ = ((nI 1) : Int32)) (by decide) rfl rfl ?_
  refine J_goto cx (tgt := 16) dX5_alone_81 (by decide) ?_
  exact hK16   _ _ _ _ h
def w_X5_alone_64 (K16 : (Int32 × Int32 × Int32 × PI → Prop)) (Q : Int32 → PI → Prop) (l2 : Int32) (l3 : Int32) (l4 : Int32) (s0 : Int32) (σ : PI) : Prop := (l4 ≤ l2 → w_X5_alone_77  K16 Q s0 l3 l2 σ) ∧ (¬ l4 ≤ l2 → w_X5_alone_77  K16 Q s0 l3 l4 σ)
set_option maxRecDepth 100000 in
set_option maxHeartbeats 4000000 in
theorem j_X5_alone_64 {M : MC} {X : XP} {Q : Int32 → PI → Prop} (K16 : (Int32 × Int32 × Int32 × PI → Prop)) (hK16 : ∀ (l1 : Int32) (l2 : Int32) (l3 : Int32) (σ : PI), K16 (l1, l2, l3, σ) → J M X (QF M X (qI Q)) σ 16 [some (.ref (X.1 276)), some (.int l1), some (.int l2), some (.int l3), none] []) (cx : Cx M X RX5 cX5_alone 5 (some .int) 0) (l2 : Int32) (l3 : Int32) (l4 : Int32) (s0 : Int32) (σ : PI) (h : w_X5_alone_64  K16 Q l2 l3 l4 s0 σ) : J M X (QF M X (qI Q)) σ 64 [some (.ref (X.1 276)), none, some (.int l2), some (.int l3), some (.int l4)] [.int s0] := by
  unfold w_X5_alone_64 at h
  refine J_istore_n cx 1 dX5_alone_64 rfl (by decide) rfl rfl ?_
  refine J_iload cx dX5_alone_65 rfl ?_
  refine J_iload_n cx 2 dX5_alone_67 rfl rfl ?_
  refine J_icmp_le cx (tgt := 76) dX5_alone_68 (by decide) (fun q7 => ?_) (fun q7 => ?_)
  · replace h := h.1 q7
    refine J_iload_n cx 2 dX5_alone_76 rfl rfl ?_
    refine J_fg 2 rfl ?_
    refine J_fg 4 rfl ?_
    exact j_X5_alone_77   K16 hK16 cx   _ _ _ _ h
  · replace h := h.2 q7
    refine J_iload cx dX5_alone_71 rfl ?_
    refine J_goto cx (tgt := 77) dX5_alone_73 (by decide) ?_
    refine J_fg 2 rfl ?_
    refine J_fg 4 rfl ?_
    exact j_X5_alone_77   K16 hK16 cx   _ _ _ _ h
def B_X5_alone_16 (K16 : (Int32 × Int32 × Int32 × PI → Prop)) (Q : Int32 → PI → Prop) (l1 : Int32) (l2 : Int32) (l3 : Int32) (σ : PI) : Prop := ((σ 280 2) ≤ l3 → Q l1 σ) ∧ (¬ (σ 280 2) ≤ l3 → vp_in ((nI 6) + l3) 70 ∧ (∀ x4 : Int32, x4 = (σ 280 (((nI 6) + l3) : Int32).toNatClampNeg) → ((x4 ≤ l2 → (¬ x4 = l2 → w_X5_alone_64  K16 Q l2 l3 x4 l1 σ) ∧ (x4 = l2 → w_X5_alone_64  K16 Q l2 l3 x4 (l1 ||| ((nI 1) <<< (l3 &&& 31))) σ)) ∧ (¬ x4 ≤ l2 → w_X5_alone_64  K16 Q l2 l3 x4 ((nI 1) <<< (l3 &&& 31)) σ))))
def w_X5_alone_16 (Q : Int32 → PI → Prop) (l1 : Int32) (l2 : Int32) (l3 : Int32) (σ : PI) : Prop := ∃ n, Lp (fun K a => B_X5_alone_16   K Q a.1 a.2.1 a.2.2.1 a.2.2.2) n (l1, l2, l3, σ)
set_option maxRecDepth 100000 in
set_option maxHeartbeats 4000000 in
theorem j_X5_alone_16 {M : MC} {X : XP} {Q : Int32 → PI → Prop} (cx : Cx M X RX5 cX5_alone 5 (some .int) 0) (l1 : Int32) (l2 : Int32) (l3 : Int32) (σ : PI) (h : w_X5_alone_16   Q l1 l2 l3 σ) : J M X (QF M X (qI Q)) σ 16 [some (.ref (X.1 276)), some (.int l1), some (.int l2), some (.int l3), none] [] := by
  refine Lp_J (P := fun (a : Int32 × Int32 × Int32 × PI) => J M X (QF M X (qI Q)) (a.2.2.2) 16 [some (.ref (X.1 276)), some (.int a.1), some (.int a.2.1), some (.int a.2.2.1), none] []) (fun K16 hK a h => ?_) h
  obtain ⟨l1, l2, l3, σ⟩ := a
  have hK16 : ∀ (l1 : Int32) (l2 : Int32) (l3 : Int32) (σ : PI), K16 (l1, l2, l3, σ) → J M X (QF M X (qI Q)) σ 16 [some (.ref (X.1 276)), some (.int l1), some (.int l2), some (.int l3), none] [] := fun l1 l2 l3 σ q => hK _ q
  replace h : B_X5_alone_16   K16 Q l1 l2 l3 σ := h
  show J M X (QF M X (qI Q)) σ 16 [some (.ref (X.1 276)), some (.int l1), some (.int l2), some (.int l3), none] []
  unfold B_X5_alone_16 at h
  refine J_iload_n cx 3 dX5_alone_16 rfl rfl ?_
  refine J_aload_n cx 0 dX5_alone_17 rfl rfl ?_
  refine J_getR cx (j := 280) dX5_alone_18 F_X5_19 (by decide) rfl rfl rfl ?_
  refine J_iconst cx dX5_alone_21 (by decide : _ = ((nI 2) : Int32)) ?_
  refine J_iald cx dX5_alone_22 (by decide) rfl (vpl (by decide)) ?_
  refine J_icmp_ge cx (tgt := 84) dX5_alone_23 (by decide) (fun q2 => ?_) (fun q2 => ?_)
  · replace h := h.1 q2
    refine J_iload_n cx 1 dX5_alone_84 rfl rfl ?_
    exact J_iret cx dX5_alone_85 h
  · replace h := h.2 q2
    refine J_aload_n cx 0 dX5_alone_26 rfl rfl ?_
    refine J_getR cx (j := 280) dX5_alone_27 F_X5_19 (by decide) rfl rfl rfl ?_
    refine J_bipush cx dX5_alone_30 (by decide : _ = ((nI 6) : Int32)) ?_
    refine J_iload_n cx 3 dX5_alone_32 rfl rfl ?_
    refine J_iadd cx dX5_alone_33 ?_
    obtain ⟨s3, h⟩ := h
    refine J_iald cx dX5_alone_34 (by decide) rfl s3 ?_
    refine J_topi (fun x4 e_x4 => ?_)
    replace h := h x4 e_x4
    refine J_istore cx dX5_alone_35 (by decide) rfl rfl ?_
    refine J_iload cx dX5_alone_37 rfl ?_
    refine J_iload_n cx 2 dX5_alone_39 rfl rfl ?_
    refine J_icmp_le cx (tgt := 49) dX5_alone_40 (by decide) (fun q5 => ?_) (fun q5 => ?_)
    · replace h := h.1 q5
      refine J_iload cx dX5_alone_49 rfl ?_
      refine J_iload_n cx 2 dX5_alone_51 rfl rfl ?_
      refine J_icmp_ne cx (tgt := 63) dX5_alone_52 (by decide) (fun q6 => ?_) (fun q6 => ?_)
      · replace h := h.1 q6
        refine J_iload_n cx 1 dX5_alone_63 rfl rfl ?_
        refine J_fg 1 rfl ?_
        exact j_X5_alone_64   K16 hK16 cx   _ _ _ _ _ h
      · replace h := h.2 q6
        refine J_iload_n cx 1 dX5_alone_55 rfl rfl ?_
        refine J_iconst cx dX5_alone_56 (by decide : _ = ((nI 1) : Int32)) ?_
        refine J_iload_n cx 3 dX5_alone_57 rfl rfl ?_
        refine J_ishl cx dX5_alone_58 ?_
        refine J_ior cx dX5_alone_59 ?_
        refine J_goto cx (tgt := 64) dX5_alone_60 (by decide) ?_
        refine J_fg 1 rfl ?_
        exact j_X5_alone_64   K16 hK16 cx   _ _ _ _ _ h
    · replace h := h.2 q5
      refine J_iconst cx dX5_alone_43 (by decide : _ = ((nI 1) : Int32)) ?_
      refine J_iload_n cx 3 dX5_alone_44 rfl rfl ?_
      refine J_ishl cx dX5_alone_45 ?_
      refine J_goto cx (tgt := 64) dX5_alone_46 (by decide) ?_
      refine J_fg 1 rfl ?_
      exact j_X5_alone_64   K16 hK16 cx   _ _ _ _ _ h
def wp_X5_alone (σ : PI) (Q : Int32 → PI → Prop) : Prop := (¬ (σ 276 4) = (nI 0) → w_X5_alone_16   Q (nI 0) (-1) (nI 0) σ) ∧ ((σ 276 4) = (nI 0) → Q (-1000002) σ)
set_option maxRecDepth 100000 in
set_option maxHeartbeats 4000000 in
theorem ct_X5_alone {l : Launch} {X : XP} (σ : PI) (Q : Int32 → PI → Prop) (h : wp_X5_alone   σ Q) : Ct l yX5_alone cX5_alone 5 (some .int) 0 X [.ref (X.1 276)] σ (qI Q) := by
  refine Ct_of (L := [some (.ref (X.1 276)), none, none, none, none]) (by decide) (Nat.le_of_ble_eq_true rfl) rfl (fun M hl cx => ?_)
  subst hl
  unfold wp_X5_alone at h
  refine J_aload_n cx 0 dX5_alone_0 rfl rfl ?_
  refine J_getI cx dX5_alone_1 F_X5_135 (by decide) rfl rfl ?_
  refine J_if_ne cx (tgt := 10) dX5_alone_4 (by decide) (fun q1 => ?_) (fun q1 => ?_)
  · replace h := h.1 q1
    refine J_iconst cx dX5_alone_10 (by decide : _ = ((nI 0) : Int32)) ?_
    refine J_istore_n cx 1 dX5_alone_11 rfl (by decide) rfl rfl ?_
    refine J_iconst cx dX5_alone_12 (by decide : _ = ((-1) : Int32)) ?_
    refine J_istore_n cx 2 dX5_alone_13 rfl (by decide) rfl rfl ?_
    refine J_iconst cx dX5_alone_14 (by decide : _ = ((nI 0) : Int32)) ?_
    refine J_istore_n cx 3 dX5_alone_15 rfl (by decide) rfl rfl ?_
    exact j_X5_alone_16     cx   _ _ _ _ h
  · replace h := h.2 q1
    refine J_ldc cx (v := (-1000002)) dX5_alone_7 gw_822 ?_
    exact J_iret cx dX5_alone_9 h
def B_X5_rain_272 (K272 : (Int32 × Int64 × Int64 × Int64 × Int64 × PI → Prop)) (Q : Int64 → PI → Prop) (l4 : Int32) (l5 : Int64) (l7 : Int64) (l10 : Int64) (l12 : Int64) (σ : PI) : Prop := ((lg_cmp l12 (lN 0)) = (nI 0) → (¬ l4 = (nI 0) → ¬ l10 = (lN 0) ∧ (Q (l7 / l10) σ)) ∧ (l4 = (nI 0) → ¬ l10 = (lN 0) ∧ (Q (l5 / l10) σ))) ∧ (¬ (lg_cmp l12 (lN 0)) = (nI 0) → ¬ l12 = (lN 0) ∧ (∀ x26 : Int64, x26 = (l10 - l10 / l12 * l12) → (K272 (l4, l5, l7, l12, x26, σ))))
def w_X5_rain_272 (Q : Int64 → PI → Prop) (l4 : Int32) (l5 : Int64) (l7 : Int64) (l10 : Int64) (l12 : Int64) (σ : PI) : Prop := ∃ n, Lp (fun K a => B_X5_rain_272   K Q a.1 a.2.1 a.2.2.1 a.2.2.2.1 a.2.2.2.2.1 a.2.2.2.2.2) n (l4, l5, l7, l10, l12, σ)
set_option maxRecDepth 100000 in
set_option maxHeartbeats 4000000 in
theorem j_X5_rain_272 {M : MC} {X : XP} {Q : Int64 → PI → Prop} (cx : Cx M X RX5 cX5_rain 16 (some .long) 5) (l4 : Int32) (l5 : Int64) (l7 : Int64) (l10 : Int64) (l12 : Int64) (σ : PI) (h : w_X5_rain_272   Q l4 l5 l7 l10 l12 σ) : J M X (QF M X (qL Q)) σ 272 [none, none, none, none, some (.int l4), some (.long l5), none, some (.long l7), none, none, some (.long l10), none, some (.long l12), none, none, none] [] := by
  refine Lp_J (P := fun (a : Int32 × Int64 × Int64 × Int64 × Int64 × PI) => J M X (QF M X (qL Q)) (a.2.2.2.2.2) 272 [none, none, none, none, some (.int a.1), some (.long a.2.1), none, some (.long a.2.2.1), none, none, some (.long a.2.2.2.1), none, some (.long a.2.2.2.2.1), none, none, none] []) (fun K272 hK a h => ?_) h
  obtain ⟨l4, l5, l7, l10, l12, σ⟩ := a
  have hK272 : ∀ (l4 : Int32) (l5 : Int64) (l7 : Int64) (l10 : Int64) (l12 : Int64) (σ : PI), K272 (l4, l5, l7, l10, l12, σ) → J M X (QF M X (qL Q)) σ 272 [none, none, none, none, some (.int l4), some (.long l5), none, some (.long l7), none, none, some (.long l10), none, some (.long l12), none, none, none] [] := fun l4 l5 l7 l10 l12 σ q => hK _ q
  replace h : B_X5_rain_272   K272 Q l4 l5 l7 l10 l12 σ := h
  show J M X (QF M X (qL Q)) σ 272 [none, none, none, none, some (.int l4), some (.long l5), none, some (.long l7), none, none, some (.long l10), none, some (.long l12), none, none, none] []
  unfold B_X5_rain_272 at h
  refine J_lload cx dX5_rain_272 rfl ?_
  refine J_lconst cx dX5_rain_274 (by decide : _ = ((lN 0) : Int64)) ?_
  refine J_lcmp cx dX5_rain_275 ?_
  refine J_if_eq cx (tgt := 297) dX5_rain_276 (by decide) (fun q21 => ?_) (fun q21 => ?_)
  · replace h := h.1 q21
    refine J_iload cx dX5_rain_297 rfl ?_
    refine J_if_ne cx (tgt := 310) dX5_rain_299 (by decide) (fun q22 => ?_) (fun q22 => ?_)
    · replace h := h.1 q22
      refine J_lload cx dX5_rain_310 rfl ?_
      refine J_lload cx dX5_rain_312 rfl ?_
      obtain ⟨s23, h⟩ := h
      refine J_ldiv cx dX5_rain_314 s23 ?_
      exact J_lret cx dX5_rain_315 h
    · replace h := h.2 q22
      refine J_lload cx dX5_rain_302 rfl ?_
      refine J_lload cx dX5_rain_304 rfl ?_
      obtain ⟨s24, h⟩ := h
      refine J_ldiv cx dX5_rain_306 s24 ?_
      refine J_goto cx (tgt := 315) dX5_rain_307 (by decide) ?_
      exact J_lret cx dX5_rain_315 h
  · replace h := h.2 q21
    refine J_lload cx dX5_rain_279 rfl ?_
    refine J_lload cx dX5_rain_281 rfl ?_
    obtain ⟨s25, h⟩ := h
    refine J_lrem cx dX5_rain_283 s25 ?_
    refine J_topl (fun x26 e_x26 => ?_)
    replace h := h x26 e_x26
    refine J_lstore cx dX5_rain_284 (by decide) rfl rfl ?_
    refine J_lload cx dX5_rain_286 rfl ?_
    refine J_lstore cx dX5_rain_288 (by decide) rfl rfl ?_
    refine J_lload cx dX5_rain_290 rfl ?_
    refine J_lstore cx dX5_rain_292 (by decide) rfl rfl ?_
    refine J_goto cx (tgt := 272) dX5_rain_294 (by decide) ?_
    refine J_fg 14 rfl ?_
    exact hK272   _ _ _ _ _ _ h
def w_X5_rain_253 (K136 : (Int32 × Int32 × Int32 × Int32 × Int64 × Int64 × Int32 × Int32 × PI → Prop)) (Q : Int64 → PI → Prop) (l1 : Int32) (l2 : Int32) (l3 : Int32) (l4 : Int32) (l5 : Int64) (l7 : Int64) (l9 : Int32) (l10 : Int32) (σ : PI) : Prop := K136 (l1, l2, l3, l4, l5, l7, l9, (l10 + (nI 1)), σ)
set_option maxRecDepth 100000 in
set_option maxHeartbeats 4000000 in
theorem j_X5_rain_253 {M : MC} {X : XP} {Q : Int64 → PI → Prop} (K136 : (Int32 × Int32 × Int32 × Int32 × Int64 × Int64 × Int32 × Int32 × PI → Prop)) (hK136 : ∀ (l1 : Int32) (l2 : Int32) (l3 : Int32) (l4 : Int32) (l5 : Int64) (l7 : Int64) (l9 : Int32) (l10 : Int32) (σ : PI), K136 (l1, l2, l3, l4, l5, l7, l9, l10, σ) → J M X (QF M X (qL Q)) σ 136 [some (.ref (X.1 276)), some (.int l1), some (.int l2), some (.int l3), some (.int l4), some (.long l5), none, some (.long l7), none, some (.int l9), some (.int l10), none, none, none, none, none] []) (cx : Cx M X RX5 cX5_rain 16 (some .long) 5) (l1 : Int32) (l2 : Int32) (l3 : Int32) (l4 : Int32) (l5 : Int64) (l7 : Int64) (l9 : Int32) (l10 : Int32) (σ : PI) (h : w_X5_rain_253  K136 Q l1 l2 l3 l4 l5 l7 l9 l10 σ) : J M X (QF M X (qL Q)) σ 253 [some (.ref (X.1 276)), some (.int l1), some (.int l2), some (.int l3), some (.int l4), some (.long l5), none, some (.long l7), none, some (.int l9), some (.int l10), none, none, none, none, none] [] := by
  unfold w_X5_rain_253 at h
  refine J_iinc cx dX5_rain_253 rfl (by decide : _ = ((nI 1) : Int32)) (by decide) rfl rfl ?_
  refine J_goto cx (tgt := 136) dX5_rain_256 (by decide) ?_
  exact hK136   _ _ _ _ _ _ _ _ _ h
def w_X5_rain_246 (K136 : (Int32 × Int32 × Int32 × Int32 × Int64 × Int64 × Int32 × Int32 × PI → Prop)) (Q : Int64 → PI → Prop) (l1 : Int32) (l2 : Int32) (l3 : Int32) (l4 : Int32) (l7 : Int64) (l9 : Int32) (l10 : Int32) (s0 : Int64) (s1 : Int64) (σ : PI) : Prop := ∀ x40 : Int64, x40 = (s1 + s0) → (wp_X5_takeBack  σ (fun τ41 => (w_X5_rain_253  K136 Q l1 l2 l3 l4 x40 l7 l9 l10 τ41)))
set_option maxRecDepth 100000 in
set_option maxHeartbeats 4000000 in
theorem j_X5_rain_246 {M : MC} {X : XP} {Q : Int64 → PI → Prop} (K136 : (Int32 × Int32 × Int32 × Int32 × Int64 × Int64 × Int32 × Int32 × PI → Prop)) (hK136 : ∀ (l1 : Int32) (l2 : Int32) (l3 : Int32) (l4 : Int32) (l5 : Int64) (l7 : Int64) (l9 : Int32) (l10 : Int32) (σ : PI), K136 (l1, l2, l3, l4, l5, l7, l9, l10, σ) → J M X (QF M X (qL Q)) σ 136 [some (.ref (X.1 276)), some (.int l1), some (.int l2), some (.int l3), some (.int l4), some (.long l5), none, some (.long l7), none, some (.int l9), some (.int l10), none, none, none, none, none] []) (cx : Cx M X RX5 cX5_rain 16 (some .long) 5) (l1 : Int32) (l2 : Int32) (l3 : Int32) (l4 : Int32) (l7 : Int64) (l9 : Int32) (l10 : Int32) (s0 : Int64) (s1 : Int64) (σ : PI) (h : w_X5_rain_246  K136 Q l1 l2 l3 l4 l7 l9 l10 s0 s1 σ) : J M X (QF M X (qL Q)) σ 246 [some (.ref (X.1 276)), some (.int l1), some (.int l2), some (.int l3), some (.int l4), none, none, some (.long l7), none, some (.int l9), some (.int l10), none, none, none, none, none] [.long s0, .long s1] := by
  unfold w_X5_rain_246 at h
  refine J_ladd cx dX5_rain_246 ?_
  refine J_topl (fun x40 e_x40 => ?_)
  replace h := h x40 e_x40
  refine J_lstore cx dX5_rain_247 (by decide) rfl rfl ?_
  refine J_aload_n cx 0 dX5_rain_249 rfl rfl ?_
  refine J_cV cx dX5_rain_250 V_X5_201 (by decide) (by decide) rfl (ct_X5_takeBack    _ _ h) rfl rfl (Nat.le_of_ble_eq_true rfl) (k_v (fun τ41 h => ?_))
  exact j_X5_rain_253   K136 hK136 cx   _ _ _ _ _ _ _ _ _ h
def w_X5_rain_206 (K136 : (Int32 × Int32 × Int32 × Int32 × Int64 × Int64 × Int32 × Int32 × PI → Prop)) (K159 : (Int32 × Int32 × Int32 × Int32 × Int64 × Int64 × Int32 × Int32 × Int64 × Int32 × PI → Prop)) (Q : Int64 → PI → Prop) (l1 : Int32) (l2 : Int32) (l3 : Int32) (l4 : Int32) (l5 : Int64) (l7 : Int64) (l9 : Int32) (l10 : Int32) (l13 : Int32) (s0 : Int64) (s1 : Int64) (σ : PI) : Prop := ∀ x42 : Int64, x42 = (s1 * s0) → (K159 (l1, l2, l3, l4, l5, l7, l9, l10, x42, (l13 + (nI 1)), σ))
set_option maxRecDepth 100000 in
set_option maxHeartbeats 4000000 in
theorem j_X5_rain_206 {M : MC} {X : XP} {Q : Int64 → PI → Prop} (K136 : (Int32 × Int32 × Int32 × Int32 × Int64 × Int64 × Int32 × Int32 × PI → Prop)) (K159 : (Int32 × Int32 × Int32 × Int32 × Int64 × Int64 × Int32 × Int32 × Int64 × Int32 × PI → Prop)) (hK136 : ∀ (l1 : Int32) (l2 : Int32) (l3 : Int32) (l4 : Int32) (l5 : Int64) (l7 : Int64) (l9 : Int32) (l10 : Int32) (σ : PI), K136 (l1, l2, l3, l4, l5, l7, l9, l10, σ) → J M X (QF M X (qL Q)) σ 136 [some (.ref (X.1 276)), some (.int l1), some (.int l2), some (.int l3), some (.int l4), some (.long l5), none, some (.long l7), none, some (.int l9), some (.int l10), none, none, none, none, none] []) (hK159 : ∀ (l1 : Int32) (l2 : Int32) (l3 : Int32) (l4 : Int32) (l5 : Int64) (l7 : Int64) (l9 : Int32) (l10 : Int32) (l11 : Int64) (l13 : Int32) (σ : PI), K159 (l1, l2, l3, l4, l5, l7, l9, l10, l11, l13, σ) → J M X (QF M X (qL Q)) σ 159 [some (.ref (X.1 276)), some (.int l1), some (.int l2), some (.int l3), some (.int l4), some (.long l5), none, some (.long l7), none, some (.int l9), some (.int l10), some (.long l11), none, some (.int l13), none, none] []) (cx : Cx M X RX5 cX5_rain 16 (some .long) 5) (l1 : Int32) (l2 : Int32) (l3 : Int32) (l4 : Int32) (l5 : Int64) (l7 : Int64) (l9 : Int32) (l10 : Int32) (l13 : Int32) (s0 : Int64) (s1 : Int64) (σ : PI) (h : w_X5_rain_206  K136 K159 Q l1 l2 l3 l4 l5 l7 l9 l10 l13 s0 s1 σ) : J M X (QF M X (qL Q)) σ 206 [some (.ref (X.1 276)), some (.int l1), some (.int l2), some (.int l3), some (.int l4), some (.long l5), none, some (.long l7), none, some (.int l9), some (.int l10), none, none, some (.int l13), none, none] [.long s0, .long s1] := by
  unfold w_X5_rain_206 at h
  refine J_lmul cx dX5_rain_206 ?_
  refine J_topl (fun x42 e_x42 => ?_)
  replace h := h x42 e_x42
  refine J_lstore cx dX5_rain_207 (by decide) rfl rfl ?_
  refine J_iinc cx dX5_rain_209 rfl (by decide : _ = ((nI 1) : Int32)) (by decide) rfl rfl ?_
  refine J_goto cx (tgt := 159) dX5_rain_212 (by decide) ?_
  exact hK159   _ _ _ _ _ _ _ _ _ _ _ h
def B_X5_rain_159 (K136 : (Int32 × Int32 × Int32 × Int32 × Int64 × Int64 × Int32 × Int32 × PI → Prop)) (K159 : (Int32 × Int32 × Int32 × Int32 × Int64 × Int64 × Int32 × Int32 × Int64 × Int32 × PI → Prop)) (Q : Int64 → PI → Prop) (l1 : Int32) (l2 : Int32) (l3 : Int32) (l4 : Int32) (l5 : Int64) (l7 : Int64) (l9 : Int32) (l10 : Int32) (l11 : Int64) (l13 : Int32) (σ : PI) : Prop := ((σ 280 3) ≤ l13 → ∀ τ28 : PI, τ28 = up σ 276 6 l10 → (wp_X5_oneDay  τ28 (fun τ29 => (vp_in ((nI 6) + l1) 70 ∧ (((τ29 280 (((nI 6) + l1) : Int32).toNatClampNeg) < l2 → w_X5_rain_246  K136 Q l1 l2 l3 l4 l7 l9 l10 (lN 0) l5 τ29) ∧ (¬ (τ29 280 (((nI 6) + l1) : Int32).toNatClampNeg) < l2 → w_X5_rain_246  K136 Q l1 l2 l3 l4 l7 l9 l10 l11 l5 τ29)))))) ∧ (¬ (σ 280 3) ≤ l13 → wp_X5_has l9 l13 σ (fun r33 τ32 => ((¬ r33 = (nI 0) → wp_X5_has l10 l13 τ32 (fun r36 τ35 => ((r36 = (nI 0) → w_X5_rain_206  K136 K159 Q l1 l2 l3 l4 l5 l7 l9 l10 l13 (((nI 10) - l3) : Int32).toInt64 l11 τ35) ∧ (¬ r36 = (nI 0) → w_X5_rain_206  K136 K159 Q l1 l2 l3 l4 l5 l7 l9 l10 l13 (l3 : Int32).toInt64 l11 τ35)))) ∧ (r33 = (nI 0) → w_X5_rain_206  K136 K159 Q l1 l2 l3 l4 l5 l7 l9 l10 l13 (lN 1) l11 τ32))))
def w_X5_rain_159 (K136 : (Int32 × Int32 × Int32 × Int32 × Int64 × Int64 × Int32 × Int32 × PI → Prop)) (Q : Int64 → PI → Prop) (l1 : Int32) (l2 : Int32) (l3 : Int32) (l4 : Int32) (l5 : Int64) (l7 : Int64) (l9 : Int32) (l10 : Int32) (l11 : Int64) (l13 : Int32) (σ : PI) : Prop := ∃ n, Lp (fun K a => B_X5_rain_159  K136 K Q a.1 a.2.1 a.2.2.1 a.2.2.2.1 a.2.2.2.2.1 a.2.2.2.2.2.1 a.2.2.2.2.2.2.1 a.2.2.2.2.2.2.2.1 a.2.2.2.2.2.2.2.2.1 a.2.2.2.2.2.2.2.2.2.1 a.2.2.2.2.2.2.2.2.2.2) n (l1, l2, l3, l4, l5, l7, l9, l10, l11, l13, σ)
set_option maxRecDepth 100000 in
set_option maxHeartbeats 4000000 in
theorem j_X5_rain_159 {M : MC} {X : XP} {Q : Int64 → PI → Prop} (K136 : (Int32 × Int32 × Int32 × Int32 × Int64 × Int64 × Int32 × Int32 × PI → Prop)) (hK136 : ∀ (l1 : Int32) (l2 : Int32) (l3 : Int32) (l4 : Int32) (l5 : Int64) (l7 : Int64) (l9 : Int32) (l10 : Int32) (σ : PI), K136 (l1, l2, l3, l4, l5, l7, l9, l10, σ) → J M X (QF M X (qL Q)) σ 136 [some (.ref (X.1 276)), some (.int l1), some (.int l2), some (.int l3), some (.int l4), some (.long l5), none, some (.long l7), none, some (.int l9), some (.int l10), none, none, none, none, none] []) (cx : Cx M X RX5 cX5_rain 16 (some .long) 5) (l1 : Int32) (l2 : Int32) (l3 : Int32) (l4 : Int32) (l5 : Int64) (l7 : Int64) (l9 : Int32) (l10 : Int32) (l11 : Int64) (l13 : Int32) (σ : PI) (h : w_X5_rain_159  K136 Q l1 l2 l3 l4 l5 l7 l9 l10 l11 l13 σ) : J M X (QF M X (qL Q)) σ 159 [some (.ref (X.1 276)), some (.int l1), some (.int l2), some (.int l3), some (.int l4), some (.long l5), none, some (.long l7), none, some (.int l9), some (.int l10), some (.long l11), none, some (.int l13), none, none] [] := by
  refine Lp_J (P := fun (a : Int32 × Int32 × Int32 × Int32 × Int64 × Int64 × Int32 × Int32 × Int64 × Int32 × PI) => J M X (QF M X (qL Q)) (a.2.2.2.2.2.2.2.2.2.2) 159 [some (.ref (X.1 276)), some (.int a.1), some (.int a.2.1), some (.int a.2.2.1), some (.int a.2.2.2.1), some (.long a.2.2.2.2.1), none, some (.long a.2.2.2.2.2.1), none, some (.int a.2.2.2.2.2.2.1), some (.int a.2.2.2.2.2.2.2.1), some (.long a.2.2.2.2.2.2.2.2.1), none, some (.int a.2.2.2.2.2.2.2.2.2.1), none, none] []) (fun K159 hK a h => ?_) h
  obtain ⟨l1, l2, l3, l4, l5, l7, l9, l10, l11, l13, σ⟩ := a
  have hK159 : ∀ (l1 : Int32) (l2 : Int32) (l3 : Int32) (l4 : Int32) (l5 : Int64) (l7 : Int64) (l9 : Int32) (l10 : Int32) (l11 : Int64) (l13 : Int32) (σ : PI), K159 (l1, l2, l3, l4, l5, l7, l9, l10, l11, l13, σ) → J M X (QF M X (qL Q)) σ 159 [some (.ref (X.1 276)), some (.int l1), some (.int l2), some (.int l3), some (.int l4), some (.long l5), none, some (.long l7), none, some (.int l9), some (.int l10), some (.long l11), none, some (.int l13), none, none] [] := fun l1 l2 l3 l4 l5 l7 l9 l10 l11 l13 σ q => hK _ q
  replace h : B_X5_rain_159  K136 K159 Q l1 l2 l3 l4 l5 l7 l9 l10 l11 l13 σ := h
  show J M X (QF M X (qL Q)) σ 159 [some (.ref (X.1 276)), some (.int l1), some (.int l2), some (.int l3), some (.int l4), some (.long l5), none, some (.long l7), none, some (.int l9), some (.int l10), some (.long l11), none, some (.int l13), none, none] []
  unfold B_X5_rain_159 at h
  refine J_iload cx dX5_rain_159 rfl ?_
  refine J_aload_n cx 0 dX5_rain_161 rfl rfl ?_
  refine J_getR cx (j := 280) dX5_rain_162 F_X5_19 (by decide) rfl rfl rfl ?_
  refine J_iconst cx dX5_rain_165 (by decide : _ = ((nI 3) : Int32)) ?_
  refine J_iald cx dX5_rain_166 (by decide) rfl (vpl (by decide)) ?_
  refine J_icmp_ge cx (tgt := 215) dX5_rain_167 (by decide) (fun q27 => ?_) (fun q27 => ?_)
  · replace h := h.1 q27
    refine J_aload_n cx 0 dX5_rain_215 rfl rfl ?_
    refine J_iload cx dX5_rain_216 rfl ?_
    refine J_putI cx dX5_rain_218 (P_X5_148 _) (by decide) rfl rfl ?_
    refine J_nm (fun τ28 e_τ28 => ?_)
    replace h := h τ28 e_τ28
    refine J_aload_n cx 0 dX5_rain_221 rfl rfl ?_
    refine J_cV cx dX5_rain_222 V_X5_173 (by decide) (by decide) rfl (ct_X5_oneDay    _ _ h) rfl rfl (Nat.le_of_ble_eq_true rfl) (k_v (fun τ29 h => ?_))
    refine J_lload cx dX5_rain_225 rfl ?_
    refine J_aload_n cx 0 dX5_rain_227 rfl rfl ?_
    refine J_getR cx (j := 280) dX5_rain_228 F_X5_19 (by decide) rfl rfl rfl ?_
    refine J_bipush cx dX5_rain_231 (by decide : _ = ((nI 6) : Int32)) ?_
    refine J_iload_n cx 1 dX5_rain_233 rfl rfl ?_
    refine J_iadd cx dX5_rain_234 ?_
    obtain ⟨s30, h⟩ := h
    refine J_iald cx dX5_rain_235 (by decide) rfl s30 ?_
    refine J_iload_n cx 2 dX5_rain_236 rfl rfl ?_
    refine J_icmp_lt cx (tgt := 245) dX5_rain_237 (by decide) (fun q31 => ?_) (fun q31 => ?_)
    · replace h := h.1 q31
      refine J_lconst cx dX5_rain_245 (by decide : _ = ((lN 0) : Int64)) ?_
      refine J_fg 5 rfl ?_
      refine J_fg 11 rfl ?_
      refine J_fg 13 rfl ?_
      exact j_X5_rain_246   K136 hK136 cx   _ _ _ _ _ _ _ _ _ _ h
    · replace h := h.2 q31
      refine J_lload cx dX5_rain_240 rfl ?_
      refine J_goto cx (tgt := 246) dX5_rain_242 (by decide) ?_
      refine J_fg 5 rfl ?_
      refine J_fg 11 rfl ?_
      refine J_fg 13 rfl ?_
      exact j_X5_rain_246   K136 hK136 cx   _ _ _ _ _ _ _ _ _ _ h
  · replace h := h.2 q27
    refine J_lload cx dX5_rain_170 rfl ?_
    refine J_iload cx dX5_rain_172 rfl ?_
    refine J_iload cx dX5_rain_174 rfl ?_
    refine J_cS cx dX5_rain_176 S_X5_151 (by decide) (ct_X5_has   _ _ _ _ h) rfl rfl (Nat.le_of_ble_eq_true rfl) (k_i (fun r33 τ32 h => ?_))
    refine J_if_ne cx (tgt := 186) dX5_rain_179 (by decide) (fun q34 => ?_) (fun q34 => ?_)
    · replace h := h.1 q34
      refine J_iload cx dX5_rain_186 rfl ?_
      refine J_iload cx dX5_rain_188 rfl ?_
      refine J_cS cx dX5_rain_190 S_X5_151 (by decide) (ct_X5_has   _ _ _ _ h) rfl rfl (Nat.le_of_ble_eq_true rfl) (k_i (fun r36 τ35 h => ?_))
      refine J_if_eq cx (tgt := 201) dX5_rain_193 (by decide) (fun q37 => ?_) (fun q37 => ?_)
      · replace h := h.1 q37
        refine J_bipush cx dX5_rain_201 (by decide : _ = ((nI 10) : Int32)) ?_
        refine J_iload_n cx 3 dX5_rain_203 rfl rfl ?_
        refine J_isub cx dX5_rain_204 ?_
        refine J_i2l cx dX5_rain_205 ?_
        refine J_fg 11 rfl ?_
        exact j_X5_rain_206   K136 K159 hK136 hK159 cx   _ _ _ _ _ _ _ _ _ _ _ _ h
      · replace h := h.2 q37
        refine J_iload_n cx 3 dX5_rain_196 rfl rfl ?_
        refine J_i2l cx dX5_rain_197 ?_
        refine J_goto cx (tgt := 206) dX5_rain_198 (by decide) ?_
        refine J_fg 11 rfl ?_
        exact j_X5_rain_206   K136 K159 hK136 hK159 cx   _ _ _ _ _ _ _ _ _ _ _ _ h
    · replace h := h.2 q34
      refine J_lconst cx dX5_rain_182 (by decide : _ = ((lN 1) : Int64)) ?_
      refine J_goto cx (tgt := 206) dX5_rain_183 (by decide) ?_
      refine J_fg 11 rfl ?_
      exact j_X5_rain_206   K136 K159 hK136 hK159 cx   _ _ _ _ _ _ _ _ _ _ _ _ h
def B_X5_rain_136 (K136 : (Int32 × Int32 × Int32 × Int32 × Int64 × Int64 × Int32 × Int32 × PI → Prop)) (Q : Int64 → PI → Prop) (l1 : Int32) (l2 : Int32) (l3 : Int32) (l4 : Int32) (l5 : Int64) (l7 : Int64) (l9 : Int32) (l10 : Int32) (σ : PI) : Prop := (l9 < l10 → ∀ τ18 : PI, τ18 = up σ 276 6 (nI 0) → (w_X5_rain_272   Q l4 l5 l7 l5 l7 τ18)) ∧ (¬ l9 < l10 → (¬ (l10 &&& (l9 ^^^ (-1))) = (nI 0) → w_X5_rain_253  K136 Q l1 l2 l3 l4 l5 l7 l9 l10 σ) ∧ ((l10 &&& (l9 ^^^ (-1))) = (nI 0) → w_X5_rain_159  K136 Q l1 l2 l3 l4 l5 l7 l9 l10 (lN 1) (nI 0) σ))
def w_X5_rain_136 (Q : Int64 → PI → Prop) (l1 : Int32) (l2 : Int32) (l3 : Int32) (l4 : Int32) (l5 : Int64) (l7 : Int64) (l9 : Int32) (l10 : Int32) (σ : PI) : Prop := ∃ n, Lp (fun K a => B_X5_rain_136   K Q a.1 a.2.1 a.2.2.1 a.2.2.2.1 a.2.2.2.2.1 a.2.2.2.2.2.1 a.2.2.2.2.2.2.1 a.2.2.2.2.2.2.2.1 a.2.2.2.2.2.2.2.2) n (l1, l2, l3, l4, l5, l7, l9, l10, σ)
set_option maxRecDepth 100000 in
set_option maxHeartbeats 4000000 in
theorem j_X5_rain_136 {M : MC} {X : XP} {Q : Int64 → PI → Prop} (cx : Cx M X RX5 cX5_rain 16 (some .long) 5) (l1 : Int32) (l2 : Int32) (l3 : Int32) (l4 : Int32) (l5 : Int64) (l7 : Int64) (l9 : Int32) (l10 : Int32) (σ : PI) (h : w_X5_rain_136   Q l1 l2 l3 l4 l5 l7 l9 l10 σ) : J M X (QF M X (qL Q)) σ 136 [some (.ref (X.1 276)), some (.int l1), some (.int l2), some (.int l3), some (.int l4), some (.long l5), none, some (.long l7), none, some (.int l9), some (.int l10), none, none, none, none, none] [] := by
  refine Lp_J (P := fun (a : Int32 × Int32 × Int32 × Int32 × Int64 × Int64 × Int32 × Int32 × PI) => J M X (QF M X (qL Q)) (a.2.2.2.2.2.2.2.2) 136 [some (.ref (X.1 276)), some (.int a.1), some (.int a.2.1), some (.int a.2.2.1), some (.int a.2.2.2.1), some (.long a.2.2.2.2.1), none, some (.long a.2.2.2.2.2.1), none, some (.int a.2.2.2.2.2.2.1), some (.int a.2.2.2.2.2.2.2.1), none, none, none, none, none] []) (fun K136 hK a h => ?_) h
  obtain ⟨l1, l2, l3, l4, l5, l7, l9, l10, σ⟩ := a
  have hK136 : ∀ (l1 : Int32) (l2 : Int32) (l3 : Int32) (l4 : Int32) (l5 : Int64) (l7 : Int64) (l9 : Int32) (l10 : Int32) (σ : PI), K136 (l1, l2, l3, l4, l5, l7, l9, l10, σ) → J M X (QF M X (qL Q)) σ 136 [some (.ref (X.1 276)), some (.int l1), some (.int l2), some (.int l3), some (.int l4), some (.long l5), none, some (.long l7), none, some (.int l9), some (.int l10), none, none, none, none, none] [] := fun l1 l2 l3 l4 l5 l7 l9 l10 σ q => hK _ q
  replace h : B_X5_rain_136   K136 Q l1 l2 l3 l4 l5 l7 l9 l10 σ := h
  show J M X (QF M X (qL Q)) σ 136 [some (.ref (X.1 276)), some (.int l1), some (.int l2), some (.int l3), some (.int l4), some (.long l5), none, some (.long l7), none, some (.int l9), some (.int l10), none, none, none, none, none] []
  unfold B_X5_rain_136 at h
  refine J_iload cx dX5_rain_136 rfl ?_
  refine J_iload cx dX5_rain_138 rfl ?_
  refine J_icmp_gt cx (tgt := 259) dX5_rain_140 (by decide) (fun q17 => ?_) (fun q17 => ?_)
  · replace h := h.1 q17
    refine J_aload_n cx 0 dX5_rain_259 rfl rfl ?_
    refine J_iconst cx dX5_rain_260 (by decide : _ = ((nI 0) : Int32)) ?_
    refine J_putI cx dX5_rain_261 (P_X5_148 _) (by decide) rfl rfl ?_
    refine J_nm (fun τ18 e_τ18 => ?_)
    replace h := h τ18 e_τ18
    refine J_lload cx dX5_rain_264 rfl ?_
    refine J_lstore cx dX5_rain_266 (by decide) rfl rfl ?_
    refine J_lload cx dX5_rain_268 rfl ?_
    refine J_lstore cx dX5_rain_270 (by decide) rfl rfl ?_
    refine J_fg 0 rfl ?_
    refine J_fg 1 rfl ?_
    refine J_fg 2 rfl ?_
    refine J_fg 3 rfl ?_
    refine J_fg 9 rfl ?_
    exact j_X5_rain_272     cx   _ _ _ _ _ _ h
  · replace h := h.2 q17
    refine J_iload cx dX5_rain_143 rfl ?_
    refine J_iload cx dX5_rain_145 rfl ?_
    refine J_iconst cx dX5_rain_147 (by decide : _ = ((-1) : Int32)) ?_
    refine J_ixor cx dX5_rain_148 ?_
    refine J_iand cx dX5_rain_149 ?_
    refine J_if_ne cx (tgt := 253) dX5_rain_150 (by decide) (fun q19 => ?_) (fun q19 => ?_)
    · replace h := h.1 q19
      exact j_X5_rain_253   K136 hK136 cx   _ _ _ _ _ _ _ _ _ h
    · replace h := h.2 q19
      refine J_lconst cx dX5_rain_153 (by decide : _ = ((lN 1) : Int64)) ?_
      refine J_lstore cx dX5_rain_154 (by decide) rfl rfl ?_
      refine J_iconst cx dX5_rain_156 (by decide : _ = ((nI 0) : Int32)) ?_
      refine J_istore cx dX5_rain_157 (by decide) rfl rfl ?_
      exact j_X5_rain_159   K136 hK136 cx   _ _ _ _ _ _ _ _ _ _ _ h
def w_X5_rain_124 (K60 : (Int32 × Int32 × Int32 × Int32 × Int64 × Int64 × Int32 × Int32 × PI → Prop)) (Q : Int64 → PI → Prop) (l1 : Int32) (l2 : Int32) (l3 : Int32) (l4 : Int32) (l5 : Int64) (l9 : Int32) (l10 : Int32) (s0 : Int64) (s1 : Int64) (σ : PI) : Prop := ∀ x43 : Int64, x43 = (s1 * s0) → (K60 (l1, l2, l3, l4, l5, x43, l9, (l10 + (nI 1)), σ))
set_option maxRecDepth 100000 in
set_option maxHeartbeats 4000000 in
theorem j_X5_rain_124 {M : MC} {X : XP} {Q : Int64 → PI → Prop} (K60 : (Int32 × Int32 × Int32 × Int32 × Int64 × Int64 × Int32 × Int32 × PI → Prop)) (hK60 : ∀ (l1 : Int32) (l2 : Int32) (l3 : Int32) (l4 : Int32) (l5 : Int64) (l7 : Int64) (l9 : Int32) (l10 : Int32) (σ : PI), K60 (l1, l2, l3, l4, l5, l7, l9, l10, σ) → J M X (QF M X (qL Q)) σ 60 [some (.ref (X.1 276)), some (.int l1), some (.int l2), some (.int l3), some (.int l4), some (.long l5), none, some (.long l7), none, some (.int l9), some (.int l10), none, none, none, none, none] []) (cx : Cx M X RX5 cX5_rain 16 (some .long) 5) (l1 : Int32) (l2 : Int32) (l3 : Int32) (l4 : Int32) (l5 : Int64) (l9 : Int32) (l10 : Int32) (s0 : Int64) (s1 : Int64) (σ : PI) (h : w_X5_rain_124  K60 Q l1 l2 l3 l4 l5 l9 l10 s0 s1 σ) : J M X (QF M X (qL Q)) σ 124 [some (.ref (X.1 276)), some (.int l1), some (.int l2), some (.int l3), some (.int l4), some (.long l5), none, none, none, some (.int l9), some (.int l10), none, none, none, none, none] [.long s0, .long s1] := by
  unfold w_X5_rain_124 at h
  refine J_lmul cx dX5_rain_124 ?_
  refine J_topl (fun x43 e_x43 => ?_)
  replace h := h x43 e_x43
  refine J_lstore cx dX5_rain_125 (by decide) rfl rfl ?_
  refine J_iinc cx dX5_rain_127 rfl (by decide : _ = ((nI 1) : Int32)) (by decide) rfl rfl ?_
  refine J_goto cx (tgt := 60) dX5_rain_130 (by decide) ?_
  exact hK60   _ _ _ _ _ _ _ _ _ h
def w_X5_rain_107 (K60 : (Int32 × Int32 × Int32 × Int32 × Int64 × Int64 × Int32 × Int32 × PI → Prop)) (Q : Int64 → PI → Prop) (l1 : Int32) (l2 : Int32) (l3 : Int32) (l4 : Int32) (l5 : Int64) (l7 : Int64) (l10 : Int32) (l11 : Int32) (s0 : Int32) (s1 : Int32) (σ : PI) : Prop := ∀ x38 : Int32, x38 = (s1 ||| s0) → ((l11 = (nI 0) → w_X5_rain_124  K60 Q l1 l2 l3 l4 l5 x38 l10 (lN 1) l7 σ) ∧ (¬ l11 = (nI 0) → w_X5_rain_124  K60 Q l1 l2 l3 l4 l5 x38 l10 (lN 10) l7 σ))
set_option maxRecDepth 100000 in
set_option maxHeartbeats 4000000 in
theorem j_X5_rain_107 {M : MC} {X : XP} {Q : Int64 → PI → Prop} (K60 : (Int32 × Int32 × Int32 × Int32 × Int64 × Int64 × Int32 × Int32 × PI → Prop)) (hK60 : ∀ (l1 : Int32) (l2 : Int32) (l3 : Int32) (l4 : Int32) (l5 : Int64) (l7 : Int64) (l9 : Int32) (l10 : Int32) (σ : PI), K60 (l1, l2, l3, l4, l5, l7, l9, l10, σ) → J M X (QF M X (qL Q)) σ 60 [some (.ref (X.1 276)), some (.int l1), some (.int l2), some (.int l3), some (.int l4), some (.long l5), none, some (.long l7), none, some (.int l9), some (.int l10), none, none, none, none, none] []) (cx : Cx M X RX5 cX5_rain 16 (some .long) 5) (l1 : Int32) (l2 : Int32) (l3 : Int32) (l4 : Int32) (l5 : Int64) (l7 : Int64) (l10 : Int32) (l11 : Int32) (s0 : Int32) (s1 : Int32) (σ : PI) (h : w_X5_rain_107  K60 Q l1 l2 l3 l4 l5 l7 l10 l11 s0 s1 σ) : J M X (QF M X (qL Q)) σ 107 [some (.ref (X.1 276)), some (.int l1), some (.int l2), some (.int l3), some (.int l4), some (.long l5), none, some (.long l7), none, none, some (.int l10), some (.int l11), none, none, none, none] [.int s0, .int s1] := by
  unfold w_X5_rain_107 at h
  refine J_ior cx dX5_rain_107 ?_
  refine J_topi (fun x38 e_x38 => ?_)
  replace h := h x38 e_x38
  refine J_istore cx dX5_rain_108 (by decide) rfl rfl ?_
  refine J_lload cx dX5_rain_110 rfl ?_
  refine J_iload cx dX5_rain_112 rfl ?_
  refine J_if_eq cx (tgt := 123) dX5_rain_114 (by decide) (fun q39 => ?_) (fun q39 => ?_)
  · replace h := h.1 q39
    refine J_lconst cx dX5_rain_123 (by decide : _ = ((lN 1) : Int64)) ?_
    refine J_fg 7 rfl ?_
    refine J_fg 11 rfl ?_
    exact j_X5_rain_124   K60 hK60 cx   _ _ _ _ _ _ _ _ _ _ h
  · replace h := h.2 q39
    refine J_ldc2 cx (v := (lN 10)) dX5_rain_117 gw_1007 ?_
    refine J_goto cx (tgt := 124) dX5_rain_120 (by decide) ?_
    refine J_fg 7 rfl ?_
    refine J_fg 11 rfl ?_
    exact j_X5_rain_124   K60 hK60 cx   _ _ _ _ _ _ _ _ _ _ h
def w_X5_rain_90 (K60 : (Int32 × Int32 × Int32 × Int32 × Int64 × Int64 × Int32 × Int32 × PI → Prop)) (Q : Int64 → PI → Prop) (l1 : Int32) (l2 : Int32) (l3 : Int32) (l4 : Int32) (l5 : Int64) (l7 : Int64) (l9 : Int32) (l10 : Int32) (s0 : Int32) (σ : PI) : Prop := (s0 = (nI 0) → w_X5_rain_107  K60 Q l1 l2 l3 l4 l5 l7 l10 s0 (nI 0) l9 σ) ∧ (¬ s0 = (nI 0) → w_X5_rain_107  K60 Q l1 l2 l3 l4 l5 l7 l10 s0 ((nI 1) <<< (l10 &&& 31)) l9 σ)
set_option maxRecDepth 100000 in
set_option maxHeartbeats 4000000 in
theorem j_X5_rain_90 {M : MC} {X : XP} {Q : Int64 → PI → Prop} (K60 : (Int32 × Int32 × Int32 × Int32 × Int64 × Int64 × Int32 × Int32 × PI → Prop)) (hK60 : ∀ (l1 : Int32) (l2 : Int32) (l3 : Int32) (l4 : Int32) (l5 : Int64) (l7 : Int64) (l9 : Int32) (l10 : Int32) (σ : PI), K60 (l1, l2, l3, l4, l5, l7, l9, l10, σ) → J M X (QF M X (qL Q)) σ 60 [some (.ref (X.1 276)), some (.int l1), some (.int l2), some (.int l3), some (.int l4), some (.long l5), none, some (.long l7), none, some (.int l9), some (.int l10), none, none, none, none, none] []) (cx : Cx M X RX5 cX5_rain 16 (some .long) 5) (l1 : Int32) (l2 : Int32) (l3 : Int32) (l4 : Int32) (l5 : Int64) (l7 : Int64) (l9 : Int32) (l10 : Int32) (s0 : Int32) (σ : PI) (h : w_X5_rain_90  K60 Q l1 l2 l3 l4 l5 l7 l9 l10 s0 σ) : J M X (QF M X (qL Q)) σ 90 [some (.ref (X.1 276)), some (.int l1), some (.int l2), some (.int l3), some (.int l4), some (.long l5), none, some (.long l7), none, some (.int l9), some (.int l10), none, none, none, none, none] [.int s0] := by
  unfold w_X5_rain_90 at h
  refine J_istore cx dX5_rain_90 (by decide) rfl rfl ?_
  refine J_iload cx dX5_rain_92 rfl ?_
  refine J_iload cx dX5_rain_94 rfl ?_
  refine J_if_eq cx (tgt := 106) dX5_rain_96 (by decide) (fun q20 => ?_) (fun q20 => ?_)
  · replace h := h.1 q20
    refine J_iconst cx dX5_rain_106 (by decide : _ = ((nI 0) : Int32)) ?_
    refine J_fg 9 rfl ?_
    exact j_X5_rain_107   K60 hK60 cx   _ _ _ _ _ _ _ _ _ _ _ h
  · replace h := h.2 q20
    refine J_iconst cx dX5_rain_99 (by decide : _ = ((nI 1) : Int32)) ?_
    refine J_iload cx dX5_rain_100 rfl ?_
    refine J_ishl cx dX5_rain_102 ?_
    refine J_goto cx (tgt := 107) dX5_rain_103 (by decide) ?_
    refine J_fg 9 rfl ?_
    exact j_X5_rain_107   K60 hK60 cx   _ _ _ _ _ _ _ _ _ _ _ h
def B_X5_rain_60 (K60 : (Int32 × Int32 × Int32 × Int32 × Int64 × Int64 × Int32 × Int32 × PI → Prop)) (Q : Int64 → PI → Prop) (l1 : Int32) (l2 : Int32) (l3 : Int32) (l4 : Int32) (l5 : Int64) (l7 : Int64) (l9 : Int32) (l10 : Int32) (σ : PI) : Prop := ((σ 280 3) ≤ l10 → w_X5_rain_136   Q l1 l2 l3 l4 l5 l7 l9 (nI 0) σ) ∧ (¬ (σ 280 3) ≤ l10 → vp_in ((nI 16) + l10) 70 ∧ ((¬ (σ 280 (((nI 16) + l10) : Int32).toNatClampNeg) = (nI 5) → w_X5_rain_90  K60 Q l1 l2 l3 l4 l5 l7 l9 l10 (nI 0) σ) ∧ ((σ 280 (((nI 16) + l10) : Int32).toNatClampNeg) = (nI 5) → w_X5_rain_90  K60 Q l1 l2 l3 l4 l5 l7 l9 l10 (nI 1) σ)))
def w_X5_rain_60 (Q : Int64 → PI → Prop) (l1 : Int32) (l2 : Int32) (l3 : Int32) (l4 : Int32) (l5 : Int64) (l7 : Int64) (l9 : Int32) (l10 : Int32) (σ : PI) : Prop := ∃ n, Lp (fun K a => B_X5_rain_60   K Q a.1 a.2.1 a.2.2.1 a.2.2.2.1 a.2.2.2.2.1 a.2.2.2.2.2.1 a.2.2.2.2.2.2.1 a.2.2.2.2.2.2.2.1 a.2.2.2.2.2.2.2.2) n (l1, l2, l3, l4, l5, l7, l9, l10, σ)
set_option maxRecDepth 100000 in
set_option maxHeartbeats 4000000 in
theorem j_X5_rain_60 {M : MC} {X : XP} {Q : Int64 → PI → Prop} (cx : Cx M X RX5 cX5_rain 16 (some .long) 5) (l1 : Int32) (l2 : Int32) (l3 : Int32) (l4 : Int32) (l5 : Int64) (l7 : Int64) (l9 : Int32) (l10 : Int32) (σ : PI) (h : w_X5_rain_60   Q l1 l2 l3 l4 l5 l7 l9 l10 σ) : J M X (QF M X (qL Q)) σ 60 [some (.ref (X.1 276)), some (.int l1), some (.int l2), some (.int l3), some (.int l4), some (.long l5), none, some (.long l7), none, some (.int l9), some (.int l10), none, none, none, none, none] [] := by
  refine Lp_J (P := fun (a : Int32 × Int32 × Int32 × Int32 × Int64 × Int64 × Int32 × Int32 × PI) => J M X (QF M X (qL Q)) (a.2.2.2.2.2.2.2.2) 60 [some (.ref (X.1 276)), some (.int a.1), some (.int a.2.1), some (.int a.2.2.1), some (.int a.2.2.2.1), some (.long a.2.2.2.2.1), none, some (.long a.2.2.2.2.2.1), none, some (.int a.2.2.2.2.2.2.1), some (.int a.2.2.2.2.2.2.2.1), none, none, none, none, none] []) (fun K60 hK a h => ?_) h
  obtain ⟨l1, l2, l3, l4, l5, l7, l9, l10, σ⟩ := a
  have hK60 : ∀ (l1 : Int32) (l2 : Int32) (l3 : Int32) (l4 : Int32) (l5 : Int64) (l7 : Int64) (l9 : Int32) (l10 : Int32) (σ : PI), K60 (l1, l2, l3, l4, l5, l7, l9, l10, σ) → J M X (QF M X (qL Q)) σ 60 [some (.ref (X.1 276)), some (.int l1), some (.int l2), some (.int l3), some (.int l4), some (.long l5), none, some (.long l7), none, some (.int l9), some (.int l10), none, none, none, none, none] [] := fun l1 l2 l3 l4 l5 l7 l9 l10 σ q => hK _ q
  replace h : B_X5_rain_60   K60 Q l1 l2 l3 l4 l5 l7 l9 l10 σ := h
  show J M X (QF M X (qL Q)) σ 60 [some (.ref (X.1 276)), some (.int l1), some (.int l2), some (.int l3), some (.int l4), some (.long l5), none, some (.long l7), none, some (.int l9), some (.int l10), none, none, none, none, none] []
  unfold B_X5_rain_60 at h
  refine J_iload cx dX5_rain_60 rfl ?_
  refine J_aload_n cx 0 dX5_rain_62 rfl rfl ?_
  refine J_getR cx (j := 280) dX5_rain_63 F_X5_19 (by decide) rfl rfl rfl ?_
  refine J_iconst cx dX5_rain_66 (by decide : _ = ((nI 3) : Int32)) ?_
  refine J_iald cx dX5_rain_67 (by decide) rfl (vpl (by decide)) ?_
  refine J_icmp_ge cx (tgt := 133) dX5_rain_68 (by decide) (fun q14 => ?_) (fun q14 => ?_)
  · replace h := h.1 q14
    refine J_iconst cx dX5_rain_133 (by decide : _ = ((nI 0) : Int32)) ?_
    refine J_istore cx dX5_rain_134 (by decide) rfl rfl ?_
    exact j_X5_rain_136     cx   _ _ _ _ _ _ _ _ _ h
  · replace h := h.2 q14
    refine J_aload_n cx 0 dX5_rain_71 rfl rfl ?_
    refine J_getR cx (j := 280) dX5_rain_72 F_X5_19 (by decide) rfl rfl rfl ?_
    refine J_bipush cx dX5_rain_75 (by decide : _ = ((nI 16) : Int32)) ?_
    refine J_iload cx dX5_rain_77 rfl ?_
    refine J_iadd cx dX5_rain_79 ?_
    obtain ⟨s15, h⟩ := h
    refine J_iald cx dX5_rain_80 (by decide) rfl s15 ?_
    refine J_iconst cx dX5_rain_81 (by decide : _ = ((nI 5) : Int32)) ?_
    refine J_icmp_ne cx (tgt := 89) dX5_rain_82 (by decide) (fun q16 => ?_) (fun q16 => ?_)
    · replace h := h.1 q16
      refine J_iconst cx dX5_rain_89 (by decide : _ = ((nI 0) : Int32)) ?_
      exact j_X5_rain_90   K60 hK60 cx   _ _ _ _ _ _ _ _ _ _ h
    · replace h := h.2 q16
      refine J_iconst cx dX5_rain_85 (by decide : _ = ((nI 1) : Int32)) ?_
      refine J_goto cx (tgt := 90) dX5_rain_86 (by decide) ?_
      exact j_X5_rain_90   K60 hK60 cx   _ _ _ _ _ _ _ _ _ _ h
def wp_X5_rain (a0 : Int32) (a1 : Int32) (a2 : Int32) (a3 : Int32) (σ : PI) (Q : Int64 → PI → Prop) : Prop := wp_X5_isMan a0 σ (fun r2 τ1 => ((r2 = (nI 0) → Q (-1000001) τ1) ∧ (¬ r2 = (nI 0) → wp_X5_in (a1 : Int32).toInt64 (lN 0) (lN 99) τ1 (fun r5 τ4 => ((r5 = (nI 0) → Q (-1000001) τ4) ∧ (¬ r5 = (nI 0) → wp_X5_in (a2 : Int32).toInt64 (lN 0) (lN 10) τ4 (fun r8 τ7 => ((r8 = (nI 0) → Q (-1000001) τ7) ∧ (¬ r8 = (nI 0) → wp_X5_isWhat a3 τ7 (fun r11 τ10 => ((¬ r11 = (nI 0) → wp_X5_putAside  τ10 (fun τ13 => (w_X5_rain_60   Q a0 a1 a2 a3 (lN 0) (lN 1) (nI 0) (nI 0) τ13))) ∧ (r11 = (nI 0) → Q (-1000001) τ10))))))))))))
set_option maxRecDepth 100000 in
set_option maxHeartbeats 4000000 in
theorem ct_X5_rain {l : Launch} {X : XP} (a0 : Int32) (a1 : Int32) (a2 : Int32) (a3 : Int32) (σ : PI) (Q : Int64 → PI → Prop) (h : wp_X5_rain  a0 a1 a2 a3 σ Q) : Ct l yX5_rain cX5_rain 16 (some .long) 5 X [.ref (X.1 276), .int a0, .int a1, .int a2, .int a3] σ (qL Q) := by
  refine Ct_of (L := [some (.ref (X.1 276)), some (.int a0), some (.int a1), some (.int a2), some (.int a3), none, none, none, none, none, none, none, none, none, none, none]) (by decide) (Nat.le_of_ble_eq_true rfl) rfl (fun M hl cx => ?_)
  subst hl
  unfold wp_X5_rain at h
  refine J_aload_n cx 0 dX5_rain_0 rfl rfl ?_
  refine J_iload_n cx 1 dX5_rain_1 rfl rfl ?_
  refine J_cV cx dX5_rain_2 V_X5_183 (by decide) (by decide) rfl (ct_X5_isMan   _ _ _ h) rfl rfl (Nat.le_of_ble_eq_true rfl) (k_i (fun r2 τ1 h => ?_))
  refine J_if_eq cx (tgt := 40) dX5_rain_5 (by decide) (fun q3 => ?_) (fun q3 => ?_)
  · replace h := h.1 q3
    refine J_ldc2 cx (v := (-1000001)) dX5_rain_40 gw_1008 ?_
    exact J_lret cx dX5_rain_43 h
  · replace h := h.2 q3
    refine J_iload_n cx 2 dX5_rain_8 rfl rfl ?_
    refine J_i2l cx dX5_rain_9 ?_
    refine J_lconst cx dX5_rain_10 (by decide : _ = ((lN 0) : Int64)) ?_
    refine J_ldc2 cx (v := (lN 99)) dX5_rain_11 gw_930 ?_
    refine J_cS cx dX5_rain_14 S_X5_54 (by decide) (ct_X5_in   _ _ _ _ _ h) rfl rfl (Nat.le_of_ble_eq_true rfl) (k_i (fun r5 τ4 h => ?_))
    refine J_if_eq cx (tgt := 40) dX5_rain_17 (by decide) (fun q6 => ?_) (fun q6 => ?_)
    · replace h := h.1 q6
      refine J_ldc2 cx (v := (-1000001)) dX5_rain_40 gw_1008 ?_
      exact J_lret cx dX5_rain_43 h
    · replace h := h.2 q6
      refine J_iload_n cx 3 dX5_rain_20 rfl rfl ?_
      refine J_i2l cx dX5_rain_21 ?_
      refine J_lconst cx dX5_rain_22 (by decide : _ = ((lN 0) : Int64)) ?_
      refine J_ldc2 cx (v := (lN 10)) dX5_rain_23 gw_1007 ?_
      refine J_cS cx dX5_rain_26 S_X5_54 (by decide) (ct_X5_in   _ _ _ _ _ h) rfl rfl (Nat.le_of_ble_eq_true rfl) (k_i (fun r8 τ7 h => ?_))
      refine J_if_eq cx (tgt := 40) dX5_rain_29 (by decide) (fun q9 => ?_) (fun q9 => ?_)
      · replace h := h.1 q9
        refine J_ldc2 cx (v := (-1000001)) dX5_rain_40 gw_1008 ?_
        exact J_lret cx dX5_rain_43 h
      · replace h := h.2 q9
        refine J_iload cx dX5_rain_32 rfl ?_
        refine J_cS cx dX5_rain_34 S_X5_209 (by decide) (ct_X5_isWhat   _ _ _ h) rfl rfl (Nat.le_of_ble_eq_true rfl) (k_i (fun r11 τ10 h => ?_))
        refine J_if_ne cx (tgt := 44) dX5_rain_37 (by decide) (fun q12 => ?_) (fun q12 => ?_)
        · replace h := h.1 q12
          refine J_aload_n cx 0 dX5_rain_44 rfl rfl ?_
          refine J_cV cx dX5_rain_45 V_X5_194 (by decide) (by decide) rfl (ct_X5_putAside    _ _ h) rfl rfl (Nat.le_of_ble_eq_true rfl) (k_v (fun τ13 h => ?_))
          refine J_lconst cx dX5_rain_48 (by decide : _ = ((lN 0) : Int64)) ?_
          refine J_lstore cx dX5_rain_49 (by decide) rfl rfl ?_
          refine J_lconst cx dX5_rain_51 (by decide : _ = ((lN 1) : Int64)) ?_
          refine J_lstore cx dX5_rain_52 (by decide) rfl rfl ?_
          refine J_iconst cx dX5_rain_54 (by decide : _ = ((nI 0) : Int32)) ?_
          refine J_istore cx dX5_rain_55 (by decide) rfl rfl ?_
          refine J_iconst cx dX5_rain_57 (by decide : _ = ((nI 0) : Int32)) ?_
          refine J_istore cx dX5_rain_58 (by decide) rfl rfl ?_
          exact j_X5_rain_60     cx   _ _ _ _ _ _ _ _ _ h
        · replace h := h.2 q12
          refine J_ldc2 cx (v := (-1000001)) dX5_rain_40 gw_1008 ?_
          exact J_lret cx dX5_rain_43 h
def w_X5_drawn_153 (Q : Int32 → PI → Prop) (s0 : Int32) (σ : PI) : Prop := wp_X5_takeBack  σ (fun τ22 => (Q s0 τ22))
set_option maxRecDepth 100000 in
set_option maxHeartbeats 4000000 in
theorem j_X5_drawn_153 {M : MC} {X : XP} {Q : Int32 → PI → Prop} (cx : Cx M X RX5 cX5_drawn 8 (some .int) 5) (s0 : Int32) (σ : PI) (h : w_X5_drawn_153   Q s0 σ) : J M X (QF M X (qI Q)) σ 153 [some (.ref (X.1 276)), none, none, none, none, none, none, none] [.int s0] := by
  unfold w_X5_drawn_153 at h
  refine J_istore cx dX5_drawn_153 (by decide) rfl rfl ?_
  refine J_aload_n cx 0 dX5_drawn_155 rfl rfl ?_
  refine J_cV cx dX5_drawn_156 V_X5_201 (by decide) (by decide) rfl (ct_X5_takeBack    _ _ h) rfl rfl (Nat.le_of_ble_eq_true rfl) (k_v (fun τ22 h => ?_))
  refine J_iload cx dX5_drawn_159 rfl ?_
  exact J_iret cx dX5_drawn_161 h
def w_X5_drawn_131 (K58 : (Int32 × Int32 × Int64 × Int32 × Int32 × PI → Prop)) (Q : Int32 → PI → Prop) (l1 : Int32) (l3 : Int32) (l4 : Int64) (l7 : Int32) (s0 : Int32) (s1 : Int32) (σ : PI) : Prop := ∀ x25 : Int32, x25 = (s1 + s0) → (K58 (l1, l3, l4, x25, (l7 + (nI 1)), σ))
set_option maxRecDepth 100000 in
set_option maxHeartbeats 4000000 in
theorem j_X5_drawn_131 {M : MC} {X : XP} {Q : Int32 → PI → Prop} (K58 : (Int32 × Int32 × Int64 × Int32 × Int32 × PI → Prop)) (hK58 : ∀ (l1 : Int32) (l3 : Int32) (l4 : Int64) (l6 : Int32) (l7 : Int32) (σ : PI), K58 (l1, l3, l4, l6, l7, σ) → J M X (QF M X (qI Q)) σ 58 [some (.ref (X.1 276)), some (.int l1), none, some (.int l3), some (.long l4), none, some (.int l6), some (.int l7)] []) (cx : Cx M X RX5 cX5_drawn 8 (some .int) 5) (l1 : Int32) (l3 : Int32) (l4 : Int64) (l7 : Int32) (s0 : Int32) (s1 : Int32) (σ : PI) (h : w_X5_drawn_131  K58 Q l1 l3 l4 l7 s0 s1 σ) : J M X (QF M X (qI Q)) σ 131 [some (.ref (X.1 276)), some (.int l1), none, some (.int l3), some (.long l4), none, none, some (.int l7)] [.int s0, .int s1] := by
  unfold w_X5_drawn_131 at h
  refine J_iadd cx dX5_drawn_131 ?_
  refine J_topi (fun x25 e_x25 => ?_)
  replace h := h x25 e_x25
  refine J_istore cx dX5_drawn_132 (by decide) rfl rfl ?_
  refine J_iinc cx dX5_drawn_134 rfl (by decide : _ = ((nI 1) : Int32)) (by decide) rfl rfl ?_
  refine J_goto cx (tgt := 58) dX5_drawn_137 (by decide) ?_
  exact hK58   _ _ _ _ _ _ h
def w_X5_drawn_113 (K58 : (Int32 × Int32 × Int64 × Int32 × Int32 × PI → Prop)) (Q : Int32 → PI → Prop) (l1 : Int32) (l3 : Int32) (l4 : Int64) (l6 : Int32) (l7 : Int32) (σ : PI) : Prop := wp_X5_oneDay  σ (fun τ23 => (((τ23 276 17) = (nI 0) → w_X5_drawn_131  K58 Q l1 l3 l4 l7 (nI 0) l6 τ23) ∧ (¬ (τ23 276 17) = (nI 0) → w_X5_drawn_131  K58 Q l1 l3 l4 l7 (nI 1) l6 τ23)))
set_option maxRecDepth 100000 in
set_option maxHeartbeats 4000000 in
theorem j_X5_drawn_113 {M : MC} {X : XP} {Q : Int32 → PI → Prop} (K58 : (Int32 × Int32 × Int64 × Int32 × Int32 × PI → Prop)) (hK58 : ∀ (l1 : Int32) (l3 : Int32) (l4 : Int64) (l6 : Int32) (l7 : Int32) (σ : PI), K58 (l1, l3, l4, l6, l7, σ) → J M X (QF M X (qI Q)) σ 58 [some (.ref (X.1 276)), some (.int l1), none, some (.int l3), some (.long l4), none, some (.int l6), some (.int l7)] []) (cx : Cx M X RX5 cX5_drawn 8 (some .int) 5) (l1 : Int32) (l3 : Int32) (l4 : Int64) (l6 : Int32) (l7 : Int32) (σ : PI) (h : w_X5_drawn_113  K58 Q l1 l3 l4 l6 l7 σ) : J M X (QF M X (qI Q)) σ 113 [some (.ref (X.1 276)), some (.int l1), none, some (.int l3), some (.long l4), none, some (.int l6), some (.int l7)] [] := by
  unfold w_X5_drawn_113 at h
  refine J_aload_n cx 0 dX5_drawn_113 rfl rfl ?_
  refine J_cV cx dX5_drawn_114 V_X5_173 (by decide) (by decide) rfl (ct_X5_oneDay    _ _ h) rfl rfl (Nat.le_of_ble_eq_true rfl) (k_v (fun τ23 h => ?_))
  refine J_iload cx dX5_drawn_117 rfl ?_
  refine J_aload_n cx 0 dX5_drawn_119 rfl rfl ?_
  refine J_getI cx dX5_drawn_120 F_X5_161 (by decide) rfl rfl ?_
  refine J_if_eq cx (tgt := 130) dX5_drawn_123 (by decide) (fun q24 => ?_) (fun q24 => ?_)
  · replace h := h.1 q24
    refine J_iconst cx dX5_drawn_130 (by decide : _ = ((nI 0) : Int32)) ?_
    refine J_fg 6 rfl ?_
    exact j_X5_drawn_131   K58 hK58 cx   _ _ _ _ _ _ _ h
  · replace h := h.2 q24
    refine J_iconst cx dX5_drawn_126 (by decide : _ = ((nI 1) : Int32)) ?_
    refine J_goto cx (tgt := 131) dX5_drawn_127 (by decide) ?_
    refine J_fg 6 rfl ?_
    exact j_X5_drawn_131   K58 hK58 cx   _ _ _ _ _ _ _ h
def B_X5_drawn_58 (K58 : (Int32 × Int32 × Int64 × Int32 × Int32 × PI → Prop)) (Q : Int32 → PI → Prop) (l1 : Int32) (l3 : Int32) (l4 : Int64) (l6 : Int32) (l7 : Int32) (σ : PI) : Prop := (l1 ≤ l7 → (¬ l3 = (nI 0) → w_X5_drawn_153   Q l6 σ) ∧ (l3 = (nI 0) → wp_X5_allFeel  σ (fun r16 τ15 => (w_X5_drawn_153   Q r16 τ15)))) ∧ (¬ l1 ≤ l7 → ∀ x17 : Int64, x17 = ((l4 * (lN 16807)) - (l4 * (lN 16807)) / (lN 2147483647) * (lN 2147483647)) → ((¬ (lg_cmp (x17 - x17 / (lN 4) * (lN 4)) (lN 0)) = (nI 0) → w_X5_drawn_113  K58 Q l1 l3 x17 l6 l7 σ) ∧ ((lg_cmp (x17 - x17 / (lN 4) * (lN 4)) (lN 0)) = (nI 0) → ¬ ((σ 280 3) : Int32).toInt64 = (lN 0) ∧ (¬ ((σ 280 2) : Int32).toInt64 = (lN 0) ∧ (wp_X5_sendTo ((x17 - x17 / ((σ 280 3) : Int32).toInt64 * ((σ 280 3) : Int32).toInt64) : Int64).toInt32 ((x17 - x17 / ((σ 280 2) : Int32).toInt64 * ((σ 280 2) : Int32).toInt64) : Int64).toInt32 σ (fun τ21 => (w_X5_drawn_113  K58 Q l1 l3 x17 l6 l7 τ21)))))))
def w_X5_drawn_58 (Q : Int32 → PI → Prop) (l1 : Int32) (l3 : Int32) (l4 : Int64) (l6 : Int32) (l7 : Int32) (σ : PI) : Prop := ∃ n, Lp (fun K a => B_X5_drawn_58   K Q a.1 a.2.1 a.2.2.1 a.2.2.2.1 a.2.2.2.2.1 a.2.2.2.2.2) n (l1, l3, l4, l6, l7, σ)
set_option maxRecDepth 100000 in
set_option maxHeartbeats 4000000 in
theorem j_X5_drawn_58 {M : MC} {X : XP} {Q : Int32 → PI → Prop} (cx : Cx M X RX5 cX5_drawn 8 (some .int) 5) (l1 : Int32) (l3 : Int32) (l4 : Int64) (l6 : Int32) (l7 : Int32) (σ : PI) (h : w_X5_drawn_58   Q l1 l3 l4 l6 l7 σ) : J M X (QF M X (qI Q)) σ 58 [some (.ref (X.1 276)), some (.int l1), none, some (.int l3), some (.long l4), none, some (.int l6), some (.int l7)] [] := by
  refine Lp_J (P := fun (a : Int32 × Int32 × Int64 × Int32 × Int32 × PI) => J M X (QF M X (qI Q)) (a.2.2.2.2.2) 58 [some (.ref (X.1 276)), some (.int a.1), none, some (.int a.2.1), some (.long a.2.2.1), none, some (.int a.2.2.2.1), some (.int a.2.2.2.2.1)] []) (fun K58 hK a h => ?_) h
  obtain ⟨l1, l3, l4, l6, l7, σ⟩ := a
  have hK58 : ∀ (l1 : Int32) (l3 : Int32) (l4 : Int64) (l6 : Int32) (l7 : Int32) (σ : PI), K58 (l1, l3, l4, l6, l7, σ) → J M X (QF M X (qI Q)) σ 58 [some (.ref (X.1 276)), some (.int l1), none, some (.int l3), some (.long l4), none, some (.int l6), some (.int l7)] [] := fun l1 l3 l4 l6 l7 σ q => hK _ q
  replace h : B_X5_drawn_58   K58 Q l1 l3 l4 l6 l7 σ := h
  show J M X (QF M X (qI Q)) σ 58 [some (.ref (X.1 276)), some (.int l1), none, some (.int l3), some (.long l4), none, some (.int l6), some (.int l7)] []
  unfold B_X5_drawn_58 at h
  refine J_iload cx dX5_drawn_58 rfl ?_
  refine J_iload_n cx 1 dX5_drawn_60 rfl rfl ?_
  refine J_icmp_ge cx (tgt := 140) dX5_drawn_61 (by decide) (fun q13 => ?_) (fun q13 => ?_)
  · replace h := h.1 q13
    refine J_iload_n cx 3 dX5_drawn_140 rfl rfl ?_
    refine J_if_ne cx (tgt := 151) dX5_drawn_141 (by decide) (fun q14 => ?_) (fun q14 => ?_)
    · replace h := h.1 q14
      refine J_iload cx dX5_drawn_151 rfl ?_
      refine J_fg 1 rfl ?_
      refine J_fg 3 rfl ?_
      refine J_fg 4 rfl ?_
      refine J_fg 6 rfl ?_
      refine J_fg 7 rfl ?_
      exact j_X5_drawn_153     cx   _ _ h
    · replace h := h.2 q14
      refine J_aload_n cx 0 dX5_drawn_144 rfl rfl ?_
      refine J_cV cx dX5_drawn_145 V_X5_176 (by decide) (by decide) rfl (ct_X5_allFeel    _ _ h) rfl rfl (Nat.le_of_ble_eq_true rfl) (k_i (fun r16 τ15 h => ?_))
      refine J_goto cx (tgt := 153) dX5_drawn_148 (by decide) ?_
      refine J_fg 1 rfl ?_
      refine J_fg 3 rfl ?_
      refine J_fg 4 rfl ?_
      refine J_fg 6 rfl ?_
      refine J_fg 7 rfl ?_
      exact j_X5_drawn_153     cx   _ _ h
  · replace h := h.2 q13
    refine J_lload cx dX5_drawn_64 rfl ?_
    refine J_ldc2 cx (v := (lN 16807)) dX5_drawn_66 gw_1014 ?_
    refine J_lmul cx dX5_drawn_69 ?_
    refine J_ldc2 cx (v := (lN 2147483647)) dX5_drawn_70 gw_1015 ?_
    refine J_lrem cx dX5_drawn_73 (by decide) ?_
    refine J_topl (fun x17 e_x17 => ?_)
    replace h := h x17 e_x17
    refine J_lstore cx dX5_drawn_74 (by decide) rfl rfl ?_
    refine J_lload cx dX5_drawn_76 rfl ?_
    refine J_ldc2 cx (v := (lN 4)) dX5_drawn_78 gw_1016 ?_
    refine J_lrem cx dX5_drawn_81 (by decide) ?_
    refine J_lconst cx dX5_drawn_82 (by decide : _ = ((lN 0) : Int64)) ?_
    refine J_lcmp cx dX5_drawn_83 ?_
    refine J_if_ne cx (tgt := 113) dX5_drawn_84 (by decide) (fun q18 => ?_) (fun q18 => ?_)
    · replace h := h.1 q18
      exact j_X5_drawn_113   K58 hK58 cx   _ _ _ _ _ _ h
    · replace h := h.2 q18
      refine J_aload_n cx 0 dX5_drawn_87 rfl rfl ?_
      refine J_lload cx dX5_drawn_88 rfl ?_
      refine J_aload_n cx 0 dX5_drawn_90 rfl rfl ?_
      refine J_getR cx (j := 280) dX5_drawn_91 F_X5_19 (by decide) rfl rfl rfl ?_
      refine J_iconst cx dX5_drawn_94 (by decide : _ = ((nI 3) : Int32)) ?_
      refine J_iald cx dX5_drawn_95 (by decide) rfl (vpl (by decide)) ?_
      refine J_i2l cx dX5_drawn_96 ?_
      obtain ⟨s19, h⟩ := h
      refine J_lrem cx dX5_drawn_97 s19 ?_
      refine J_l2i cx dX5_drawn_98 ?_
      refine J_lload cx dX5_drawn_99 rfl ?_
      refine J_aload_n cx 0 dX5_drawn_101 rfl rfl ?_
      refine J_getR cx (j := 280) dX5_drawn_102 F_X5_19 (by decide) rfl rfl rfl ?_
      refine J_iconst cx dX5_drawn_105 (by decide : _ = ((nI 2) : Int32)) ?_
      refine J_iald cx dX5_drawn_106 (by decide) rfl (vpl (by decide)) ?_
      refine J_i2l cx dX5_drawn_107 ?_
      obtain ⟨s20, h⟩ := h
      refine J_lrem cx dX5_drawn_108 s20 ?_
      refine J_l2i cx dX5_drawn_109 ?_
      refine J_cV cx dX5_drawn_110 V_X5_186 (by decide) (by decide) rfl (ct_X5_sendTo   _ _ _ _ h) rfl rfl (Nat.le_of_ble_eq_true rfl) (k_v (fun τ21 h => ?_))
      exact j_X5_drawn_113   K58 hK58 cx   _ _ _ _ _ _ h
def wp_X5_drawn (a0 : Int32) (a1 : Int32) (a2 : Int32) (σ : PI) (Q : Int32 → PI → Prop) : Prop := (¬ (σ 276 4) = (nI 0) → wp_X5_in (a0 : Int32).toInt64 (lN 0) (lN 60) σ (fun r3 τ2 => ((r3 = (nI 0) → Q (-1000001) τ2) ∧ (¬ r3 = (nI 0) → wp_X5_in (a1 : Int32).toInt64 (lN 1) (lN 999999) τ2 (fun r6 τ5 => ((r6 = (nI 0) → Q (-1000001) τ5) ∧ (¬ r6 = (nI 0) → wp_X5_isWhat a2 τ5 (fun r9 τ8 => ((¬ r9 = (nI 0) → wp_X5_putAside  τ8 (fun τ11 => (∀ x12 : Int64, x12 = (a1 : Int32).toInt64 → (w_X5_drawn_58   Q a0 a2 x12 (nI 0) (nI 0) τ11)))) ∧ (r9 = (nI 0) → Q (-1000001) τ8)))))))))) ∧ ((σ 276 4) = (nI 0) → Q (-1000002) σ)
set_option maxRecDepth 100000 in
set_option maxHeartbeats 4000000 in
theorem ct_X5_drawn {l : Launch} {X : XP} (a0 : Int32) (a1 : Int32) (a2 : Int32) (σ : PI) (Q : Int32 → PI → Prop) (h : wp_X5_drawn  a0 a1 a2 σ Q) : Ct l yX5_drawn cX5_drawn 8 (some .int) 5 X [.ref (X.1 276), .int a0, .int a1, .int a2] σ (qI Q) := by
  refine Ct_of (L := [some (.ref (X.1 276)), some (.int a0), some (.int a1), some (.int a2), none, none, none, none]) (by decide) (Nat.le_of_ble_eq_true rfl) rfl (fun M hl cx => ?_)
  subst hl
  unfold wp_X5_drawn at h
  refine J_aload_n cx 0 dX5_drawn_0 rfl rfl ?_
  refine J_getI cx dX5_drawn_1 F_X5_135 (by decide) rfl rfl ?_
  refine J_if_ne cx (tgt := 10) dX5_drawn_4 (by decide) (fun q1 => ?_) (fun q1 => ?_)
  · replace h := h.1 q1
    refine J_iload_n cx 1 dX5_drawn_10 rfl rfl ?_
    refine J_i2l cx dX5_drawn_11 ?_
    refine J_lconst cx dX5_drawn_12 (by decide : _ = ((lN 0) : Int64)) ?_
    refine J_ldc2 cx (v := (lN 60)) dX5_drawn_13 gw_904 ?_
    refine J_cS cx dX5_drawn_16 S_X5_54 (by decide) (ct_X5_in   _ _ _ _ _ h) rfl rfl (Nat.le_of_ble_eq_true rfl) (k_i (fun r3 τ2 h => ?_))
    refine J_if_eq cx (tgt := 41) dX5_drawn_19 (by decide) (fun q4 => ?_) (fun q4 => ?_)
    · replace h := h.1 q4
      refine J_ldc cx (v := (-1000001)) dX5_drawn_41 gw_742 ?_
      exact J_iret cx dX5_drawn_43 h
    · replace h := h.2 q4
      refine J_iload_n cx 2 dX5_drawn_22 rfl rfl ?_
      refine J_i2l cx dX5_drawn_23 ?_
      refine J_lconst cx dX5_drawn_24 (by decide : _ = ((lN 1) : Int64)) ?_
      refine J_ldc2 cx (v := (lN 999999)) dX5_drawn_25 gw_1013 ?_
      refine J_cS cx dX5_drawn_28 S_X5_54 (by decide) (ct_X5_in   _ _ _ _ _ h) rfl rfl (Nat.le_of_ble_eq_true rfl) (k_i (fun r6 τ5 h => ?_))
      refine J_if_eq cx (tgt := 41) dX5_drawn_31 (by decide) (fun q7 => ?_) (fun q7 => ?_)
      · replace h := h.1 q7
        refine J_ldc cx (v := (-1000001)) dX5_drawn_41 gw_742 ?_
        exact J_iret cx dX5_drawn_43 h
      · replace h := h.2 q7
        refine J_iload_n cx 3 dX5_drawn_34 rfl rfl ?_
        refine J_cS cx dX5_drawn_35 S_X5_209 (by decide) (ct_X5_isWhat   _ _ _ h) rfl rfl (Nat.le_of_ble_eq_true rfl) (k_i (fun r9 τ8 h => ?_))
        refine J_if_ne cx (tgt := 44) dX5_drawn_38 (by decide) (fun q10 => ?_) (fun q10 => ?_)
        · replace h := h.1 q10
          refine J_aload_n cx 0 dX5_drawn_44 rfl rfl ?_
          refine J_cV cx dX5_drawn_45 V_X5_194 (by decide) (by decide) rfl (ct_X5_putAside    _ _ h) rfl rfl (Nat.le_of_ble_eq_true rfl) (k_v (fun τ11 h => ?_))
          refine J_iload_n cx 2 dX5_drawn_48 rfl rfl ?_
          refine J_i2l cx dX5_drawn_49 ?_
          refine J_topl (fun x12 e_x12 => ?_)
          replace h := h x12 e_x12
          refine J_lstore cx dX5_drawn_50 (by decide) rfl rfl ?_
          refine J_iconst cx dX5_drawn_52 (by decide : _ = ((nI 0) : Int32)) ?_
          refine J_istore cx dX5_drawn_53 (by decide) rfl rfl ?_
          refine J_iconst cx dX5_drawn_55 (by decide : _ = ((nI 0) : Int32)) ?_
          refine J_istore cx dX5_drawn_56 (by decide) rfl rfl ?_
          refine J_fg 2 rfl ?_
          exact j_X5_drawn_58     cx   _ _ _ _ _ _ h
        · replace h := h.2 q10
          refine J_ldc cx (v := (-1000001)) dX5_drawn_41 gw_742 ?_
          exact J_iret cx dX5_drawn_43 h
  · replace h := h.2 q1
    refine J_ldc cx (v := (-1000002)) dX5_drawn_7 gw_822 ?_
    exact J_iret cx dX5_drawn_9 h
def B_X5_image_25 (K25 : (Int32 × Int32 × PI → Prop)) (Q : Int32 → PI → Prop) (l1 : Int32) (l2 : Int32) (σ : PI) : Prop := ((nI 70) ≤ l2 → vp_in l1 2 ∧ (∀ τ7 : PI, τ7 = up σ 286 (l1 : Int32).toNatClampNeg (nI 1) → (Q (nI 1) τ7))) ∧ (¬ (nI 70) ≤ l2 → vp_in l2 70 ∧ (vp_in (((nI 70) * l1) + l2) 140 ∧ (∀ τ10 : PI, τ10 = up σ 287 ((((nI 70) * l1) + l2) : Int32).toNatClampNeg (σ 280 (l2 : Int32).toNatClampNeg) → (K25 (l1, (l2 + (nI 1)), τ10)))))
def w_X5_image_25 (Q : Int32 → PI → Prop) (l1 : Int32) (l2 : Int32) (σ : PI) : Prop := ∃ n, Lp (fun K a => B_X5_image_25   K Q a.1 a.2.1 a.2.2) n (l1, l2, σ)
set_option maxRecDepth 100000 in
set_option maxHeartbeats 4000000 in
theorem j_X5_image_25 {M : MC} {X : XP} {Q : Int32 → PI → Prop} (cx : Cx M X RX5 cX5_image 3 (some .int) 1) (l1 : Int32) (l2 : Int32) (σ : PI) (h : w_X5_image_25   Q l1 l2 σ) : J M X (QF M X (qI Q)) σ 25 [some (.ref (X.1 276)), some (.int l1), some (.int l2)] [] := by
  refine Lp_J (P := fun (a : Int32 × Int32 × PI) => J M X (QF M X (qI Q)) (a.2.2) 25 [some (.ref (X.1 276)), some (.int a.1), some (.int a.2.1)] []) (fun K25 hK a h => ?_) h
  obtain ⟨l1, l2, σ⟩ := a
  have hK25 : ∀ (l1 : Int32) (l2 : Int32) (σ : PI), K25 (l1, l2, σ) → J M X (QF M X (qI Q)) σ 25 [some (.ref (X.1 276)), some (.int l1), some (.int l2)] [] := fun l1 l2 σ q => hK _ q
  replace h : B_X5_image_25   K25 Q l1 l2 σ := h
  show J M X (QF M X (qI Q)) σ 25 [some (.ref (X.1 276)), some (.int l1), some (.int l2)] []
  unfold B_X5_image_25 at h
  refine J_iload_n cx 2 dX5_image_25 rfl rfl ?_
  refine J_bipush cx dX5_image_26 (by decide : _ = ((nI 70) : Int32)) ?_
  refine J_icmp_ge cx (tgt := 54) dX5_image_28 (by decide) (fun q5 => ?_) (fun q5 => ?_)
  · replace h := h.1 q5
    refine J_aload_n cx 0 dX5_image_54 rfl rfl ?_
    refine J_getR cx (j := 286) dX5_image_55 F_X5_37 (by decide) rfl rfl rfl ?_
    refine J_iload_n cx 1 dX5_image_58 rfl rfl ?_
    refine J_iconst cx dX5_image_59 (by decide : _ = ((nI 1) : Int32)) ?_
    obtain ⟨s6, h⟩ := h
    refine J_zast cx dX5_image_60 (by decide) rfl rfl s6 ?_
    refine J_nm (fun τ7 e_τ7 => ?_)
    replace h := h τ7 e_τ7
    refine J_iconst cx dX5_image_61 (by decide : _ = ((nI 1) : Int32)) ?_
    exact J_iret cx dX5_image_62 h
  · replace h := h.2 q5
    refine J_aload_n cx 0 dX5_image_31 rfl rfl ?_
    refine J_getR cx (j := 287) dX5_image_32 F_X5_41 (by decide) rfl rfl rfl ?_
    refine J_bipush cx dX5_image_35 (by decide : _ = ((nI 70) : Int32)) ?_
    refine J_iload_n cx 1 dX5_image_37 rfl rfl ?_
    refine J_imul cx dX5_image_38 ?_
    refine J_iload_n cx 2 dX5_image_39 rfl rfl ?_
    refine J_iadd cx dX5_image_40 ?_
    refine J_aload_n cx 0 dX5_image_41 rfl rfl ?_
    refine J_getR cx (j := 280) dX5_image_42 F_X5_19 (by decide) rfl rfl rfl ?_
    refine J_iload_n cx 2 dX5_image_45 rfl rfl ?_
    obtain ⟨s8, h⟩ := h
    refine J_iald cx dX5_image_46 (by decide) rfl s8 ?_
    obtain ⟨s9, h⟩ := h
    refine J_iast cx dX5_image_47 (by decide) rfl s9 ?_
    refine J_nm (fun τ10 e_τ10 => ?_)
    replace h := h τ10 e_τ10
    refine J_iinc cx dX5_image_48 rfl (by decide : _ = ((nI 1) : Int32)) (by decide) rfl rfl ?_
    refine J_goto cx (tgt := 25) dX5_image_51 (by decide) ?_
    exact hK25   _ _ _ h
def wp_X5_image (a0 : Int32) (σ : PI) (Q : Int32 → PI → Prop) : Prop := wp_X5_in (a0 : Int32).toInt64 (lN 0) (lN 1) σ (fun r2 τ1 => ((¬ r2 = (nI 0) → (¬ (τ1 276 4) = (nI 0) → w_X5_image_25   Q a0 (nI 0) τ1) ∧ ((τ1 276 4) = (nI 0) → Q (-1000002) τ1)) ∧ (r2 = (nI 0) → Q (-1000001) τ1)))
set_option maxRecDepth 100000 in
set_option maxHeartbeats 4000000 in
theorem ct_X5_image {l : Launch} {X : XP} (a0 : Int32) (σ : PI) (Q : Int32 → PI → Prop) (h : wp_X5_image  a0 σ Q) : Ct l yX5_image cX5_image 3 (some .int) 1 X [.ref (X.1 276), .int a0] σ (qI Q) := by
  refine Ct_of (L := [some (.ref (X.1 276)), some (.int a0), none]) (by decide) (Nat.le_of_ble_eq_true rfl) rfl (fun M hl cx => ?_)
  subst hl
  unfold wp_X5_image at h
  refine J_iload_n cx 1 dX5_image_0 rfl rfl ?_
  refine J_i2l cx dX5_image_1 ?_
  refine J_lconst cx dX5_image_2 (by decide : _ = ((lN 0) : Int64)) ?_
  refine J_lconst cx dX5_image_3 (by decide : _ = ((lN 1) : Int64)) ?_
  refine J_cS cx dX5_image_4 S_X5_54 (by decide) (ct_X5_in   _ _ _ _ _ h) rfl rfl (Nat.le_of_ble_eq_true rfl) (k_i (fun r2 τ1 h => ?_))
  refine J_if_ne cx (tgt := 13) dX5_image_7 (by decide) (fun q3 => ?_) (fun q3 => ?_)
  · replace h := h.1 q3
    refine J_aload_n cx 0 dX5_image_13 rfl rfl ?_
    refine J_getI cx dX5_image_14 F_X5_135 (by decide) rfl rfl ?_
    refine J_if_ne cx (tgt := 23) dX5_image_17 (by decide) (fun q4 => ?_) (fun q4 => ?_)
    · replace h := h.1 q4
      refine J_iconst cx dX5_image_23 (by decide : _ = ((nI 0) : Int32)) ?_
      refine J_istore_n cx 2 dX5_image_24 rfl (by decide) rfl rfl ?_
      exact j_X5_image_25     cx   _ _ _ h
    · replace h := h.2 q4
      refine J_ldc cx (v := (-1000002)) dX5_image_20 gw_822 ?_
      exact J_iret cx dX5_image_22 h
  · replace h := h.2 q3
    refine J_ldc cx (v := (-1000001)) dX5_image_10 gw_742 ?_
    exact J_iret cx dX5_image_12 h
def B_X5_restore_27 (K27 : (Int32 × Int32 × PI → Prop)) (Q : Int32 → PI → Prop) (l1 : Int32) (l2 : Int32) (σ : PI) : Prop := ((nI 70) ≤ l2 → ∀ τ7 : PI, τ7 = up σ 276 19 (nI 0) → (Q (nI 1) τ7)) ∧ (¬ (nI 70) ≤ l2 → vp_in (((nI 70) * l1) + l2) 140 ∧ (vp_in l2 70 ∧ (∀ τ10 : PI, τ10 = up σ 280 (l2 : Int32).toNatClampNeg (σ 287 ((((nI 70) * l1) + l2) : Int32).toNatClampNeg) → (K27 (l1, (l2 + (nI 1)), τ10)))))
def w_X5_restore_27 (Q : Int32 → PI → Prop) (l1 : Int32) (l2 : Int32) (σ : PI) : Prop := ∃ n, Lp (fun K a => B_X5_restore_27   K Q a.1 a.2.1 a.2.2) n (l1, l2, σ)
set_option maxRecDepth 100000 in
set_option maxHeartbeats 4000000 in
theorem j_X5_restore_27 {M : MC} {X : XP} {Q : Int32 → PI → Prop} (cx : Cx M X RX5 cX5_restore 3 (some .int) 1) (l1 : Int32) (l2 : Int32) (σ : PI) (h : w_X5_restore_27   Q l1 l2 σ) : J M X (QF M X (qI Q)) σ 27 [some (.ref (X.1 276)), some (.int l1), some (.int l2)] [] := by
  refine Lp_J (P := fun (a : Int32 × Int32 × PI) => J M X (QF M X (qI Q)) (a.2.2) 27 [some (.ref (X.1 276)), some (.int a.1), some (.int a.2.1)] []) (fun K27 hK a h => ?_) h
  obtain ⟨l1, l2, σ⟩ := a
  have hK27 : ∀ (l1 : Int32) (l2 : Int32) (σ : PI), K27 (l1, l2, σ) → J M X (QF M X (qI Q)) σ 27 [some (.ref (X.1 276)), some (.int l1), some (.int l2)] [] := fun l1 l2 σ q => hK _ q
  replace h : B_X5_restore_27   K27 Q l1 l2 σ := h
  show J M X (QF M X (qI Q)) σ 27 [some (.ref (X.1 276)), some (.int l1), some (.int l2)] []
  unfold B_X5_restore_27 at h
  refine J_iload_n cx 2 dX5_restore_27 rfl rfl ?_
  refine J_bipush cx dX5_restore_28 (by decide : _ = ((nI 70) : Int32)) ?_
  refine J_icmp_ge cx (tgt := 56) dX5_restore_30 (by decide) (fun q6 => ?_) (fun q6 => ?_)
  · replace h := h.1 q6
    refine J_aload_n cx 0 dX5_restore_56 rfl rfl ?_
    refine J_iconst cx dX5_restore_57 (by decide : _ = ((nI 0) : Int32)) ?_
    refine J_putI cx dX5_restore_58 (P_X5_139 _) (by decide) rfl rfl ?_
    refine J_nm (fun τ7 e_τ7 => ?_)
    replace h := h τ7 e_τ7
    refine J_iconst cx dX5_restore_61 (by decide : _ = ((nI 1) : Int32)) ?_
    exact J_iret cx dX5_restore_62 h
  · replace h := h.2 q6
    refine J_aload_n cx 0 dX5_restore_33 rfl rfl ?_
    refine J_getR cx (j := 280) dX5_restore_34 F_X5_19 (by decide) rfl rfl rfl ?_
    refine J_iload_n cx 2 dX5_restore_37 rfl rfl ?_
    refine J_aload_n cx 0 dX5_restore_38 rfl rfl ?_
    refine J_getR cx (j := 287) dX5_restore_39 F_X5_41 (by decide) rfl rfl rfl ?_
    refine J_bipush cx dX5_restore_42 (by decide : _ = ((nI 70) : Int32)) ?_
    refine J_iload_n cx 1 dX5_restore_44 rfl rfl ?_
    refine J_imul cx dX5_restore_45 ?_
    refine J_iload_n cx 2 dX5_restore_46 rfl rfl ?_
    refine J_iadd cx dX5_restore_47 ?_
    obtain ⟨s8, h⟩ := h
    refine J_iald cx dX5_restore_48 (by decide) rfl s8 ?_
    obtain ⟨s9, h⟩ := h
    refine J_iast cx dX5_restore_49 (by decide) rfl s9 ?_
    refine J_nm (fun τ10 e_τ10 => ?_)
    replace h := h τ10 e_τ10
    refine J_iinc cx dX5_restore_50 rfl (by decide : _ = ((nI 1) : Int32)) (by decide) rfl rfl ?_
    refine J_goto cx (tgt := 27) dX5_restore_53 (by decide) ?_
    exact hK27   _ _ _ h
def wp_X5_restore (a0 : Int32) (σ : PI) (Q : Int32 → PI → Prop) : Prop := wp_X5_in (a0 : Int32).toInt64 (lN 0) (lN 1) σ (fun r2 τ1 => ((¬ r2 = (nI 0) → vp_in a0 2 ∧ ((¬ (τ1 286 (a0 : Int32).toNatClampNeg) = (nI 0) → w_X5_restore_27   Q a0 (nI 0) τ1) ∧ ((τ1 286 (a0 : Int32).toNatClampNeg) = (nI 0) → Q (-1000002) τ1))) ∧ (r2 = (nI 0) → Q (-1000001) τ1)))
set_option maxRecDepth 100000 in
set_option maxHeartbeats 4000000 in
theorem ct_X5_restore {l : Launch} {X : XP} (a0 : Int32) (σ : PI) (Q : Int32 → PI → Prop) (h : wp_X5_restore  a0 σ Q) : Ct l yX5_restore cX5_restore 3 (some .int) 1 X [.ref (X.1 276), .int a0] σ (qI Q) := by
  refine Ct_of (L := [some (.ref (X.1 276)), some (.int a0), none]) (by decide) (Nat.le_of_ble_eq_true rfl) rfl (fun M hl cx => ?_)
  subst hl
  unfold wp_X5_restore at h
  refine J_iload_n cx 1 dX5_restore_0 rfl rfl ?_
  refine J_i2l cx dX5_restore_1 ?_
  refine J_lconst cx dX5_restore_2 (by decide : _ = ((lN 0) : Int64)) ?_
  refine J_lconst cx dX5_restore_3 (by decide : _ = ((lN 1) : Int64)) ?_
  refine J_cS cx dX5_restore_4 S_X5_54 (by decide) (ct_X5_in   _ _ _ _ _ h) rfl rfl (Nat.le_of_ble_eq_true rfl) (k_i (fun r2 τ1 h => ?_))
  refine J_if_ne cx (tgt := 13) dX5_restore_7 (by decide) (fun q3 => ?_) (fun q3 => ?_)
  · replace h := h.1 q3
    refine J_aload_n cx 0 dX5_restore_13 rfl rfl ?_
    refine J_getR cx (j := 286) dX5_restore_14 F_X5_37 (by decide) rfl rfl rfl ?_
    refine J_iload_n cx 1 dX5_restore_17 rfl rfl ?_
    obtain ⟨s4, h⟩ := h
    refine J_zald cx dX5_restore_18 (by decide) rfl s4 ?_
    refine J_if_ne cx (tgt := 25) dX5_restore_19 (by decide) (fun q5 => ?_) (fun q5 => ?_)
    · replace h := h.1 q5
      refine J_iconst cx dX5_restore_25 (by decide : _ = ((nI 0) : Int32)) ?_
      refine J_istore_n cx 2 dX5_restore_26 rfl (by decide) rfl rfl ?_
      exact j_X5_restore_27     cx   _ _ _ h
    · replace h := h.2 q5
      refine J_ldc cx (v := (-1000002)) dX5_restore_22 gw_822 ?_
      exact J_iret cx dX5_restore_24 h
  · replace h := h.2 q3
    refine J_ldc cx (v := (-1000001)) dX5_restore_10 gw_742 ?_
    exact J_iret cx dX5_restore_12 h
def wp_X5_kind (a0 : Int32) (σ : PI) (Q : Int32 → PI → Prop) : Prop := wp_X5_isLeaver a0 σ (fun r2 τ1 => ((r2 = (nI 0) → Q (-1000001) τ1) ∧ (¬ r2 = (nI 0) → vp_in ((nI 16) + a0) 70 ∧ (Q (τ1 280 (((nI 16) + a0) : Int32).toNatClampNeg) τ1))))
set_option maxRecDepth 100000 in
set_option maxHeartbeats 4000000 in
theorem ct_X5_kind {l : Launch} {X : XP} (a0 : Int32) (σ : PI) (Q : Int32 → PI → Prop) (h : wp_X5_kind  a0 σ Q) : Ct l yX5_kind cX5_kind 2 (some .int) 2 X [.ref (X.1 276), .int a0] σ (qI Q) := by
  refine Ct_of (L := [some (.ref (X.1 276)), some (.int a0)]) (by decide) (Nat.le_of_ble_eq_true rfl) rfl (fun M hl cx => ?_)
  subst hl
  unfold wp_X5_kind at h
  refine J_aload_n cx 0 dX5_kind_0 rfl rfl ?_
  refine J_iload_n cx 1 dX5_kind_1 rfl rfl ?_
  refine J_cV cx dX5_kind_2 V_X5_180 (by decide) (by decide) rfl (ct_X5_isLeaver   _ _ _ h) rfl rfl (Nat.le_of_ble_eq_true rfl) (k_i (fun r2 τ1 h => ?_))
  refine J_if_eq cx (tgt := 20) dX5_kind_5 (by decide) (fun q3 => ?_) (fun q3 => ?_)
  · replace h := h.1 q3
    refine J_ldc cx (v := (-1000001)) dX5_kind_20 gw_742 ?_
    exact J_iret cx dX5_kind_22 h
  · replace h := h.2 q3
    refine J_aload_n cx 0 dX5_kind_8 rfl rfl ?_
    refine J_getR cx (j := 280) dX5_kind_9 F_X5_19 (by decide) rfl rfl rfl ?_
    refine J_bipush cx dX5_kind_12 (by decide : _ = ((nI 16) : Int32)) ?_
    refine J_iload_n cx 1 dX5_kind_14 rfl rfl ?_
    refine J_iadd cx dX5_kind_15 ?_
    obtain ⟨s4, h⟩ := h
    refine J_iald cx dX5_kind_16 (by decide) rfl s4 ?_
    refine J_goto cx (tgt := 22) dX5_kind_17 (by decide) ?_
    exact J_iret cx dX5_kind_22 h
def w_X5_isKind_29 (Q : Int32 → PI → Prop) (σ : PI) : Prop := Q (nI 1) σ
set_option maxRecDepth 100000 in
set_option maxHeartbeats 4000000 in
theorem j_X5_isKind_29 {M : MC} {X : XP} {Q : Int32 → PI → Prop} (cx : Cx M X RX5 cX5_isKind 2 (some .boolean) 0) (σ : PI) (h : w_X5_isKind_29   Q  σ) : J M X (QF M X (qI Q)) σ 29 [none, none] [] := by
  unfold w_X5_isKind_29 at h
  refine J_iconst cx dX5_isKind_29 (by decide : _ = ((nI 1) : Int32)) ?_
  refine J_goto cx (tgt := 34) dX5_isKind_30 (by decide) ?_
  exact J_zret cx dX5_isKind_34 (Or.inr rfl) h
def w_X5_isKind_19 (Q : Int32 → PI → Prop) (l0 : Int32) (l1 : Int32) (σ : PI) : Prop := (¬ l1 = (nI 4) → Q (nI 0) σ) ∧ (l1 = (nI 4) → (¬ l0 = (nI 5) → Q (nI 0) σ) ∧ (l0 = (nI 5) → w_X5_isKind_29   Q  σ))
set_option maxRecDepth 100000 in
set_option maxHeartbeats 4000000 in
theorem j_X5_isKind_19 {M : MC} {X : XP} {Q : Int32 → PI → Prop} (cx : Cx M X RX5 cX5_isKind 2 (some .boolean) 0) (l0 : Int32) (l1 : Int32) (σ : PI) (h : w_X5_isKind_19   Q l0 l1 σ) : J M X (QF M X (qI Q)) σ 19 [some (.int l0), some (.int l1)] [] := by
  unfold w_X5_isKind_19 at h
  refine J_iload_n cx 1 dX5_isKind_19 rfl rfl ?_
  refine J_iconst cx dX5_isKind_20 (by decide : _ = ((nI 4) : Int32)) ?_
  refine J_icmp_ne cx (tgt := 33) dX5_isKind_21 (by decide) (fun q5 => ?_) (fun q5 => ?_)
  · replace h := h.1 q5
    refine J_iconst cx dX5_isKind_33 (by decide : _ = ((nI 0) : Int32)) ?_
    exact J_zret cx dX5_isKind_34 (Or.inl rfl) h
  · replace h := h.2 q5
    refine J_iload_n cx 0 dX5_isKind_24 rfl rfl ?_
    refine J_iconst cx dX5_isKind_25 (by decide : _ = ((nI 5) : Int32)) ?_
    refine J_icmp_ne cx (tgt := 33) dX5_isKind_26 (by decide) (fun q6 => ?_) (fun q6 => ?_)
    · replace h := h.1 q6
      refine J_iconst cx dX5_isKind_33 (by decide : _ = ((nI 0) : Int32)) ?_
      exact J_zret cx dX5_isKind_34 (Or.inl rfl) h
    · replace h := h.2 q6
      refine J_fg 0 rfl ?_
      refine J_fg 1 rfl ?_
      exact j_X5_isKind_29     cx   _ h
def wp_X5_isKind (a0 : Int32) (a1 : Int32) (σ : PI) (Q : Int32 → PI → Prop) : Prop := (a1 = (nI 0) → w_X5_isKind_29   Q  σ) ∧ (¬ a1 = (nI 0) → (a0 = a1 → w_X5_isKind_29   Q  σ) ∧ (¬ a0 = a1 → (¬ a1 = (nI 1) → w_X5_isKind_19   Q a0 a1 σ) ∧ (a1 = (nI 1) → (a0 < (nI 4) → w_X5_isKind_29   Q  σ) ∧ (¬ a0 < (nI 4) → w_X5_isKind_19   Q a0 a1 σ))))
set_option maxRecDepth 100000 in
set_option maxHeartbeats 4000000 in
theorem ct_X5_isKind {l : Launch} {X : XP} (a0 : Int32) (a1 : Int32) (σ : PI) (Q : Int32 → PI → Prop) (h : wp_X5_isKind  a0 a1 σ Q) : Ct l yX5_isKind cX5_isKind 2 (some .boolean) 0 X [.int a0, .int a1] σ (qI Q) := by
  refine Ct_of (L := [some (.int a0), some (.int a1)]) (by decide) (Nat.le_of_ble_eq_true rfl) rfl (fun M hl cx => ?_)
  subst hl
  unfold wp_X5_isKind at h
  refine J_iload_n cx 1 dX5_isKind_0 rfl rfl ?_
  refine J_if_eq cx (tgt := 29) dX5_isKind_1 (by decide) (fun q1 => ?_) (fun q1 => ?_)
  · replace h := h.1 q1
    refine J_fg 0 rfl ?_
    refine J_fg 1 rfl ?_
    exact j_X5_isKind_29     cx   _ h
  · replace h := h.2 q1
    refine J_iload_n cx 0 dX5_isKind_4 rfl rfl ?_
    refine J_iload_n cx 1 dX5_isKind_5 rfl rfl ?_
    refine J_icmp_eq cx (tgt := 29) dX5_isKind_6 (by decide) (fun q2 => ?_) (fun q2 => ?_)
    · replace h := h.1 q2
      refine J_fg 0 rfl ?_
      refine J_fg 1 rfl ?_
      exact j_X5_isKind_29     cx   _ h
    · replace h := h.2 q2
      refine J_iload_n cx 1 dX5_isKind_9 rfl rfl ?_
      refine J_iconst cx dX5_isKind_10 (by decide : _ = ((nI 1) : Int32)) ?_
      refine J_icmp_ne cx (tgt := 19) dX5_isKind_11 (by decide) (fun q3 => ?_) (fun q3 => ?_)
      · replace h := h.1 q3
        exact j_X5_isKind_19     cx   _ _ _ h
      · replace h := h.2 q3
        refine J_iload_n cx 0 dX5_isKind_14 rfl rfl ?_
        refine J_iconst cx dX5_isKind_15 (by decide : _ = ((nI 4) : Int32)) ?_
        refine J_icmp_lt cx (tgt := 29) dX5_isKind_16 (by decide) (fun q4 => ?_) (fun q4 => ?_)
        · replace h := h.1 q4
          refine J_fg 0 rfl ?_
          refine J_fg 1 rfl ?_
          exact j_X5_isKind_29     cx   _ h
        · replace h := h.2 q4
          exact j_X5_isKind_19     cx   _ _ _ h
def wp_X5_as (a0 : Int32) (a1 : Int32) (σ : PI) (Q : Int32 → PI → Prop) : Prop := wp_X5_isLeaver a0 σ (fun r2 τ1 => ((r2 = (nI 0) → Q (-1000001) τ1) ∧ (¬ r2 = (nI 0) → wp_X5_in (a1 : Int32).toInt64 (lN 0) (lN 5) τ1 (fun r5 τ4 => ((¬ r5 = (nI 0) → vp_in ((nI 16) + a0) 70 ∧ (wp_X5_isKind (τ4 280 (((nI 16) + a0) : Int32).toNatClampNeg) a1 τ4 (fun r9 τ8 => ((r9 = (nI 0) → wp_X5_find (nI 3) τ8 (fun r12 τ11 => (Q r12 τ11))) ∧ (¬ r9 = (nI 0) → wp_X5_well a0 τ8 (fun r14 τ13 => (Q r14 τ13))))))) ∧ (r5 = (nI 0) → Q (-1000001) τ4))))))
set_option maxRecDepth 100000 in
set_option maxHeartbeats 4000000 in
theorem ct_X5_as {l : Launch} {X : XP} (a0 : Int32) (a1 : Int32) (σ : PI) (Q : Int32 → PI → Prop) (h : wp_X5_as  a0 a1 σ Q) : Ct l yX5_as cX5_as 3 (some .int) 2 X [.ref (X.1 276), .int a0, .int a1] σ (qI Q) := by
  refine Ct_of (L := [some (.ref (X.1 276)), some (.int a0), some (.int a1)]) (by decide) (Nat.le_of_ble_eq_true rfl) rfl (fun M hl cx => ?_)
  subst hl
  unfold wp_X5_as at h
  refine J_aload_n cx 0 dX5_as_0 rfl rfl ?_
  refine J_iload_n cx 1 dX5_as_1 rfl rfl ?_
  refine J_cV cx dX5_as_2 V_X5_180 (by decide) (by decide) rfl (ct_X5_isLeaver   _ _ _ h) rfl rfl (Nat.le_of_ble_eq_true rfl) (k_i (fun r2 τ1 h => ?_))
  refine J_if_eq cx (tgt := 20) dX5_as_5 (by decide) (fun q3 => ?_) (fun q3 => ?_)
  · replace h := h.1 q3
    refine J_ldc cx (v := (-1000001)) dX5_as_20 gw_742 ?_
    exact J_iret cx dX5_as_22 h
  · replace h := h.2 q3
    refine J_iload_n cx 2 dX5_as_8 rfl rfl ?_
    refine J_i2l cx dX5_as_9 ?_
    refine J_lconst cx dX5_as_10 (by decide : _ = ((lN 0) : Int64)) ?_
    refine J_ldc2 cx (v := (lN 5)) dX5_as_11 gw_1033 ?_
    refine J_cS cx dX5_as_14 S_X5_54 (by decide) (ct_X5_in   _ _ _ _ _ h) rfl rfl (Nat.le_of_ble_eq_true rfl) (k_i (fun r5 τ4 h => ?_))
    refine J_if_ne cx (tgt := 23) dX5_as_17 (by decide) (fun q6 => ?_) (fun q6 => ?_)
    · replace h := h.1 q6
      refine J_aload_n cx 0 dX5_as_23 rfl rfl ?_
      refine J_getR cx (j := 280) dX5_as_24 F_X5_19 (by decide) rfl rfl rfl ?_
      refine J_bipush cx dX5_as_27 (by decide : _ = ((nI 16) : Int32)) ?_
      refine J_iload_n cx 1 dX5_as_29 rfl rfl ?_
      refine J_iadd cx dX5_as_30 ?_
      obtain ⟨s7, h⟩ := h
      refine J_iald cx dX5_as_31 (by decide) rfl s7 ?_
      refine J_iload_n cx 2 dX5_as_32 rfl rfl ?_
      refine J_cS cx dX5_as_33 S_X5_249 (by decide) (ct_X5_isKind   _ _ _ _ h) rfl rfl (Nat.le_of_ble_eq_true rfl) (k_i (fun r9 τ8 h => ?_))
      refine J_if_eq cx (tgt := 47) dX5_as_36 (by decide) (fun q10 => ?_) (fun q10 => ?_)
      · replace h := h.1 q10
        refine J_aload_n cx 0 dX5_as_47 rfl rfl ?_
        refine J_iconst cx dX5_as_48 (by decide : _ = ((nI 3) : Int32)) ?_
        refine J_cV cx dX5_as_49 V_X5_65 (by decide) (by decide) rfl (ct_X5_find   _ _ _ h) rfl rfl (Nat.le_of_ble_eq_true rfl) (k_i (fun r12 τ11 h => ?_))
        exact J_iret cx dX5_as_52 h
      · replace h := h.2 q10
        refine J_aload_n cx 0 dX5_as_39 rfl rfl ?_
        refine J_iload_n cx 1 dX5_as_40 rfl rfl ?_
        refine J_cV cx dX5_as_41 V_X5_69 (by decide) (by decide) rfl (ct_X5_well   _ _ _ h) rfl rfl (Nat.le_of_ble_eq_true rfl) (k_i (fun r14 τ13 h => ?_))
        refine J_goto cx (tgt := 52) dX5_as_44 (by decide) ?_
        exact J_iret cx dX5_as_52 h
    · replace h := h.2 q6
      refine J_ldc cx (v := (-1000001)) dX5_as_20 gw_742 ?_
      exact J_iret cx dX5_as_22 h
def wp_X5_begin (a0 : Int32) (σ : PI) (Q : PI → Prop) : Prop := ((nI 16) ≤ (σ 276 24) → Q σ) ∧ (¬ (nI 16) ≤ (σ 276 24) → vp_in (σ 276 24) 16 ∧ (∀ τ3 : PI, τ3 = up σ 288 ((σ 276 24) : Int32).toNatClampNeg a0 → (∀ τ4 : PI, τ4 = up τ3 276 24 ((τ3 276 24) + (nI 1)) → (Q τ4))))
set_option maxRecDepth 100000 in
set_option maxHeartbeats 4000000 in
theorem ct_X5_begin {l : Launch} {X : XP} (a0 : Int32) (σ : PI) (Q : PI → Prop) (h : wp_X5_begin  a0 σ Q) : Ct l yX5_begin cX5_begin 2 none 0 X [.ref (X.1 276), .int a0] σ (qV Q) := by
  refine Ct_of (L := [some (.ref (X.1 276)), some (.int a0)]) (by decide) (Nat.le_of_ble_eq_true rfl) rfl (fun M hl cx => ?_)
  subst hl
  unfold wp_X5_begin at h
  refine J_aload_n cx 0 dX5_begin_0 rfl rfl ?_
  refine J_getI cx dX5_begin_1 F_X5_252 (by decide) rfl rfl ?_
  refine J_bipush cx dX5_begin_4 (by decide : _ = ((nI 16) : Int32)) ?_
  refine J_icmp_ge cx (tgt := 29) dX5_begin_6 (by decide) (fun q1 => ?_) (fun q1 => ?_)
  · replace h := h.1 q1
    exact J_vret cx dX5_begin_29 h
  · replace h := h.2 q1
    refine J_aload_n cx 0 dX5_begin_9 rfl rfl ?_
    refine J_getR cx (j := 288) dX5_begin_10 F_X5_44 (by decide) rfl rfl rfl ?_
    refine J_aload_n cx 0 dX5_begin_13 rfl rfl ?_
    refine J_getI cx dX5_begin_14 F_X5_252 (by decide) rfl rfl ?_
    refine J_iload_n cx 1 dX5_begin_17 rfl rfl ?_
    obtain ⟨s2, h⟩ := h
    refine J_iast cx dX5_begin_18 (by decide) rfl s2 ?_
    refine J_nm (fun τ3 e_τ3 => ?_)
    replace h := h τ3 e_τ3
    refine J_aload_n cx 0 dX5_begin_19 rfl rfl ?_
    refine J_dup cx dX5_begin_20 rfl ?_
    refine J_getI cx dX5_begin_21 F_X5_252 (by decide) rfl rfl ?_
    refine J_iconst cx dX5_begin_24 (by decide : _ = ((nI 1) : Int32)) ?_
    refine J_iadd cx dX5_begin_25 ?_
    refine J_putI cx dX5_begin_26 (P_X5_252 _) (by decide) rfl rfl ?_
    refine J_nm (fun τ4 e_τ4 => ?_)
    replace h := h τ4 e_τ4
    exact J_vret cx dX5_begin_29 h
def wp_X5_lent (a0 : Int32) (a1 : Int32) (σ : PI) (Q : Int32 → PI → Prop) : Prop := wp_X5_begin a1 σ (fun τ1 => ((¬ a1 = (nI 10) → Q a0 τ1) ∧ (a1 = (nI 10) → vp_in ((nI 28) + a0) 70 ∧ (Q (τ1 280 (((nI 28) + a0) : Int32).toNatClampNeg) τ1))))
set_option maxRecDepth 100000 in
set_option maxHeartbeats 4000000 in
theorem ct_X5_lent {l : Launch} {X : XP} (a0 : Int32) (a1 : Int32) (σ : PI) (Q : Int32 → PI → Prop) (h : wp_X5_lent  a0 a1 σ Q) : Ct l yX5_lent cX5_lent 3 (some .int) 1 X [.ref (X.1 276), .int a0, .int a1] σ (qI Q) := by
  refine Ct_of (L := [some (.ref (X.1 276)), some (.int a0), some (.int a1)]) (by decide) (Nat.le_of_ble_eq_true rfl) rfl (fun M hl cx => ?_)
  subst hl
  unfold wp_X5_lent at h
  refine J_aload_n cx 0 dX5_lent_0 rfl rfl ?_
  refine J_iload_n cx 2 dX5_lent_1 rfl rfl ?_
  refine J_cV cx dX5_lent_2 V_X5_255 (by decide) (by decide) rfl (ct_X5_begin   _ _ _ h) rfl rfl (Nat.le_of_ble_eq_true rfl) (k_v (fun τ1 h => ?_))
  refine J_iload_n cx 2 dX5_lent_5 rfl rfl ?_
  refine J_bipush cx dX5_lent_6 (by decide : _ = ((nI 10) : Int32)) ?_
  refine J_icmp_ne cx (tgt := 23) dX5_lent_8 (by decide) (fun q2 => ?_) (fun q2 => ?_)
  · replace h := h.1 q2
    refine J_iload_n cx 1 dX5_lent_23 rfl rfl ?_
    exact J_iret cx dX5_lent_24 h
  · replace h := h.2 q2
    refine J_aload_n cx 0 dX5_lent_11 rfl rfl ?_
    refine J_getR cx (j := 280) dX5_lent_12 F_X5_19 (by decide) rfl rfl rfl ?_
    refine J_bipush cx dX5_lent_15 (by decide : _ = ((nI 28) : Int32)) ?_
    refine J_iload_n cx 1 dX5_lent_17 rfl rfl ?_
    refine J_iadd cx dX5_lent_18 ?_
    obtain ⟨s3, h⟩ := h
    refine J_iald cx dX5_lent_19 (by decide) rfl s3 ?_
    refine J_goto cx (tgt := 24) dX5_lent_20 (by decide) ?_
    exact J_iret cx dX5_lent_24 h
def wp_X5_pointedMark (a0 : Int32) (σ : PI) (Q : Int32 → PI → Prop) : Prop := wp_X5_begin (nI 21) σ (fun τ1 => (wp_X5_lent a0 (nI 20) τ1 (fun r3 τ2 => (wp_X5_makes a0 τ2 (fun r5 τ4 => (Q (r3 + r5) τ4))))))
set_option maxRecDepth 100000 in
set_option maxHeartbeats 4000000 in
theorem ct_X5_pointedMark {l : Launch} {X : XP} (a0 : Int32) (σ : PI) (Q : Int32 → PI → Prop) (h : wp_X5_pointedMark  a0 σ Q) : Ct l yX5_pointedMark cX5_pointedMark 2 (some .int) 3 X [.ref (X.1 276), .int a0] σ (qI Q) := by
  refine Ct_of (L := [some (.ref (X.1 276)), some (.int a0)]) (by decide) (Nat.le_of_ble_eq_true rfl) rfl (fun M hl cx => ?_)
  subst hl
  unfold wp_X5_pointedMark at h
  refine J_aload_n cx 0 dX5_pointedMark_0 rfl rfl ?_
  refine J_bipush cx dX5_pointedMark_1 (by decide : _ = ((nI 21) : Int32)) ?_
  refine J_cV cx dX5_pointedMark_3 V_X5_255 (by decide) (by decide) rfl (ct_X5_begin   _ _ _ h) rfl rfl (Nat.le_of_ble_eq_true rfl) (k_v (fun τ1 h => ?_))
  refine J_aload_n cx 0 dX5_pointedMark_6 rfl rfl ?_
  refine J_iload_n cx 1 dX5_pointedMark_7 rfl rfl ?_
  refine J_bipush cx dX5_pointedMark_8 (by decide : _ = ((nI 20) : Int32)) ?_
  refine J_cV cx dX5_pointedMark_10 V_X5_258 (by decide) (by decide) rfl (ct_X5_lent   _ _ _ _ h) rfl rfl (Nat.le_of_ble_eq_true rfl) (k_i (fun r3 τ2 h => ?_))
  refine J_aload_n cx 0 dX5_pointedMark_13 rfl rfl ?_
  refine J_iload_n cx 1 dX5_pointedMark_14 rfl rfl ?_
  refine J_cV cx dX5_pointedMark_15 V_X5_158 (by decide) (by decide) rfl (ct_X5_makes   _ _ _ h) rfl rfl (Nat.le_of_ble_eq_true rfl) (k_i (fun r5 τ4 h => ?_))
  refine J_iadd cx dX5_pointedMark_18 ?_
  exact J_iret cx dX5_pointedMark_19 h
def wp_X5_idleSize (a0 : Int32) (σ : PI) (Q : Int32 → PI → Prop) : Prop := wp_X5_begin (nI 13) σ (fun τ1 => (wp_X5_lent a0 (nI 10) τ1 (fun r3 τ2 => (Q (r3 - (nI 100)) τ2))))
set_option maxRecDepth 100000 in
set_option maxHeartbeats 4000000 in
theorem ct_X5_idleSize {l : Launch} {X : XP} (a0 : Int32) (σ : PI) (Q : Int32 → PI → Prop) (h : wp_X5_idleSize  a0 σ Q) : Ct l yX5_idleSize cX5_idleSize 2 (some .int) 2 X [.ref (X.1 276), .int a0] σ (qI Q) := by
  refine Ct_of (L := [some (.ref (X.1 276)), some (.int a0)]) (by decide) (Nat.le_of_ble_eq_true rfl) rfl (fun M hl cx => ?_)
  subst hl
  unfold wp_X5_idleSize at h
  refine J_aload_n cx 0 dX5_idleSize_0 rfl rfl ?_
  refine J_bipush cx dX5_idleSize_1 (by decide : _ = ((nI 13) : Int32)) ?_
  refine J_cV cx dX5_idleSize_3 V_X5_255 (by decide) (by decide) rfl (ct_X5_begin   _ _ _ h) rfl rfl (Nat.le_of_ble_eq_true rfl) (k_v (fun τ1 h => ?_))
  refine J_aload_n cx 0 dX5_idleSize_6 rfl rfl ?_
  refine J_iload_n cx 1 dX5_idleSize_7 rfl rfl ?_
  refine J_bipush cx dX5_idleSize_8 (by decide : _ = ((nI 10) : Int32)) ?_
  refine J_cV cx dX5_idleSize_10 V_X5_258 (by decide) (by decide) rfl (ct_X5_lent   _ _ _ _ h) rfl rfl (Nat.le_of_ble_eq_true rfl) (k_i (fun r3 τ2 h => ?_))
  refine J_bipush cx dX5_idleSize_13 (by decide : _ = ((nI 100) : Int32)) ?_
  refine J_isub cx dX5_idleSize_15 ?_
  exact J_iret cx dX5_idleSize_16 h
def wp_X5_sizeOfIdle (a0 : Int32) (σ : PI) (Q : Int32 → PI → Prop) : Prop := vp_in ((nI 16) + a0) 70 ∧ ((¬ (σ 280 (((nI 16) + a0) : Int32).toNatClampNeg) = (nI 5) → wp_X5_idleSize a0 σ (fun r4 τ3 => (Q r4 τ3))) ∧ ((σ 280 (((nI 16) + a0) : Int32).toNatClampNeg) = (nI 5) → wp_X5_begin (nI 14) σ (fun τ5 => (wp_X5_idleSize a0 τ5 (fun r7 τ6 => (Q ((nI 2) * r7) τ6))))))
set_option maxRecDepth 100000 in
set_option maxHeartbeats 4000000 in
theorem ct_X5_sizeOfIdle {l : Launch} {X : XP} (a0 : Int32) (σ : PI) (Q : Int32 → PI → Prop) (h : wp_X5_sizeOfIdle  a0 σ Q) : Ct l yX5_sizeOfIdle cX5_sizeOfIdle 2 (some .int) 3 X [.ref (X.1 276), .int a0] σ (qI Q) := by
  refine Ct_of (L := [some (.ref (X.1 276)), some (.int a0)]) (by decide) (Nat.le_of_ble_eq_true rfl) rfl (fun M hl cx => ?_)
  subst hl
  unfold wp_X5_sizeOfIdle at h
  refine J_aload_n cx 0 dX5_sizeOfIdle_0 rfl rfl ?_
  refine J_getR cx (j := 280) dX5_sizeOfIdle_1 F_X5_19 (by decide) rfl rfl rfl ?_
  refine J_bipush cx dX5_sizeOfIdle_4 (by decide : _ = ((nI 16) : Int32)) ?_
  refine J_iload_n cx 1 dX5_sizeOfIdle_6 rfl rfl ?_
  refine J_iadd cx dX5_sizeOfIdle_7 ?_
  obtain ⟨s1, h⟩ := h
  refine J_iald cx dX5_sizeOfIdle_8 (by decide) rfl s1 ?_
  refine J_iconst cx dX5_sizeOfIdle_9 (by decide : _ = ((nI 5) : Int32)) ?_
  refine J_icmp_ne cx (tgt := 27) dX5_sizeOfIdle_10 (by decide) (fun q2 => ?_) (fun q2 => ?_)
  · replace h := h.1 q2
    refine J_aload_n cx 0 dX5_sizeOfIdle_27 rfl rfl ?_
    refine J_iload_n cx 1 dX5_sizeOfIdle_28 rfl rfl ?_
    refine J_cV cx dX5_sizeOfIdle_29 V_X5_261 (by decide) (by decide) rfl (ct_X5_idleSize   _ _ _ h) rfl rfl (Nat.le_of_ble_eq_true rfl) (k_i (fun r4 τ3 h => ?_))
    exact J_iret cx dX5_sizeOfIdle_32 h
  · replace h := h.2 q2
    refine J_aload_n cx 0 dX5_sizeOfIdle_13 rfl rfl ?_
    refine J_bipush cx dX5_sizeOfIdle_14 (by decide : _ = ((nI 14) : Int32)) ?_
    refine J_cV cx dX5_sizeOfIdle_16 V_X5_255 (by decide) (by decide) rfl (ct_X5_begin   _ _ _ h) rfl rfl (Nat.le_of_ble_eq_true rfl) (k_v (fun τ5 h => ?_))
    refine J_iconst cx dX5_sizeOfIdle_19 (by decide : _ = ((nI 2) : Int32)) ?_
    refine J_aload_n cx 0 dX5_sizeOfIdle_20 rfl rfl ?_
    refine J_iload_n cx 1 dX5_sizeOfIdle_21 rfl rfl ?_
    refine J_cV cx dX5_sizeOfIdle_22 V_X5_261 (by decide) (by decide) rfl (ct_X5_idleSize   _ _ _ h) rfl rfl (Nat.le_of_ble_eq_true rfl) (k_i (fun r7 τ6 h => ?_))
    refine J_imul cx dX5_sizeOfIdle_25 ?_
    exact J_iret cx dX5_sizeOfIdle_26 h
def wp_X5_markOf (a0 : Int32) (σ : PI) (Q : Int32 → PI → Prop) : Prop := vp_in ((nI 16) + a0) 70 ∧ (∀ x2 : Int32, x2 = (σ 280 (((nI 16) + a0) : Int32).toNatClampNeg) → ((¬ x2 = (nI 2) → (¬ x2 = (nI 3) → (¬ x2 = (nI 1) → wp_X5_begin (nI 23) σ (fun τ6 => (wp_X5_lent a0 (nI 20) τ6 (fun r8 τ7 => (wp_X5_sizeOfIdle a0 τ7 (fun r10 τ9 => (Q (r8 - r10) τ9))))))) ∧ (x2 = (nI 1) → wp_X5_pointedMark a0 σ (fun r12 τ11 => (Q r12 τ11)))) ∧ (x2 = (nI 3) → wp_X5_begin (nI 22) σ (fun τ13 => (wp_X5_pointedMark a0 τ13 (fun r15 τ14 => (Q (r15 - (nI 1000)) τ14)))))) ∧ (x2 = (nI 2) → wp_X5_begin (nI 24) σ (fun τ16 => (wp_X5_pointedMark a0 τ16 (fun r18 τ17 => (Q ((nI 2) * r18) τ17)))))))
set_option maxRecDepth 100000 in
set_option maxHeartbeats 4000000 in
theorem ct_X5_markOf {l : Launch} {X : XP} (a0 : Int32) (σ : PI) (Q : Int32 → PI → Prop) (h : wp_X5_markOf  a0 σ Q) : Ct l yX5_markOf cX5_markOf 4 (some .int) 4 X [.ref (X.1 276), .int a0] σ (qI Q) := by
  refine Ct_of (L := [some (.ref (X.1 276)), some (.int a0), none, none]) (by decide) (Nat.le_of_ble_eq_true rfl) rfl (fun M hl cx => ?_)
  subst hl
  unfold wp_X5_markOf at h
  refine J_aload_n cx 0 dX5_markOf_0 rfl rfl ?_
  refine J_getR cx (j := 280) dX5_markOf_1 F_X5_19 (by decide) rfl rfl rfl ?_
  refine J_bipush cx dX5_markOf_4 (by decide : _ = ((nI 16) : Int32)) ?_
  refine J_iload_n cx 1 dX5_markOf_6 rfl rfl ?_
  refine J_iadd cx dX5_markOf_7 ?_
  obtain ⟨s1, h⟩ := h
  refine J_iald cx dX5_markOf_8 (by decide) rfl s1 ?_
  refine J_topi (fun x2 e_x2 => ?_)
  replace h := h x2 e_x2
  refine J_istore_n cx 2 dX5_markOf_9 rfl (by decide) rfl rfl ?_
  refine J_iload_n cx 2 dX5_markOf_10 rfl rfl ?_
  refine J_iconst cx dX5_markOf_11 (by decide : _ = ((nI 2) : Int32)) ?_
  refine J_icmp_ne cx (tgt := 29) dX5_markOf_12 (by decide) (fun q3 => ?_) (fun q3 => ?_)
  · replace h := h.1 q3
    refine J_iload_n cx 2 dX5_markOf_29 rfl rfl ?_
    refine J_iconst cx dX5_markOf_30 (by decide : _ = ((nI 3) : Int32)) ?_
    refine J_icmp_ne cx (tgt := 50) dX5_markOf_31 (by decide) (fun q4 => ?_) (fun q4 => ?_)
    · replace h := h.1 q4
      refine J_iload_n cx 2 dX5_markOf_50 rfl rfl ?_
      refine J_iconst cx dX5_markOf_51 (by decide : _ = ((nI 1) : Int32)) ?_
      refine J_icmp_ne cx (tgt := 61) dX5_markOf_52 (by decide) (fun q5 => ?_) (fun q5 => ?_)
      · replace h := h.1 q5
        refine J_aload_n cx 0 dX5_markOf_61 rfl rfl ?_
        refine J_bipush cx dX5_markOf_62 (by decide : _ = ((nI 23) : Int32)) ?_
        refine J_cV cx dX5_markOf_64 V_X5_255 (by decide) (by decide) rfl (ct_X5_begin   _ _ _ h) rfl rfl (Nat.le_of_ble_eq_true rfl) (k_v (fun τ6 h => ?_))
        refine J_aload_n cx 0 dX5_markOf_67 rfl rfl ?_
        refine J_iload_n cx 1 dX5_markOf_68 rfl rfl ?_
        refine J_bipush cx dX5_markOf_69 (by decide : _ = ((nI 20) : Int32)) ?_
        refine J_cV cx dX5_markOf_71 V_X5_258 (by decide) (by decide) rfl (ct_X5_lent   _ _ _ _ h) rfl rfl (Nat.le_of_ble_eq_true rfl) (k_i (fun r8 τ7 h => ?_))
        refine J_istore_n cx 3 dX5_markOf_74 rfl (by decide) rfl rfl ?_
        refine J_iload_n cx 3 dX5_markOf_75 rfl rfl ?_
        refine J_aload_n cx 0 dX5_markOf_76 rfl rfl ?_
        refine J_iload_n cx 1 dX5_markOf_77 rfl rfl ?_
        refine J_cV cx dX5_markOf_78 V_X5_267 (by decide) (by decide) rfl (ct_X5_sizeOfIdle   _ _ _ h) rfl rfl (Nat.le_of_ble_eq_true rfl) (k_i (fun r10 τ9 h => ?_))
        refine J_isub cx dX5_markOf_81 ?_
        exact J_iret cx dX5_markOf_82 h
      · replace h := h.2 q5
        refine J_aload_n cx 0 dX5_markOf_55 rfl rfl ?_
        refine J_iload_n cx 1 dX5_markOf_56 rfl rfl ?_
        refine J_cV cx dX5_markOf_57 V_X5_264 (by decide) (by decide) rfl (ct_X5_pointedMark   _ _ _ h) rfl rfl (Nat.le_of_ble_eq_true rfl) (k_i (fun r12 τ11 h => ?_))
        exact J_iret cx dX5_markOf_60 h
    · replace h := h.2 q4
      refine J_aload_n cx 0 dX5_markOf_34 rfl rfl ?_
      refine J_bipush cx dX5_markOf_35 (by decide : _ = ((nI 22) : Int32)) ?_
      refine J_cV cx dX5_markOf_37 V_X5_255 (by decide) (by decide) rfl (ct_X5_begin   _ _ _ h) rfl rfl (Nat.le_of_ble_eq_true rfl) (k_v (fun τ13 h => ?_))
      refine J_aload_n cx 0 dX5_markOf_40 rfl rfl ?_
      refine J_iload_n cx 1 dX5_markOf_41 rfl rfl ?_
      refine J_cV cx dX5_markOf_42 V_X5_264 (by decide) (by decide) rfl (ct_X5_pointedMark   _ _ _ h) rfl rfl (Nat.le_of_ble_eq_true rfl) (k_i (fun r15 τ14 h => ?_))
      refine J_sipush cx dX5_markOf_45 (by decide : _ = ((nI 1000) : Int32)) ?_
      refine J_isub cx dX5_markOf_48 ?_
      exact J_iret cx dX5_markOf_49 h
  · replace h := h.2 q3
    refine J_aload_n cx 0 dX5_markOf_15 rfl rfl ?_
    refine J_bipush cx dX5_markOf_16 (by decide : _ = ((nI 24) : Int32)) ?_
    refine J_cV cx dX5_markOf_18 V_X5_255 (by decide) (by decide) rfl (ct_X5_begin   _ _ _ h) rfl rfl (Nat.le_of_ble_eq_true rfl) (k_v (fun τ16 h => ?_))
    refine J_iconst cx dX5_markOf_21 (by decide : _ = ((nI 2) : Int32)) ?_
    refine J_aload_n cx 0 dX5_markOf_22 rfl rfl ?_
    refine J_iload_n cx 1 dX5_markOf_23 rfl rfl ?_
    refine J_cV cx dX5_markOf_24 V_X5_264 (by decide) (by decide) rfl (ct_X5_pointedMark   _ _ _ h) rfl rfl (Nat.le_of_ble_eq_true rfl) (k_i (fun r18 τ17 h => ?_))
    refine J_imul cx dX5_markOf_27 ?_
    exact J_iret cx dX5_markOf_28 h
def wp_X5_pointedSize (a0 : Int32) (σ : PI) (Q : Int32 → PI → Prop) : Prop := wp_X5_begin (nI 11) σ (fun τ1 => (wp_X5_lent a0 (nI 10) τ1 (fun r3 τ2 => (wp_X5_markOf a0 τ2 (fun r5 τ4 => (Q (r3 + r5) τ4))))))
set_option maxRecDepth 100000 in
set_option maxHeartbeats 4000000 in
theorem ct_X5_pointedSize {l : Launch} {X : XP} (a0 : Int32) (σ : PI) (Q : Int32 → PI → Prop) (h : wp_X5_pointedSize  a0 σ Q) : Ct l yX5_pointedSize cX5_pointedSize 3 (some .int) 5 X [.ref (X.1 276), .int a0] σ (qI Q) := by
  refine Ct_of (L := [some (.ref (X.1 276)), some (.int a0), none]) (by decide) (Nat.le_of_ble_eq_true rfl) rfl (fun M hl cx => ?_)
  subst hl
  unfold wp_X5_pointedSize at h
  refine J_aload_n cx 0 dX5_pointedSize_0 rfl rfl ?_
  refine J_bipush cx dX5_pointedSize_1 (by decide : _ = ((nI 11) : Int32)) ?_
  refine J_cV cx dX5_pointedSize_3 V_X5_255 (by decide) (by decide) rfl (ct_X5_begin   _ _ _ h) rfl rfl (Nat.le_of_ble_eq_true rfl) (k_v (fun τ1 h => ?_))
  refine J_aload_n cx 0 dX5_pointedSize_6 rfl rfl ?_
  refine J_iload_n cx 1 dX5_pointedSize_7 rfl rfl ?_
  refine J_bipush cx dX5_pointedSize_8 (by decide : _ = ((nI 10) : Int32)) ?_
  refine J_cV cx dX5_pointedSize_10 V_X5_258 (by decide) (by decide) rfl (ct_X5_lent   _ _ _ _ h) rfl rfl (Nat.le_of_ble_eq_true rfl) (k_i (fun r3 τ2 h => ?_))
  refine J_istore_n cx 2 dX5_pointedSize_13 rfl (by decide) rfl rfl ?_
  refine J_iload_n cx 2 dX5_pointedSize_14 rfl rfl ?_
  refine J_aload_n cx 0 dX5_pointedSize_15 rfl rfl ?_
  refine J_iload_n cx 1 dX5_pointedSize_16 rfl rfl ?_
  refine J_cV cx dX5_pointedSize_17 V_X5_270 (by decide) (by decide) rfl (ct_X5_markOf   _ _ _ h) rfl rfl (Nat.le_of_ble_eq_true rfl) (k_i (fun r5 τ4 h => ?_))
  refine J_iadd cx dX5_pointedSize_20 ?_
  exact J_iret cx dX5_pointedSize_21 h
def wp_X5_sizeOf (a0 : Int32) (σ : PI) (Q : Int32 → PI → Prop) : Prop := vp_in ((nI 16) + a0) 70 ∧ (∀ x2 : Int32, x2 = (σ 280 (((nI 16) + a0) : Int32).toNatClampNeg) → ((¬ x2 = (nI 2) → (x2 < (nI 4) → wp_X5_pointedSize a0 σ (fun r6 τ5 => (Q r6 τ5))) ∧ (¬ x2 < (nI 4) → wp_X5_sizeOfIdle a0 σ (fun r8 τ7 => (Q r8 τ7)))) ∧ (x2 = (nI 2) → wp_X5_begin (nI 12) σ (fun τ9 => (wp_X5_pointedSize a0 τ9 (fun r11 τ10 => (Q (-r11) τ10)))))))
set_option maxRecDepth 100000 in
set_option maxHeartbeats 4000000 in
theorem ct_X5_sizeOf {l : Launch} {X : XP} (a0 : Int32) (σ : PI) (Q : Int32 → PI → Prop) (h : wp_X5_sizeOf  a0 σ Q) : Ct l yX5_sizeOf cX5_sizeOf 3 (some .int) 6 X [.ref (X.1 276), .int a0] σ (qI Q) := by
  refine Ct_of (L := [some (.ref (X.1 276)), some (.int a0), none]) (by decide) (Nat.le_of_ble_eq_true rfl) rfl (fun M hl cx => ?_)
  subst hl
  unfold wp_X5_sizeOf at h
  refine J_aload_n cx 0 dX5_sizeOf_0 rfl rfl ?_
  refine J_getR cx (j := 280) dX5_sizeOf_1 F_X5_19 (by decide) rfl rfl rfl ?_
  refine J_bipush cx dX5_sizeOf_4 (by decide : _ = ((nI 16) : Int32)) ?_
  refine J_iload_n cx 1 dX5_sizeOf_6 rfl rfl ?_
  refine J_iadd cx dX5_sizeOf_7 ?_
  obtain ⟨s1, h⟩ := h
  refine J_iald cx dX5_sizeOf_8 (by decide) rfl s1 ?_
  refine J_topi (fun x2 e_x2 => ?_)
  replace h := h x2 e_x2
  refine J_istore_n cx 2 dX5_sizeOf_9 rfl (by decide) rfl rfl ?_
  refine J_iload_n cx 2 dX5_sizeOf_10 rfl rfl ?_
  refine J_iconst cx dX5_sizeOf_11 (by decide : _ = ((nI 2) : Int32)) ?_
  refine J_icmp_ne cx (tgt := 28) dX5_sizeOf_12 (by decide) (fun q3 => ?_) (fun q3 => ?_)
  · replace h := h.1 q3
    refine J_iload_n cx 2 dX5_sizeOf_28 rfl rfl ?_
    refine J_iconst cx dX5_sizeOf_29 (by decide : _ = ((nI 4) : Int32)) ?_
    refine J_icmp_lt cx (tgt := 41) dX5_sizeOf_30 (by decide) (fun q4 => ?_) (fun q4 => ?_)
    · replace h := h.1 q4
      refine J_aload_n cx 0 dX5_sizeOf_41 rfl rfl ?_
      refine J_iload_n cx 1 dX5_sizeOf_42 rfl rfl ?_
      refine J_cV cx dX5_sizeOf_43 V_X5_273 (by decide) (by decide) rfl (ct_X5_pointedSize   _ _ _ h) rfl rfl (Nat.le_of_ble_eq_true rfl) (k_i (fun r6 τ5 h => ?_))
      exact J_iret cx dX5_sizeOf_46 h
    · replace h := h.2 q4
      refine J_aload_n cx 0 dX5_sizeOf_33 rfl rfl ?_
      refine J_iload_n cx 1 dX5_sizeOf_34 rfl rfl ?_
      refine J_cV cx dX5_sizeOf_35 V_X5_267 (by decide) (by decide) rfl (ct_X5_sizeOfIdle   _ _ _ h) rfl rfl (Nat.le_of_ble_eq_true rfl) (k_i (fun r8 τ7 h => ?_))
      refine J_goto cx (tgt := 46) dX5_sizeOf_38 (by decide) ?_
      exact J_iret cx dX5_sizeOf_46 h
  · replace h := h.2 q3
    refine J_aload_n cx 0 dX5_sizeOf_15 rfl rfl ?_
    refine J_bipush cx dX5_sizeOf_16 (by decide : _ = ((nI 12) : Int32)) ?_
    refine J_cV cx dX5_sizeOf_18 V_X5_255 (by decide) (by decide) rfl (ct_X5_begin   _ _ _ h) rfl rfl (Nat.le_of_ble_eq_true rfl) (k_v (fun τ9 h => ?_))
    refine J_aload_n cx 0 dX5_sizeOf_21 rfl rfl ?_
    refine J_iload_n cx 1 dX5_sizeOf_22 rfl rfl ?_
    refine J_cV cx dX5_sizeOf_23 V_X5_273 (by decide) (by decide) rfl (ct_X5_pointedSize   _ _ _ h) rfl rfl (Nat.le_of_ble_eq_true rfl) (k_i (fun r11 τ10 h => ?_))
    refine J_ineg cx dX5_sizeOf_26 ?_
    exact J_iret cx dX5_sizeOf_27 h
def wp_X5_ask (a0 : Int32) (a1 : Int32) (σ : PI) (Q : Int32 → PI → Prop) : Prop := wp_X5_isLeaver a0 σ (fun r2 τ1 => ((r2 = (nI 0) → Q (-1000001) τ1) ∧ (¬ r2 = (nI 0) → wp_X5_in (a1 : Int32).toInt64 (lN 0) (lN 1) τ1 (fun r5 τ4 => ((¬ r5 = (nI 0) → ∀ τ7 : PI, τ7 = up τ4 276 24 (nI 0) → ((¬ a1 = (nI 0) → wp_X5_markOf a0 τ7 (fun r10 τ9 => (Q r10 τ9))) ∧ (a1 = (nI 0) → wp_X5_sizeOf a0 τ7 (fun r12 τ11 => (Q r12 τ11))))) ∧ (r5 = (nI 0) → Q (-1000001) τ4))))))
set_option maxRecDepth 100000 in
set_option maxHeartbeats 4000000 in
theorem ct_X5_ask {l : Launch} {X : XP} (a0 : Int32) (a1 : Int32) (σ : PI) (Q : Int32 → PI → Prop) (h : wp_X5_ask  a0 a1 σ Q) : Ct l yX5_ask cX5_ask 3 (some .int) 7 X [.ref (X.1 276), .int a0, .int a1] σ (qI Q) := by
  refine Ct_of (L := [some (.ref (X.1 276)), some (.int a0), some (.int a1)]) (by decide) (Nat.le_of_ble_eq_true rfl) rfl (fun M hl cx => ?_)
  subst hl
  unfold wp_X5_ask at h
  refine J_aload_n cx 0 dX5_ask_0 rfl rfl ?_
  refine J_iload_n cx 1 dX5_ask_1 rfl rfl ?_
  refine J_cV cx dX5_ask_2 V_X5_180 (by decide) (by decide) rfl (ct_X5_isLeaver   _ _ _ h) rfl rfl (Nat.le_of_ble_eq_true rfl) (k_i (fun r2 τ1 h => ?_))
  refine J_if_eq cx (tgt := 18) dX5_ask_5 (by decide) (fun q3 => ?_) (fun q3 => ?_)
  · replace h := h.1 q3
    refine J_ldc cx (v := (-1000001)) dX5_ask_18 gw_742 ?_
    exact J_iret cx dX5_ask_20 h
  · replace h := h.2 q3
    refine J_iload_n cx 2 dX5_ask_8 rfl rfl ?_
    refine J_i2l cx dX5_ask_9 ?_
    refine J_lconst cx dX5_ask_10 (by decide : _ = ((lN 0) : Int64)) ?_
    refine J_lconst cx dX5_ask_11 (by decide : _ = ((lN 1) : Int64)) ?_
    refine J_cS cx dX5_ask_12 S_X5_54 (by decide) (ct_X5_in   _ _ _ _ _ h) rfl rfl (Nat.le_of_ble_eq_true rfl) (k_i (fun r5 τ4 h => ?_))
    refine J_if_ne cx (tgt := 21) dX5_ask_15 (by decide) (fun q6 => ?_) (fun q6 => ?_)
    · replace h := h.1 q6
      refine J_aload_n cx 0 dX5_ask_21 rfl rfl ?_
      refine J_iconst cx dX5_ask_22 (by decide : _ = ((nI 0) : Int32)) ?_
      refine J_putI cx dX5_ask_23 (P_X5_252 _) (by decide) rfl rfl ?_
      refine J_nm (fun τ7 e_τ7 => ?_)
      replace h := h τ7 e_τ7
      refine J_iload_n cx 2 dX5_ask_26 rfl rfl ?_
      refine J_if_ne cx (tgt := 38) dX5_ask_27 (by decide) (fun q8 => ?_) (fun q8 => ?_)
      · replace h := h.1 q8
        refine J_aload_n cx 0 dX5_ask_38 rfl rfl ?_
        refine J_iload_n cx 1 dX5_ask_39 rfl rfl ?_
        refine J_cV cx dX5_ask_40 V_X5_270 (by decide) (by decide) rfl (ct_X5_markOf   _ _ _ h) rfl rfl (Nat.le_of_ble_eq_true rfl) (k_i (fun r10 τ9 h => ?_))
        exact J_iret cx dX5_ask_43 h
      · replace h := h.2 q8
        refine J_aload_n cx 0 dX5_ask_30 rfl rfl ?_
        refine J_iload_n cx 1 dX5_ask_31 rfl rfl ?_
        refine J_cV cx dX5_ask_32 V_X5_276 (by decide) (by decide) rfl (ct_X5_sizeOf   _ _ _ h) rfl rfl (Nat.le_of_ble_eq_true rfl) (k_i (fun r12 τ11 h => ?_))
        refine J_goto cx (tgt := 43) dX5_ask_35 (by decide) ?_
        exact J_iret cx dX5_ask_43 h
    · replace h := h.2 q6
      refine J_ldc cx (v := (-1000001)) dX5_ask_18 gw_742 ?_
      exact J_iret cx dX5_ask_20 h
def wp_X5_trace (a0 : Int32) (σ : PI) (Q : Int32 → PI → Prop) : Prop := wp_X5_in (a0 : Int32).toInt64 (lN 0) (((σ 276 24) - (nI 1)) : Int32).toInt64 σ (fun r2 τ1 => ((r2 = (nI 0) → Q (-1000000) τ1) ∧ (¬ r2 = (nI 0) → vp_in a0 16 ∧ (Q (τ1 288 (a0 : Int32).toNatClampNeg) τ1))))
set_option maxRecDepth 100000 in
set_option maxHeartbeats 4000000 in
theorem ct_X5_trace {l : Launch} {X : XP} (a0 : Int32) (σ : PI) (Q : Int32 → PI → Prop) (h : wp_X5_trace  a0 σ Q) : Ct l yX5_trace cX5_trace 2 (some .int) 1 X [.ref (X.1 276), .int a0] σ (qI Q) := by
  refine Ct_of (L := [some (.ref (X.1 276)), some (.int a0)]) (by decide) (Nat.le_of_ble_eq_true rfl) rfl (fun M hl cx => ?_)
  subst hl
  unfold wp_X5_trace at h
  refine J_iload_n cx 1 dX5_trace_0 rfl rfl ?_
  refine J_i2l cx dX5_trace_1 ?_
  refine J_lconst cx dX5_trace_2 (by decide : _ = ((lN 0) : Int64)) ?_
  refine J_aload_n cx 0 dX5_trace_3 rfl rfl ?_
  refine J_getI cx dX5_trace_4 F_X5_252 (by decide) rfl rfl ?_
  refine J_iconst cx dX5_trace_7 (by decide : _ = ((nI 1) : Int32)) ?_
  refine J_isub cx dX5_trace_8 ?_
  refine J_i2l cx dX5_trace_9 ?_
  refine J_cS cx dX5_trace_10 S_X5_54 (by decide) (ct_X5_in   _ _ _ _ _ h) rfl rfl (Nat.le_of_ble_eq_true rfl) (k_i (fun r2 τ1 h => ?_))
  refine J_if_eq cx (tgt := 25) dX5_trace_13 (by decide) (fun q3 => ?_) (fun q3 => ?_)
  · replace h := h.1 q3
    refine J_ldc cx (v := (-1000000)) dX5_trace_25 gw_925 ?_
    exact J_iret cx dX5_trace_27 h
  · replace h := h.2 q3
    refine J_aload_n cx 0 dX5_trace_16 rfl rfl ?_
    refine J_getR cx (j := 288) dX5_trace_17 F_X5_44 (by decide) rfl rfl rfl ?_
    refine J_iload_n cx 1 dX5_trace_20 rfl rfl ?_
    obtain ⟨s4, h⟩ := h
    refine J_iald cx dX5_trace_21 (by decide) rfl s4 ?_
    refine J_goto cx (tgt := 27) dX5_trace_22 (by decide) ?_
    exact J_iret cx dX5_trace_27 h
def w_X5_count_25 (K4 : (Int32 × Int32 × Int32 × PI → Prop)) (Q : Int32 → PI → Prop) (l1 : Int32) (l3 : Int32) (s0 : Int32) (s1 : Int32) (σ : PI) : Prop := ∀ x15 : Int32, x15 = (s1 + s0) → (K4 (l1, x15, (l3 + (nI 1)), σ))
set_option maxRecDepth 100000 in
set_option maxHeartbeats 4000000 in
theorem j_X5_count_25 {M : MC} {X : XP} {Q : Int32 → PI → Prop} (K4 : (Int32 × Int32 × Int32 × PI → Prop)) (hK4 : ∀ (l1 : Int32) (l2 : Int32) (l3 : Int32) (σ : PI), K4 (l1, l2, l3, σ) → J M X (QF M X (qI Q)) σ 4 [some (.ref (X.1 276)), some (.int l1), some (.int l2), some (.int l3)] []) (cx : Cx M X RX5 cX5_count 4 (some .int) 1) (l1 : Int32) (l3 : Int32) (s0 : Int32) (s1 : Int32) (σ : PI) (h : w_X5_count_25  K4 Q l1 l3 s0 s1 σ) : J M X (QF M X (qI Q)) σ 25 [some (.ref (X.1 276)), some (.int l1), none, some (.int l3)] [.int s0, .int s1] := by
  unfold w_X5_count_25 at h
  refine J_iadd cx dX5_count_25 ?_
  refine J_topi (fun x15 e_x15 => ?_)
  replace h := h x15 e_x15
  refine J_istore_n cx 2 dX5_count_26 rfl (by decide) rfl rfl ?_
  refine J_iinc cx dX5_count_27 rfl (by decide : _ = ((nI 1) : Int32)) (by decide) rfl rfl ?_
  refine J_goto cx (tgt := 4) dX5_count_30 (by decide) ?_
  exact hK4   _ _ _ _ h
def B_X5_count_4 (K4 : (Int32 × Int32 × Int32 × PI → Prop)) (Q : Int32 → PI → Prop) (l1 : Int32) (l2 : Int32) (l3 : Int32) (σ : PI) : Prop := ((nI 8) ≤ l3 → (l1 = (nI 0) → Q l2 σ) ∧ (l1 = (nI 1) → Q (σ 280 2) σ) ∧ (l1 = (nI 2) → Q (σ 280 3) σ) ∧ (l1 = (nI 3) → Q (σ 280 4) σ) ∧ (l1 = (nI 4) → wp_X5_allFeel  σ (fun r8 τ7 => (Q r8 τ7))) ∧ (l1 = (nI 5) → Q (σ 280 5) σ) ∧ (l1 = (nI 6) → Q (σ 276 19) σ) ∧ (l1 = (nI 7) → Q (σ 276 9) σ) ∧ ((l1 : Int32).toInt < 0 ∨ 7 < (l1 : Int32).toInt → Q (-1000001) σ)) ∧ (¬ (nI 8) ≤ l3 → vp_in l3 8 ∧ (((σ 278 (l3 : Int32).toNatClampNeg) < (nI 0) → w_X5_count_25  K4 Q l1 l3 (nI 0) l2 σ) ∧ (¬ (σ 278 (l3 : Int32).toNatClampNeg) < (nI 0) → w_X5_count_25  K4 Q l1 l3 (nI 1) l2 σ)))
def w_X5_count_4 (Q : Int32 → PI → Prop) (l1 : Int32) (l2 : Int32) (l3 : Int32) (σ : PI) : Prop := ∃ n, Lp (fun K a => B_X5_count_4   K Q a.1 a.2.1 a.2.2.1 a.2.2.2) n (l1, l2, l3, σ)
set_option maxRecDepth 100000 in
set_option maxHeartbeats 4000000 in
theorem j_X5_count_4 {M : MC} {X : XP} {Q : Int32 → PI → Prop} (cx : Cx M X RX5 cX5_count 4 (some .int) 1) (l1 : Int32) (l2 : Int32) (l3 : Int32) (σ : PI) (h : w_X5_count_4   Q l1 l2 l3 σ) : J M X (QF M X (qI Q)) σ 4 [some (.ref (X.1 276)), some (.int l1), some (.int l2), some (.int l3)] [] := by
  refine Lp_J (P := fun (a : Int32 × Int32 × Int32 × PI) => J M X (QF M X (qI Q)) (a.2.2.2) 4 [some (.ref (X.1 276)), some (.int a.1), some (.int a.2.1), some (.int a.2.2.1)] []) (fun K4 hK a h => ?_) h
  obtain ⟨l1, l2, l3, σ⟩ := a
  have hK4 : ∀ (l1 : Int32) (l2 : Int32) (l3 : Int32) (σ : PI), K4 (l1, l2, l3, σ) → J M X (QF M X (qI Q)) σ 4 [some (.ref (X.1 276)), some (.int l1), some (.int l2), some (.int l3)] [] := fun l1 l2 l3 σ q => hK _ q
  replace h : B_X5_count_4   K4 Q l1 l2 l3 σ := h
  show J M X (QF M X (qI Q)) σ 4 [some (.ref (X.1 276)), some (.int l1), some (.int l2), some (.int l3)] []
  unfold B_X5_count_4 at h
  refine J_iload_n cx 3 dX5_count_4 rfl rfl ?_
  refine J_bipush cx dX5_count_5 (by decide : _ = ((nI 8) : Int32)) ?_
  refine J_icmp_ge cx (tgt := 33) dX5_count_7 (by decide) (fun q1 => ?_) (fun q1 => ?_)
  · replace h := h.1 q1
    refine J_iload_n cx 1 dX5_count_33 rfl rfl ?_
    by_cases q2 : l1 = (nI 0)
    · refine J_tsI cx (tgt := 80) (nI 0) q2 dX5_count_34 (by decide) (by decide) rfl (by decide) ?_
      replace h := h.1 q2
      refine J_iload_n cx 2 dX5_count_80 rfl rfl ?_
      exact J_iret cx dX5_count_81 h
    by_cases q3 : l1 = (nI 1)
    · refine J_tsI cx (tgt := 82) (nI 1) q3 dX5_count_34 (by decide) (by decide) rfl (by decide) ?_
      replace h := h.2.1 q3
      refine J_aload_n cx 0 dX5_count_82 rfl rfl ?_
      refine J_getR cx (j := 280) dX5_count_83 F_X5_19 (by decide) rfl rfl rfl ?_
      refine J_iconst cx dX5_count_86 (by decide : _ = ((nI 2) : Int32)) ?_
      refine J_iald cx dX5_count_87 (by decide) rfl (vpl (by decide)) ?_
      exact J_iret cx dX5_count_88 h
    by_cases q4 : l1 = (nI 2)
    · refine J_tsI cx (tgt := 89) (nI 2) q4 dX5_count_34 (by decide) (by decide) rfl (by decide) ?_
      replace h := h.2.2.1 q4
      refine J_aload_n cx 0 dX5_count_89 rfl rfl ?_
      refine J_getR cx (j := 280) dX5_count_90 F_X5_19 (by decide) rfl rfl rfl ?_
      refine J_iconst cx dX5_count_93 (by decide : _ = ((nI 3) : Int32)) ?_
      refine J_iald cx dX5_count_94 (by decide) rfl (vpl (by decide)) ?_
      exact J_iret cx dX5_count_95 h
    by_cases q5 : l1 = (nI 3)
    · refine J_tsI cx (tgt := 96) (nI 3) q5 dX5_count_34 (by decide) (by decide) rfl (by decide) ?_
      replace h := h.2.2.2.1 q5
      refine J_aload_n cx 0 dX5_count_96 rfl rfl ?_
      refine J_getR cx (j := 280) dX5_count_97 F_X5_19 (by decide) rfl rfl rfl ?_
      refine J_iconst cx dX5_count_100 (by decide : _ = ((nI 4) : Int32)) ?_
      refine J_iald cx dX5_count_101 (by decide) rfl (vpl (by decide)) ?_
      exact J_iret cx dX5_count_102 h
    by_cases q6 : l1 = (nI 4)
    · refine J_tsI cx (tgt := 103) (nI 4) q6 dX5_count_34 (by decide) (by decide) rfl (by decide) ?_
      replace h := h.2.2.2.2.1 q6
      refine J_aload_n cx 0 dX5_count_103 rfl rfl ?_
      refine J_cV cx dX5_count_104 V_X5_176 (by decide) (by decide) rfl (ct_X5_allFeel    _ _ h) rfl rfl (Nat.le_of_ble_eq_true rfl) (k_i (fun r8 τ7 h => ?_))
      exact J_iret cx dX5_count_107 h
    by_cases q9 : l1 = (nI 5)
    · refine J_tsI cx (tgt := 108) (nI 5) q9 dX5_count_34 (by decide) (by decide) rfl (by decide) ?_
      replace h := h.2.2.2.2.2.1 q9
      refine J_aload_n cx 0 dX5_count_108 rfl rfl ?_
      refine J_getR cx (j := 280) dX5_count_109 F_X5_19 (by decide) rfl rfl rfl ?_
      refine J_iconst cx dX5_count_112 (by decide : _ = ((nI 5) : Int32)) ?_
      refine J_iald cx dX5_count_113 (by decide) rfl (vpl (by decide)) ?_
      exact J_iret cx dX5_count_114 h
    by_cases q10 : l1 = (nI 6)
    · refine J_tsI cx (tgt := 115) (nI 6) q10 dX5_count_34 (by decide) (by decide) rfl (by decide) ?_
      replace h := h.2.2.2.2.2.2.1 q10
      refine J_aload_n cx 0 dX5_count_115 rfl rfl ?_
      refine J_getI cx dX5_count_116 F_X5_139 (by decide) rfl rfl ?_
      exact J_iret cx dX5_count_119 h
    by_cases q11 : l1 = (nI 7)
    · refine J_tsI cx (tgt := 120) (nI 7) q11 dX5_count_34 (by decide) (by decide) rfl (by decide) ?_
      replace h := h.2.2.2.2.2.2.2.1 q11
      refine J_aload_n cx 0 dX5_count_120 rfl rfl ?_
      refine J_getI cx dX5_count_121 F_X5_78 (by decide) rfl rfl ?_
      exact J_iret cx dX5_count_124 h
    have n_q2 := lv_neT (a := 0) q2 rfl
    have n_q3 := lv_neT (a := 1) q3 rfl
    have n_q4 := lv_neT (a := 2) q4 rfl
    have n_q5 := lv_neT (a := 3) q5 rfl
    have n_q6 := lv_neT (a := 4) q6 rfl
    have n_q9 := lv_neT (a := 5) q9 rfl
    have n_q10 := lv_neT (a := 6) q10 rfl
    have n_q11 := lv_neT (a := 7) q11 rfl
    have q12 : (l1 : Int32).toInt < 0 ∨ 7 < (l1 : Int32).toInt := by omega
    refine J_tsO cx (tgt := 125) dX5_count_34 q12 (by decide) ?_
    replace h := h.2.2.2.2.2.2.2.2 q12
    refine J_ldc cx (v := (-1000001)) dX5_count_125 gw_742 ?_
    exact J_iret cx dX5_count_127 h
  · replace h := h.2 q1
    refine J_iload_n cx 2 dX5_count_10 rfl rfl ?_
    refine J_aload_n cx 0 dX5_count_11 rfl rfl ?_
    refine J_getR cx (j := 278) dX5_count_12 F_X5_13 (by decide) rfl rfl rfl ?_
    refine J_iload_n cx 3 dX5_count_15 rfl rfl ?_
    obtain ⟨s13, h⟩ := h
    refine J_iald cx dX5_count_16 (by decide) rfl s13 ?_
    refine J_if_lt cx (tgt := 24) dX5_count_17 (by decide) (fun q14 => ?_) (fun q14 => ?_)
    · replace h := h.1 q14
      refine J_iconst cx dX5_count_24 (by decide : _ = ((nI 0) : Int32)) ?_
      refine J_fg 2 rfl ?_
      exact j_X5_count_25   K4 hK4 cx   _ _ _ _ _ h
    · replace h := h.2 q14
      refine J_iconst cx dX5_count_20 (by decide : _ = ((nI 1) : Int32)) ?_
      refine J_goto cx (tgt := 25) dX5_count_21 (by decide) ?_
      refine J_fg 2 rfl ?_
      exact j_X5_count_25   K4 hK4 cx   _ _ _ _ _ h
def wp_X5_count (a0 : Int32) (σ : PI) (Q : Int32 → PI → Prop) : Prop := w_X5_count_4   Q a0 (nI 0) (nI 0) σ
set_option maxRecDepth 100000 in
set_option maxHeartbeats 4000000 in
theorem ct_X5_count {l : Launch} {X : XP} (a0 : Int32) (σ : PI) (Q : Int32 → PI → Prop) (h : wp_X5_count  a0 σ Q) : Ct l yX5_count cX5_count 4 (some .int) 1 X [.ref (X.1 276), .int a0] σ (qI Q) := by
  refine Ct_of (L := [some (.ref (X.1 276)), some (.int a0), none, none]) (by decide) (Nat.le_of_ble_eq_true rfl) rfl (fun M hl cx => ?_)
  subst hl
  unfold wp_X5_count at h
  refine J_iconst cx dX5_count_0 (by decide : _ = ((nI 0) : Int32)) ?_
  refine J_istore_n cx 2 dX5_count_1 rfl (by decide) rfl rfl ?_
  refine J_iconst cx dX5_count_2 (by decide : _ = ((nI 0) : Int32)) ?_
  refine J_istore_n cx 3 dX5_count_3 rfl (by decide) rfl rfl ?_
  exact j_X5_count_4     cx   _ _ _ _ h
def wp_X5_status (σ : PI) (Q : Int32 → PI → Prop) : Prop := Q (σ 276 3) σ
set_option maxRecDepth 100000 in
set_option maxHeartbeats 4000000 in
theorem ct_X5_status {l : Launch} {X : XP} (σ : PI) (Q : Int32 → PI → Prop) (h : wp_X5_status   σ Q) : Ct l yX5_status cX5_status 1 (some .int) 0 X [.ref (X.1 276)] σ (qI Q) := by
  refine Ct_of (L := [some (.ref (X.1 276))]) (by decide) (Nat.le_of_ble_eq_true rfl) rfl (fun M hl cx => ?_)
  subst hl
  unfold wp_X5_status at h
  refine J_aload_n cx 0 dX5_status_0 rfl rfl ?_
  refine J_getI cx dX5_status_1 F_X5_47 (by decide) rfl rfl ?_
  exact J_iret cx dX5_status_4 h
