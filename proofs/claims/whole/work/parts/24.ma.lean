def wp_X5_in (a0 : Int64) (a1 : Int64) (a2 : Int64) (σ : PI) (Q : Int32 → PI → Prop) : Prop := ((lg_cmp a0 a1) < (nI 0) → Q (nI 0) σ) ∧ (¬ (lg_cmp a0 a1) < (nI 0) → ((nI 0) < (lg_cmp a0 a2) → Q (nI 0) σ) ∧ (¬ (nI 0) < (lg_cmp a0 a2) → Q (nI 1) σ))
set_option maxRecDepth 100000 in
set_option maxHeartbeats 4000000 in
theorem ct_X5_in {l : Launch} {X : XP} (a0 : Int64) (a1 : Int64) (a2 : Int64) (σ : PI) (Q : Int32 → PI → Prop) (h : wp_X5_in  a0 a1 a2 σ Q) : Ct l yX5_in cX5_in 6 (some .boolean) 0 X [.long a0, .long a1, .long a2] σ (qI Q) := by
  refine Ct_of (L := [some (.long a0), none, some (.long a1), none, some (.long a2), none]) (by decide) (Nat.le_of_ble_eq_true rfl) rfl (fun M hl cx => ?_)
  subst hl
  unfold wp_X5_in at h
  refine J_lload_n cx 0 dX5_in_0 rfl rfl ?_
  refine J_lload_n cx 2 dX5_in_1 rfl rfl ?_
  refine J_lcmp cx dX5_in_2 ?_
  refine J_if_lt cx (tgt := 17) dX5_in_3 (by decide) (fun q1 => ?_) (fun q1 => ?_)
  · replace h := h.1 q1
    refine J_iconst cx dX5_in_17 (by decide : _ = ((nI 0) : Int32)) ?_
    exact J_zret cx dX5_in_18 (Or.inl rfl) h
  · replace h := h.2 q1
    refine J_lload_n cx 0 dX5_in_6 rfl rfl ?_
    refine J_lload cx dX5_in_7 rfl ?_
    refine J_lcmp cx dX5_in_9 ?_
    refine J_if_gt cx (tgt := 17) dX5_in_10 (by decide) (fun q2 => ?_) (fun q2 => ?_)
    · replace h := h.1 q2
      refine J_iconst cx dX5_in_17 (by decide : _ = ((nI 0) : Int32)) ?_
      exact J_zret cx dX5_in_18 (Or.inl rfl) h
    · replace h := h.2 q2
      refine J_iconst cx dX5_in_13 (by decide : _ = ((nI 1) : Int32)) ?_
      refine J_goto cx (tgt := 18) dX5_in_14 (by decide) ?_
      exact J_zret cx dX5_in_18 (Or.inr rfl) h
def wp_X5_has (a0 : Int32) (a1 : Int32) (σ : PI) (Q : Int32 → PI → Prop) : Prop := (¬ ((a0 >>> (a1 &&& 31)) &&& (nI 1)) = (nI 1) → Q (nI 0) σ) ∧ (((a0 >>> (a1 &&& 31)) &&& (nI 1)) = (nI 1) → Q (nI 1) σ)
set_option maxRecDepth 100000 in
set_option maxHeartbeats 4000000 in
theorem ct_X5_has {l : Launch} {X : XP} (a0 : Int32) (a1 : Int32) (σ : PI) (Q : Int32 → PI → Prop) (h : wp_X5_has  a0 a1 σ Q) : Ct l yX5_has cX5_has 2 (some .boolean) 0 X [.int a0, .int a1] σ (qI Q) := by
  refine Ct_of (L := [some (.int a0), some (.int a1)]) (by decide) (Nat.le_of_ble_eq_true rfl) rfl (fun M hl cx => ?_)
  subst hl
  unfold wp_X5_has at h
  refine J_iload_n cx 0 dX5_has_0 rfl rfl ?_
  refine J_iload_n cx 1 dX5_has_1 rfl rfl ?_
  refine J_ishr cx dX5_has_2 ?_
  refine J_iconst cx dX5_has_3 (by decide : _ = ((nI 1) : Int32)) ?_
  refine J_iand cx dX5_has_4 ?_
  refine J_iconst cx dX5_has_5 (by decide : _ = ((nI 1) : Int32)) ?_
  refine J_icmp_ne cx (tgt := 13) dX5_has_6 (by decide) (fun q1 => ?_) (fun q1 => ?_)
  · replace h := h.1 q1
    refine J_iconst cx dX5_has_13 (by decide : _ = ((nI 0) : Int32)) ?_
    exact J_zret cx dX5_has_14 (Or.inl rfl) h
  · replace h := h.2 q1
    refine J_iconst cx dX5_has_9 (by decide : _ = ((nI 1) : Int32)) ?_
    refine J_goto cx (tgt := 14) dX5_has_10 (by decide) ?_
    exact J_zret cx dX5_has_14 (Or.inr rfl) h
def B_X5_ones_4 (K4 : (Int32 × Int32 × PI → Prop)) (Q : Int32 → PI → Prop) (l1 : Int32) (l2 : Int32) (σ : PI) : Prop := (l2 = (nI 0) → Q l1 σ) ∧ (¬ l2 = (nI 0) → ∀ x2 : Int32, x2 = (l2 &&& (l2 - (nI 1))) → (K4 ((l1 + (nI 1)), x2, σ)))
def w_X5_ones_4 (Q : Int32 → PI → Prop) (l1 : Int32) (l2 : Int32) (σ : PI) : Prop := ∃ n, Lp (fun K a => B_X5_ones_4   K Q a.1 a.2.1 a.2.2) n (l1, l2, σ)
set_option maxRecDepth 100000 in
set_option maxHeartbeats 4000000 in
theorem j_X5_ones_4 {M : MC} {X : XP} {Q : Int32 → PI → Prop} (cx : Cx M X RX5 cX5_ones 3 (some .int) 0) (l1 : Int32) (l2 : Int32) (σ : PI) (h : w_X5_ones_4   Q l1 l2 σ) : J M X (QF M X (qI Q)) σ 4 [none, some (.int l1), some (.int l2)] [] := by
  refine Lp_J (P := fun (a : Int32 × Int32 × PI) => J M X (QF M X (qI Q)) (a.2.2) 4 [none, some (.int a.1), some (.int a.2.1)] []) (fun K4 hK a h => ?_) h
  obtain ⟨l1, l2, σ⟩ := a
  have hK4 : ∀ (l1 : Int32) (l2 : Int32) (σ : PI), K4 (l1, l2, σ) → J M X (QF M X (qI Q)) σ 4 [none, some (.int l1), some (.int l2)] [] := fun l1 l2 σ q => hK _ q
  replace h : B_X5_ones_4   K4 Q l1 l2 σ := h
  show J M X (QF M X (qI Q)) σ 4 [none, some (.int l1), some (.int l2)] []
  unfold B_X5_ones_4 at h
  refine J_iload_n cx 2 dX5_ones_4 rfl rfl ?_
  refine J_if_eq cx (tgt := 20) dX5_ones_5 (by decide) (fun q1 => ?_) (fun q1 => ?_)
  · replace h := h.1 q1
    refine J_iload_n cx 1 dX5_ones_20 rfl rfl ?_
    exact J_iret cx dX5_ones_21 h
  · replace h := h.2 q1
    refine J_iinc cx dX5_ones_8 rfl (by decide : _ = ((nI 1) : Int32)) (by decide) rfl rfl ?_
    refine J_iload_n cx 2 dX5_ones_11 rfl rfl ?_
    refine J_iload_n cx 2 dX5_ones_12 rfl rfl ?_
    refine J_iconst cx dX5_ones_13 (by decide : _ = ((nI 1) : Int32)) ?_
    refine J_isub cx dX5_ones_14 ?_
    refine J_iand cx dX5_ones_15 ?_
    refine J_topi (fun x2 e_x2 => ?_)
    replace h := h x2 e_x2
    refine J_istore_n cx 2 dX5_ones_16 rfl (by decide) rfl rfl ?_
    refine J_goto cx (tgt := 4) dX5_ones_17 (by decide) ?_
    exact hK4   _ _ _ h
def wp_X5_ones (a0 : Int32) (σ : PI) (Q : Int32 → PI → Prop) : Prop := w_X5_ones_4   Q (nI 0) a0 σ
set_option maxRecDepth 100000 in
set_option maxHeartbeats 4000000 in
theorem ct_X5_ones {l : Launch} {X : XP} (a0 : Int32) (σ : PI) (Q : Int32 → PI → Prop) (h : wp_X5_ones  a0 σ Q) : Ct l yX5_ones cX5_ones 3 (some .int) 0 X [.int a0] σ (qI Q) := by
  refine Ct_of (L := [some (.int a0), none, none]) (by decide) (Nat.le_of_ble_eq_true rfl) rfl (fun M hl cx => ?_)
  subst hl
  unfold wp_X5_ones at h
  refine J_iconst cx dX5_ones_0 (by decide : _ = ((nI 0) : Int32)) ?_
  refine J_istore_n cx 1 dX5_ones_1 rfl (by decide) rfl rfl ?_
  refine J_iload_n cx 0 dX5_ones_2 rfl rfl ?_
  refine J_istore_n cx 2 dX5_ones_3 rfl (by decide) rfl rfl ?_
  refine J_fg 0 rfl ?_
  exact j_X5_ones_4     cx   _ _ _ h
def wp_X5_find (a0 : Int32) (σ : PI) (Q : Int32 → PI → Prop) : Prop := ∀ τ1 : PI, τ1 = up σ 276 3 a0 → (Q ((-1000010) - a0) τ1)
set_option maxRecDepth 100000 in
set_option maxHeartbeats 4000000 in
theorem ct_X5_find {l : Launch} {X : XP} (a0 : Int32) (σ : PI) (Q : Int32 → PI → Prop) (h : wp_X5_find  a0 σ Q) : Ct l yX5_find cX5_find 2 (some .int) 0 X [.ref (X.1 276), .int a0] σ (qI Q) := by
  refine Ct_of (L := [some (.ref (X.1 276)), some (.int a0)]) (by decide) (Nat.le_of_ble_eq_true rfl) rfl (fun M hl cx => ?_)
  subst hl
  unfold wp_X5_find at h
  refine J_aload_n cx 0 dX5_find_0 rfl rfl ?_
  refine J_iload_n cx 1 dX5_find_1 rfl rfl ?_
  refine J_putI cx dX5_find_2 (P_X5_47 _) (by decide) rfl rfl ?_
  refine J_nm (fun τ1 e_τ1 => ?_)
  replace h := h τ1 e_τ1
  refine J_ldc cx (v := (-1000010)) dX5_find_5 gw_747 ?_
  refine J_iload_n cx 1 dX5_find_7 rfl rfl ?_
  refine J_isub cx dX5_find_8 ?_
  exact J_iret cx dX5_find_9 h
def wp_X5_well (a0 : Int32) (σ : PI) (Q : Int32 → PI → Prop) : Prop := ∀ τ1 : PI, τ1 = up σ 276 3 (nI 0) → (Q a0 τ1)
set_option maxRecDepth 100000 in
set_option maxHeartbeats 4000000 in
theorem ct_X5_well {l : Launch} {X : XP} (a0 : Int32) (σ : PI) (Q : Int32 → PI → Prop) (h : wp_X5_well  a0 σ Q) : Ct l yX5_well cX5_well 2 (some .int) 0 X [.ref (X.1 276), .int a0] σ (qI Q) := by
  refine Ct_of (L := [some (.ref (X.1 276)), some (.int a0)]) (by decide) (Nat.le_of_ble_eq_true rfl) rfl (fun M hl cx => ?_)
  subst hl
  unfold wp_X5_well at h
  refine J_aload_n cx 0 dX5_well_0 rfl rfl ?_
  refine J_iconst cx dX5_well_1 (by decide : _ = ((nI 0) : Int32)) ?_
  refine J_putI cx dX5_well_2 (P_X5_47 _) (by decide) rfl rfl ?_
  refine J_nm (fun τ1 e_τ1 => ?_)
  replace h := h τ1 e_τ1
  refine J_iload_n cx 1 dX5_well_5 rfl rfl ?_
  exact J_iret cx dX5_well_6 h
def wp_X5_isRow (a0 : Int32) (σ : PI) (Q : Int32 → PI → Prop) : Prop := wp_X5_in (a0 : Int32).toInt64 (lN 0) (lN 7) σ (fun r2 τ1 => (bz r2 ∧ Q r2 τ1))
set_option maxRecDepth 100000 in
set_option maxHeartbeats 4000000 in
theorem ct_X5_isRow {l : Launch} {X : XP} (a0 : Int32) (σ : PI) (Q : Int32 → PI → Prop) (h : wp_X5_isRow  a0 σ Q) : Ct l yX5_isRow cX5_isRow 1 (some .boolean) 1 X [.int a0] σ (qI Q) := by
  refine Ct_of (L := [some (.int a0)]) (by decide) (Nat.le_of_ble_eq_true rfl) rfl (fun M hl cx => ?_)
  subst hl
  unfold wp_X5_isRow at h
  refine J_iload_n cx 0 dX5_isRow_0 rfl rfl ?_
  refine J_i2l cx dX5_isRow_1 ?_
  refine J_lconst cx dX5_isRow_2 (by decide : _ = ((lN 0) : Int64)) ?_
  refine J_ldc2 cx (v := (lN 7)) dX5_isRow_3 gw_737 ?_
  refine J_cS cx dX5_isRow_6 S_X5_54 (by decide) (ct_X5_in   _ _ _ _ _ h) rfl rfl (Nat.le_of_ble_eq_true rfl) (k_i (fun r2 τ1 h => ?_))
  exact J_zret cx dX5_isRow_9 h.1 h.2
def B_X5_row_55 (K55 : (Int32 × Int32 × Int32 × PI → Prop)) (Q : Int32 → PI → Prop) (l1 : Int32) (l3 : Int32) (l4 : Int32) (σ : PI) : Prop := ((nI 40) ≤ l4 → wp_X5_well l3 σ (fun r17 τ16 => (Q r17 τ16))) ∧ (¬ (nI 40) ≤ l4 → vp_in (((nI 40) * l1) + l4) 320 ∧ (∀ τ19 : PI, τ19 = up σ 279 ((((nI 40) * l1) + l4) : Int32).toNatClampNeg (nI 0) → (K55 (l1, l3, (l4 + (nI 1)), τ19))))
def w_X5_row_55 (Q : Int32 → PI → Prop) (l1 : Int32) (l3 : Int32) (l4 : Int32) (σ : PI) : Prop := ∃ n, Lp (fun K a => B_X5_row_55   K Q a.1 a.2.1 a.2.2.1 a.2.2.2) n (l1, l3, l4, σ)
set_option maxRecDepth 100000 in
set_option maxHeartbeats 4000000 in
theorem j_X5_row_55 {M : MC} {X : XP} {Q : Int32 → PI → Prop} (cx : Cx M X RX5 cX5_row 5 (some .int) 2) (l1 : Int32) (l3 : Int32) (l4 : Int32) (σ : PI) (h : w_X5_row_55   Q l1 l3 l4 σ) : J M X (QF M X (qI Q)) σ 55 [some (.ref (X.1 276)), some (.int l1), none, some (.int l3), some (.int l4)] [] := by
  refine Lp_J (P := fun (a : Int32 × Int32 × Int32 × PI) => J M X (QF M X (qI Q)) (a.2.2.2) 55 [some (.ref (X.1 276)), some (.int a.1), none, some (.int a.2.1), some (.int a.2.2.1)] []) (fun K55 hK a h => ?_) h
  obtain ⟨l1, l3, l4, σ⟩ := a
  have hK55 : ∀ (l1 : Int32) (l3 : Int32) (l4 : Int32) (σ : PI), K55 (l1, l3, l4, σ) → J M X (QF M X (qI Q)) σ 55 [some (.ref (X.1 276)), some (.int l1), none, some (.int l3), some (.int l4)] [] := fun l1 l3 l4 σ q => hK _ q
  replace h : B_X5_row_55   K55 Q l1 l3 l4 σ := h
  show J M X (QF M X (qI Q)) σ 55 [some (.ref (X.1 276)), some (.int l1), none, some (.int l3), some (.int l4)] []
  unfold B_X5_row_55 at h
  refine J_iload cx dX5_row_55 rfl ?_
  refine J_bipush cx dX5_row_57 (by decide : _ = ((nI 40) : Int32)) ?_
  refine J_icmp_ge cx (tgt := 81) dX5_row_59 (by decide) (fun q15 => ?_) (fun q15 => ?_)
  · replace h := h.1 q15
    refine J_aload_n cx 0 dX5_row_81 rfl rfl ?_
    refine J_iload_n cx 3 dX5_row_82 rfl rfl ?_
    refine J_cV cx dX5_row_83 V_X5_69 (by decide) (by decide) rfl (ct_X5_well   _ _ _ h) rfl rfl (Nat.le_of_ble_eq_true rfl) (k_i (fun r17 τ16 h => ?_))
    exact J_iret cx dX5_row_86 h
  · replace h := h.2 q15
    refine J_aload_n cx 0 dX5_row_62 rfl rfl ?_
    refine J_getR cx (j := 279) dX5_row_63 F_X5_16 (by decide) rfl rfl rfl ?_
    refine J_bipush cx dX5_row_66 (by decide : _ = ((nI 40) : Int32)) ?_
    refine J_iload_n cx 1 dX5_row_68 rfl rfl ?_
    refine J_imul cx dX5_row_69 ?_
    refine J_iload cx dX5_row_70 rfl ?_
    refine J_iadd cx dX5_row_72 ?_
    refine J_iconst cx dX5_row_73 (by decide : _ = ((nI 0) : Int32)) ?_
    obtain ⟨s18, h⟩ := h
    refine J_iast cx dX5_row_74 (by decide) rfl s18 ?_
    refine J_nm (fun τ19 e_τ19 => ?_)
    replace h := h τ19 e_τ19
    refine J_iinc cx dX5_row_75 rfl (by decide : _ = ((nI 1) : Int32)) (by decide) rfl rfl ?_
    refine J_goto cx (tgt := 55) dX5_row_78 (by decide) ?_
    exact hK55   _ _ _ _ h
def wp_X5_row (a0 : Int32) (a1 : Int32) (a2 : Int32) (σ : PI) (Q : Int32 → PI → Prop) : Prop := wp_X5_isRow a0 σ (fun r2 τ1 => ((r2 = (nI 0) → Q (-1000001) τ1) ∧ (¬ r2 = (nI 0) → wp_X5_in (a1 : Int32).toInt64 (lN 0) (lN 2) τ1 (fun r5 τ4 => ((r5 = (nI 0) → Q (-1000001) τ4) ∧ (¬ r5 = (nI 0) → (a2 ≤ (nI 40) → ((nI 0) ≤ a2 → vp_in a0 8 ∧ (∀ τ10 : PI, τ10 = up τ4 277 (a0 : Int32).toNatClampNeg a1 → (vp_in a0 8 ∧ (∀ τ12 : PI, τ12 = up τ10 278 (a0 : Int32).toNatClampNeg a2 → (w_X5_row_55   Q a0 a2 (nI 0) τ12))))) ∧ (¬ (nI 0) ≤ a2 → wp_X5_find (nI 4) τ4 (fun r14 τ13 => (Q r14 τ13)))) ∧ (¬ a2 ≤ (nI 40) → Q (-1000001) τ4)))))))
set_option maxRecDepth 100000 in
set_option maxHeartbeats 4000000 in
theorem ct_X5_row {l : Launch} {X : XP} (a0 : Int32) (a1 : Int32) (a2 : Int32) (σ : PI) (Q : Int32 → PI → Prop) (h : wp_X5_row  a0 a1 a2 σ Q) : Ct l yX5_row cX5_row 5 (some .int) 2 X [.ref (X.1 276), .int a0, .int a1, .int a2] σ (qI Q) := by
  refine Ct_of (L := [some (.ref (X.1 276)), some (.int a0), some (.int a1), some (.int a2), none]) (by decide) (Nat.le_of_ble_eq_true rfl) rfl (fun M hl cx => ?_)
  subst hl
  unfold wp_X5_row at h
  refine J_iload_n cx 1 dX5_row_0 rfl rfl ?_
  refine J_cS cx dX5_row_1 S_X5_58 (by decide) (ct_X5_isRow   _ _ _ h) rfl rfl (Nat.le_of_ble_eq_true rfl) (k_i (fun r2 τ1 h => ?_))
  refine J_if_eq cx (tgt := 25) dX5_row_4 (by decide) (fun q3 => ?_) (fun q3 => ?_)
  · replace h := h.1 q3
    refine J_ldc cx (v := (-1000001)) dX5_row_25 gw_742 ?_
    exact J_iret cx dX5_row_27 h
  · replace h := h.2 q3
    refine J_iload_n cx 2 dX5_row_7 rfl rfl ?_
    refine J_i2l cx dX5_row_8 ?_
    refine J_lconst cx dX5_row_9 (by decide : _ = ((lN 0) : Int64)) ?_
    refine J_ldc2 cx (v := (lN 2)) dX5_row_10 gw_741 ?_
    refine J_cS cx dX5_row_13 S_X5_54 (by decide) (ct_X5_in   _ _ _ _ _ h) rfl rfl (Nat.le_of_ble_eq_true rfl) (k_i (fun r5 τ4 h => ?_))
    refine J_if_eq cx (tgt := 25) dX5_row_16 (by decide) (fun q6 => ?_) (fun q6 => ?_)
    · replace h := h.1 q6
      refine J_ldc cx (v := (-1000001)) dX5_row_25 gw_742 ?_
      exact J_iret cx dX5_row_27 h
    · replace h := h.2 q6
      refine J_iload_n cx 3 dX5_row_19 rfl rfl ?_
      refine J_bipush cx dX5_row_20 (by decide : _ = ((nI 40) : Int32)) ?_
      refine J_icmp_le cx (tgt := 28) dX5_row_22 (by decide) (fun q7 => ?_) (fun q7 => ?_)
      · replace h := h.1 q7
        refine J_iload_n cx 3 dX5_row_28 rfl rfl ?_
        refine J_if_ge cx (tgt := 38) dX5_row_29 (by decide) (fun q8 => ?_) (fun q8 => ?_)
        · replace h := h.1 q8
          refine J_aload_n cx 0 dX5_row_38 rfl rfl ?_
          refine J_getR cx (j := 277) dX5_row_39 F_X5_7 (by decide) rfl rfl rfl ?_
          refine J_iload_n cx 1 dX5_row_42 rfl rfl ?_
          refine J_iload_n cx 2 dX5_row_43 rfl rfl ?_
          obtain ⟨s9, h⟩ := h
          refine J_iast cx dX5_row_44 (by decide) rfl s9 ?_
          refine J_nm (fun τ10 e_τ10 => ?_)
          replace h := h τ10 e_τ10
          refine J_aload_n cx 0 dX5_row_45 rfl rfl ?_
          refine J_getR cx (j := 278) dX5_row_46 F_X5_13 (by decide) rfl rfl rfl ?_
          refine J_iload_n cx 1 dX5_row_49 rfl rfl ?_
          refine J_iload_n cx 3 dX5_row_50 rfl rfl ?_
          obtain ⟨s11, h⟩ := h
          refine J_iast cx dX5_row_51 (by decide) rfl s11 ?_
          refine J_nm (fun τ12 e_τ12 => ?_)
          replace h := h τ12 e_τ12
          refine J_iconst cx dX5_row_52 (by decide : _ = ((nI 0) : Int32)) ?_
          refine J_istore cx dX5_row_53 (by decide) rfl rfl ?_
          refine J_fg 2 rfl ?_
          exact j_X5_row_55     cx   _ _ _ _ h
        · replace h := h.2 q8
          refine J_aload_n cx 0 dX5_row_32 rfl rfl ?_
          refine J_iconst cx dX5_row_33 (by decide : _ = ((nI 4) : Int32)) ?_
          refine J_cV cx dX5_row_34 V_X5_65 (by decide) (by decide) rfl (ct_X5_find   _ _ _ h) rfl rfl (Nat.le_of_ble_eq_true rfl) (k_i (fun r14 τ13 h => ?_))
          exact J_iret cx dX5_row_37 h
      · replace h := h.2 q7
        refine J_ldc cx (v := (-1000001)) dX5_row_25 gw_742 ?_
        exact J_iret cx dX5_row_27 h
def wp_X5_asLane (a0 : Int32) (a1 : Int32) (σ : PI) (Q : Int32 → PI → Prop) : Prop := (¬ a0 = (nI 0) → (¬ a0 = (nI 1) → Q a1 σ) ∧ (a0 = (nI 1) → Q ((a1 <<< ((nI 16) &&& 31)) >>> ((nI 16) &&& 31)) σ)) ∧ (a0 = (nI 0) → Q ((a1 <<< ((nI 24) &&& 31)) >>> ((nI 24) &&& 31)) σ)
set_option maxRecDepth 100000 in
set_option maxHeartbeats 4000000 in
theorem ct_X5_asLane {l : Launch} {X : XP} (a0 : Int32) (a1 : Int32) (σ : PI) (Q : Int32 → PI → Prop) (h : wp_X5_asLane  a0 a1 σ Q) : Ct l yX5_asLane cX5_asLane 2 (some .int) 0 X [.int a0, .int a1] σ (qI Q) := by
  refine Ct_of (L := [some (.int a0), some (.int a1)]) (by decide) (Nat.le_of_ble_eq_true rfl) rfl (fun M hl cx => ?_)
  subst hl
  unfold wp_X5_asLane at h
  refine J_iload_n cx 0 dX5_asLane_0 rfl rfl ?_
  refine J_if_ne cx (tgt := 14) dX5_asLane_1 (by decide) (fun q1 => ?_) (fun q1 => ?_)
  · replace h := h.1 q1
    refine J_iload_n cx 0 dX5_asLane_14 rfl rfl ?_
    refine J_iconst cx dX5_asLane_15 (by decide : _ = ((nI 1) : Int32)) ?_
    refine J_icmp_ne cx (tgt := 29) dX5_asLane_16 (by decide) (fun q2 => ?_) (fun q2 => ?_)
    · replace h := h.1 q2
      refine J_iload_n cx 1 dX5_asLane_29 rfl rfl ?_
      exact J_iret cx dX5_asLane_30 h
    · replace h := h.2 q2
      refine J_iload_n cx 1 dX5_asLane_19 rfl rfl ?_
      refine J_bipush cx dX5_asLane_20 (by decide : _ = ((nI 16) : Int32)) ?_
      refine J_ishl cx dX5_asLane_22 ?_
      refine J_bipush cx dX5_asLane_23 (by decide : _ = ((nI 16) : Int32)) ?_
      refine J_ishr cx dX5_asLane_25 ?_
      refine J_goto cx (tgt := 30) dX5_asLane_26 (by decide) ?_
      exact J_iret cx dX5_asLane_30 h
  · replace h := h.2 q1
    refine J_iload_n cx 1 dX5_asLane_4 rfl rfl ?_
    refine J_bipush cx dX5_asLane_5 (by decide : _ = ((nI 24) : Int32)) ?_
    refine J_ishl cx dX5_asLane_7 ?_
    refine J_bipush cx dX5_asLane_8 (by decide : _ = ((nI 24) : Int32)) ?_
    refine J_ishr cx dX5_asLane_10 ?_
    refine J_goto cx (tgt := 30) dX5_asLane_11 (by decide) ?_
    exact J_iret cx dX5_asLane_30 h
def wp_X5_set (a0 : Int32) (a1 : Int32) (a2 : Int32) (σ : PI) (Q : Int32 → PI → Prop) : Prop := wp_X5_isRow a0 σ (fun r2 τ1 => ((¬ r2 = (nI 0) → vp_in a0 8 ∧ (((nI 0) ≤ (τ1 278 (a0 : Int32).toNatClampNeg) → vp_in a0 8 ∧ (wp_X5_in (a1 : Int32).toInt64 (lN 0) (((τ1 278 (a0 : Int32).toNatClampNeg) - (nI 1)) : Int32).toInt64 τ1 (fun r8 τ7 => ((¬ r8 = (nI 0) → vp_in a0 8 ∧ (wp_X5_asLane (τ7 277 (a0 : Int32).toNatClampNeg) a2 τ7 (fun r12 τ11 => (vp_in (((nI 40) * a0) + a1) 320 ∧ (∀ τ14 : PI, τ14 = up τ11 279 ((((nI 40) * a0) + a1) : Int32).toNatClampNeg r12 → (vp_in (((nI 40) * a0) + a1) 320 ∧ (wp_X5_well (τ14 279 ((((nI 40) * a0) + a1) : Int32).toNatClampNeg) τ14 (fun r17 τ16 => (Q r17 τ16))))))))) ∧ (r8 = (nI 0) → wp_X5_find (nI 2) τ7 (fun r19 τ18 => (Q r19 τ18))))))) ∧ (¬ (nI 0) ≤ (τ1 278 (a0 : Int32).toNatClampNeg) → wp_X5_find (nI 1) τ1 (fun r21 τ20 => (Q r21 τ20))))) ∧ (r2 = (nI 0) → Q (-1000001) τ1)))
set_option maxRecDepth 100000 in
set_option maxHeartbeats 4000000 in
theorem ct_X5_set {l : Launch} {X : XP} (a0 : Int32) (a1 : Int32) (a2 : Int32) (σ : PI) (Q : Int32 → PI → Prop) (h : wp_X5_set  a0 a1 a2 σ Q) : Ct l yX5_set cX5_set 4 (some .int) 2 X [.ref (X.1 276), .int a0, .int a1, .int a2] σ (qI Q) := by
  refine Ct_of (L := [some (.ref (X.1 276)), some (.int a0), some (.int a1), some (.int a2)]) (by decide) (Nat.le_of_ble_eq_true rfl) rfl (fun M hl cx => ?_)
  subst hl
  unfold wp_X5_set at h
  refine J_iload_n cx 1 dX5_set_0 rfl rfl ?_
  refine J_cS cx dX5_set_1 S_X5_58 (by decide) (ct_X5_isRow   _ _ _ h) rfl rfl (Nat.le_of_ble_eq_true rfl) (k_i (fun r2 τ1 h => ?_))
  refine J_if_ne cx (tgt := 10) dX5_set_4 (by decide) (fun q3 => ?_) (fun q3 => ?_)
  · replace h := h.1 q3
    refine J_aload_n cx 0 dX5_set_10 rfl rfl ?_
    refine J_getR cx (j := 278) dX5_set_11 F_X5_13 (by decide) rfl rfl rfl ?_
    refine J_iload_n cx 1 dX5_set_14 rfl rfl ?_
    obtain ⟨s4, h⟩ := h
    refine J_iald cx dX5_set_15 (by decide) rfl s4 ?_
    refine J_if_ge cx (tgt := 25) dX5_set_16 (by decide) (fun q5 => ?_) (fun q5 => ?_)
    · replace h := h.1 q5
      refine J_iload_n cx 2 dX5_set_25 rfl rfl ?_
      refine J_i2l cx dX5_set_26 ?_
      refine J_lconst cx dX5_set_27 (by decide : _ = ((lN 0) : Int64)) ?_
      refine J_aload_n cx 0 dX5_set_28 rfl rfl ?_
      refine J_getR cx (j := 278) dX5_set_29 F_X5_13 (by decide) rfl rfl rfl ?_
      refine J_iload_n cx 1 dX5_set_32 rfl rfl ?_
      obtain ⟨s6, h⟩ := h
      refine J_iald cx dX5_set_33 (by decide) rfl s6 ?_
      refine J_iconst cx dX5_set_34 (by decide : _ = ((nI 1) : Int32)) ?_
      refine J_isub cx dX5_set_35 ?_
      refine J_i2l cx dX5_set_36 ?_
      refine J_cS cx dX5_set_37 S_X5_54 (by decide) (ct_X5_in   _ _ _ _ _ h) rfl rfl (Nat.le_of_ble_eq_true rfl) (k_i (fun r8 τ7 h => ?_))
      refine J_if_ne cx (tgt := 49) dX5_set_40 (by decide) (fun q9 => ?_) (fun q9 => ?_)
      · replace h := h.1 q9
        refine J_aload_n cx 0 dX5_set_49 rfl rfl ?_
        refine J_getR cx (j := 279) dX5_set_50 F_X5_16 (by decide) rfl rfl rfl ?_
        refine J_bipush cx dX5_set_53 (by decide : _ = ((nI 40) : Int32)) ?_
        refine J_iload_n cx 1 dX5_set_55 rfl rfl ?_
        refine J_imul cx dX5_set_56 ?_
        refine J_iload_n cx 2 dX5_set_57 rfl rfl ?_
        refine J_iadd cx dX5_set_58 ?_
        refine J_aload_n cx 0 dX5_set_59 rfl rfl ?_
        refine J_getR cx (j := 277) dX5_set_60 F_X5_7 (by decide) rfl rfl rfl ?_
        refine J_iload_n cx 1 dX5_set_63 rfl rfl ?_
        obtain ⟨s10, h⟩ := h
        refine J_iald cx dX5_set_64 (by decide) rfl s10 ?_
        refine J_iload_n cx 3 dX5_set_65 rfl rfl ?_
        refine J_cS cx dX5_set_66 S_X5_72 (by decide) (ct_X5_asLane   _ _ _ _ h) rfl rfl (Nat.le_of_ble_eq_true rfl) (k_i (fun r12 τ11 h => ?_))
        obtain ⟨s13, h⟩ := h
        refine J_iast cx dX5_set_69 (by decide) rfl s13 ?_
        refine J_nm (fun τ14 e_τ14 => ?_)
        replace h := h τ14 e_τ14
        refine J_aload_n cx 0 dX5_set_70 rfl rfl ?_
        refine J_aload_n cx 0 dX5_set_71 rfl rfl ?_
        refine J_getR cx (j := 279) dX5_set_72 F_X5_16 (by decide) rfl rfl rfl ?_
        refine J_bipush cx dX5_set_75 (by decide : _ = ((nI 40) : Int32)) ?_
        refine J_iload_n cx 1 dX5_set_77 rfl rfl ?_
        refine J_imul cx dX5_set_78 ?_
        refine J_iload_n cx 2 dX5_set_79 rfl rfl ?_
        refine J_iadd cx dX5_set_80 ?_
        obtain ⟨s15, h⟩ := h
        refine J_iald cx dX5_set_81 (by decide) rfl s15 ?_
        refine J_cV cx dX5_set_82 V_X5_69 (by decide) (by decide) rfl (ct_X5_well   _ _ _ h) rfl rfl (Nat.le_of_ble_eq_true rfl) (k_i (fun r17 τ16 h => ?_))
        exact J_iret cx dX5_set_85 h
      · replace h := h.2 q9
        refine J_aload_n cx 0 dX5_set_43 rfl rfl ?_
        refine J_iconst cx dX5_set_44 (by decide : _ = ((nI 2) : Int32)) ?_
        refine J_cV cx dX5_set_45 V_X5_65 (by decide) (by decide) rfl (ct_X5_find   _ _ _ h) rfl rfl (Nat.le_of_ble_eq_true rfl) (k_i (fun r19 τ18 h => ?_))
        exact J_iret cx dX5_set_48 h
    · replace h := h.2 q5
      refine J_aload_n cx 0 dX5_set_19 rfl rfl ?_
      refine J_iconst cx dX5_set_20 (by decide : _ = ((nI 1) : Int32)) ?_
      refine J_cV cx dX5_set_21 V_X5_65 (by decide) (by decide) rfl (ct_X5_find   _ _ _ h) rfl rfl (Nat.le_of_ble_eq_true rfl) (k_i (fun r21 τ20 h => ?_))
      exact J_iret cx dX5_set_24 h
  · replace h := h.2 q3
    refine J_ldc cx (v := (-1000001)) dX5_set_7 gw_742 ?_
    exact J_iret cx dX5_set_9 h
def B_X5_copy_154 (K154 : (Int32 × Int32 × Int32 × Int32 × PI → Prop)) (Q : Int32 → PI → Prop) (l3 : Int32) (l4 : Int32) (l5 : Int32) (l6 : Int32) (σ : PI) : Prop := (l5 ≤ l6 → wp_X5_well l5 σ (fun r35 τ34 => (Q r35 τ34))) ∧ (¬ l5 ≤ l6 → vp_in l6 40 ∧ (vp_in ((((nI 40) * l3) + l4) + l6) 320 ∧ (∀ τ38 : PI, τ38 = up σ 279 (((((nI 40) * l3) + l4) + l6) : Int32).toNatClampNeg (σ 281 (l6 : Int32).toNatClampNeg) → (K154 (l3, l4, l5, (l6 + (nI 1)), τ38)))))
def w_X5_copy_154 (Q : Int32 → PI → Prop) (l3 : Int32) (l4 : Int32) (l5 : Int32) (l6 : Int32) (σ : PI) : Prop := ∃ n, Lp (fun K a => B_X5_copy_154   K Q a.1 a.2.1 a.2.2.1 a.2.2.2.1 a.2.2.2.2) n (l3, l4, l5, l6, σ)
set_option maxRecDepth 100000 in
set_option maxHeartbeats 4000000 in
theorem j_X5_copy_154 {M : MC} {X : XP} {Q : Int32 → PI → Prop} (cx : Cx M X RX5 cX5_copy 7 (some .int) 2) (l3 : Int32) (l4 : Int32) (l5 : Int32) (l6 : Int32) (σ : PI) (h : w_X5_copy_154   Q l3 l4 l5 l6 σ) : J M X (QF M X (qI Q)) σ 154 [some (.ref (X.1 276)), none, none, some (.int l3), some (.int l4), some (.int l5), some (.int l6)] [] := by
  refine Lp_J (P := fun (a : Int32 × Int32 × Int32 × Int32 × PI) => J M X (QF M X (qI Q)) (a.2.2.2.2) 154 [some (.ref (X.1 276)), none, none, some (.int a.1), some (.int a.2.1), some (.int a.2.2.1), some (.int a.2.2.2.1)] []) (fun K154 hK a h => ?_) h
  obtain ⟨l3, l4, l5, l6, σ⟩ := a
  have hK154 : ∀ (l3 : Int32) (l4 : Int32) (l5 : Int32) (l6 : Int32) (σ : PI), K154 (l3, l4, l5, l6, σ) → J M X (QF M X (qI Q)) σ 154 [some (.ref (X.1 276)), none, none, some (.int l3), some (.int l4), some (.int l5), some (.int l6)] [] := fun l3 l4 l5 l6 σ q => hK _ q
  replace h : B_X5_copy_154   K154 Q l3 l4 l5 l6 σ := h
  show J M X (QF M X (qI Q)) σ 154 [some (.ref (X.1 276)), none, none, some (.int l3), some (.int l4), some (.int l5), some (.int l6)] []
  unfold B_X5_copy_154 at h
  refine J_iload cx dX5_copy_154 rfl ?_
  refine J_iload cx dX5_copy_156 rfl ?_
  refine J_icmp_ge cx (tgt := 189) dX5_copy_158 (by decide) (fun q33 => ?_) (fun q33 => ?_)
  · replace h := h.1 q33
    refine J_aload_n cx 0 dX5_copy_189 rfl rfl ?_
    refine J_iload cx dX5_copy_190 rfl ?_
    refine J_cV cx dX5_copy_192 V_X5_69 (by decide) (by decide) rfl (ct_X5_well   _ _ _ h) rfl rfl (Nat.le_of_ble_eq_true rfl) (k_i (fun r35 τ34 h => ?_))
    exact J_iret cx dX5_copy_195 h
  · replace h := h.2 q33
    refine J_aload_n cx 0 dX5_copy_161 rfl rfl ?_
    refine J_getR cx (j := 279) dX5_copy_162 F_X5_16 (by decide) rfl rfl rfl ?_
    refine J_bipush cx dX5_copy_165 (by decide : _ = ((nI 40) : Int32)) ?_
    refine J_iload_n cx 3 dX5_copy_167 rfl rfl ?_
    refine J_imul cx dX5_copy_168 ?_
    refine J_iload cx dX5_copy_169 rfl ?_
    refine J_iadd cx dX5_copy_171 ?_
    refine J_iload cx dX5_copy_172 rfl ?_
    refine J_iadd cx dX5_copy_174 ?_
    refine J_aload_n cx 0 dX5_copy_175 rfl rfl ?_
    refine J_getR cx (j := 281) dX5_copy_176 F_X5_22 (by decide) rfl rfl rfl ?_
    refine J_iload cx dX5_copy_179 rfl ?_
    obtain ⟨s36, h⟩ := h
    refine J_iald cx dX5_copy_181 (by decide) rfl s36 ?_
    obtain ⟨s37, h⟩ := h
    refine J_iast cx dX5_copy_182 (by decide) rfl s37 ?_
    refine J_nm (fun τ38 e_τ38 => ?_)
    replace h := h τ38 e_τ38
    refine J_iinc cx dX5_copy_183 rfl (by decide : _ = ((nI 1) : Int32)) (by decide) rfl rfl ?_
    refine J_goto cx (tgt := 154) dX5_copy_186 (by decide) ?_
    exact hK154   _ _ _ _ _ h
def B_X5_copy_117 (K117 : (Int32 × Int32 × Int32 × Int32 × Int32 × Int32 × PI → Prop)) (Q : Int32 → PI → Prop) (l1 : Int32) (l2 : Int32) (l3 : Int32) (l4 : Int32) (l5 : Int32) (l6 : Int32) (σ : PI) : Prop := (l5 ≤ l6 → w_X5_copy_154   Q l3 l4 l5 (nI 0) σ) ∧ (¬ l5 ≤ l6 → vp_in ((((nI 40) * l1) + l2) + l6) 320 ∧ (vp_in l6 40 ∧ (∀ τ32 : PI, τ32 = up σ 281 (l6 : Int32).toNatClampNeg (σ 279 (((((nI 40) * l1) + l2) + l6) : Int32).toNatClampNeg) → (K117 (l1, l2, l3, l4, l5, (l6 + (nI 1)), τ32)))))
def w_X5_copy_117 (Q : Int32 → PI → Prop) (l1 : Int32) (l2 : Int32) (l3 : Int32) (l4 : Int32) (l5 : Int32) (l6 : Int32) (σ : PI) : Prop := ∃ n, Lp (fun K a => B_X5_copy_117   K Q a.1 a.2.1 a.2.2.1 a.2.2.2.1 a.2.2.2.2.1 a.2.2.2.2.2.1 a.2.2.2.2.2.2) n (l1, l2, l3, l4, l5, l6, σ)
set_option maxRecDepth 100000 in
set_option maxHeartbeats 4000000 in
theorem j_X5_copy_117 {M : MC} {X : XP} {Q : Int32 → PI → Prop} (cx : Cx M X RX5 cX5_copy 7 (some .int) 2) (l1 : Int32) (l2 : Int32) (l3 : Int32) (l4 : Int32) (l5 : Int32) (l6 : Int32) (σ : PI) (h : w_X5_copy_117   Q l1 l2 l3 l4 l5 l6 σ) : J M X (QF M X (qI Q)) σ 117 [some (.ref (X.1 276)), some (.int l1), some (.int l2), some (.int l3), some (.int l4), some (.int l5), some (.int l6)] [] := by
  refine Lp_J (P := fun (a : Int32 × Int32 × Int32 × Int32 × Int32 × Int32 × PI) => J M X (QF M X (qI Q)) (a.2.2.2.2.2.2) 117 [some (.ref (X.1 276)), some (.int a.1), some (.int a.2.1), some (.int a.2.2.1), some (.int a.2.2.2.1), some (.int a.2.2.2.2.1), some (.int a.2.2.2.2.2.1)] []) (fun K117 hK a h => ?_) h
  obtain ⟨l1, l2, l3, l4, l5, l6, σ⟩ := a
  have hK117 : ∀ (l1 : Int32) (l2 : Int32) (l3 : Int32) (l4 : Int32) (l5 : Int32) (l6 : Int32) (σ : PI), K117 (l1, l2, l3, l4, l5, l6, σ) → J M X (QF M X (qI Q)) σ 117 [some (.ref (X.1 276)), some (.int l1), some (.int l2), some (.int l3), some (.int l4), some (.int l5), some (.int l6)] [] := fun l1 l2 l3 l4 l5 l6 σ q => hK _ q
  replace h : B_X5_copy_117   K117 Q l1 l2 l3 l4 l5 l6 σ := h
  show J M X (QF M X (qI Q)) σ 117 [some (.ref (X.1 276)), some (.int l1), some (.int l2), some (.int l3), some (.int l4), some (.int l5), some (.int l6)] []
  unfold B_X5_copy_117 at h
  refine J_iload cx dX5_copy_117 rfl ?_
  refine J_iload cx dX5_copy_119 rfl ?_
  refine J_icmp_ge cx (tgt := 151) dX5_copy_121 (by decide) (fun q29 => ?_) (fun q29 => ?_)
  · replace h := h.1 q29
    refine J_iconst cx dX5_copy_151 (by decide : _ = ((nI 0) : Int32)) ?_
    refine J_istore cx dX5_copy_152 (by decide) rfl rfl ?_
    refine J_fg 1 rfl ?_
    refine J_fg 2 rfl ?_
    exact j_X5_copy_154     cx   _ _ _ _ _ h
  · replace h := h.2 q29
    refine J_aload_n cx 0 dX5_copy_124 rfl rfl ?_
    refine J_getR cx (j := 281) dX5_copy_125 F_X5_22 (by decide) rfl rfl rfl ?_
    refine J_iload cx dX5_copy_128 rfl ?_
    refine J_aload_n cx 0 dX5_copy_130 rfl rfl ?_
    refine J_getR cx (j := 279) dX5_copy_131 F_X5_16 (by decide) rfl rfl rfl ?_
    refine J_bipush cx dX5_copy_134 (by decide : _ = ((nI 40) : Int32)) ?_
    refine J_iload_n cx 1 dX5_copy_136 rfl rfl ?_
    refine J_imul cx dX5_copy_137 ?_
    refine J_iload_n cx 2 dX5_copy_138 rfl rfl ?_
    refine J_iadd cx dX5_copy_139 ?_
    refine J_iload cx dX5_copy_140 rfl ?_
    refine J_iadd cx dX5_copy_142 ?_
    obtain ⟨s30, h⟩ := h
    refine J_iald cx dX5_copy_143 (by decide) rfl s30 ?_
    obtain ⟨s31, h⟩ := h
    refine J_iast cx dX5_copy_144 (by decide) rfl s31 ?_
    refine J_nm (fun τ32 e_τ32 => ?_)
    replace h := h τ32 e_τ32
    refine J_iinc cx dX5_copy_145 rfl (by decide : _ = ((nI 1) : Int32)) (by decide) rfl rfl ?_
    refine J_goto cx (tgt := 117) dX5_copy_148 (by decide) ?_
    exact hK117   _ _ _ _ _ _ _ h
def w_X5_copy_108 (Q : Int32 → PI → Prop) (σ : PI) : Prop := wp_X5_find (nI 2) σ (fun r28 τ27 => (Q r28 τ27))
set_option maxRecDepth 100000 in
set_option maxHeartbeats 4000000 in
theorem j_X5_copy_108 {M : MC} {X : XP} {Q : Int32 → PI → Prop} (cx : Cx M X RX5 cX5_copy 7 (some .int) 2) (σ : PI) (h : w_X5_copy_108   Q  σ) : J M X (QF M X (qI Q)) σ 108 [some (.ref (X.1 276)), none, none, none, none, none, none] [] := by
  unfold w_X5_copy_108 at h
  refine J_aload_n cx 0 dX5_copy_108 rfl rfl ?_
  refine J_iconst cx dX5_copy_109 (by decide : _ = ((nI 2) : Int32)) ?_
  refine J_cV cx dX5_copy_110 V_X5_65 (by decide) (by decide) rfl (ct_X5_find   _ _ _ h) rfl rfl (Nat.le_of_ble_eq_true rfl) (k_i (fun r28 τ27 h => ?_))
  exact J_iret cx dX5_copy_113 h
def w_X5_copy_35 (Q : Int32 → PI → Prop) (σ : PI) : Prop := wp_X5_find (nI 1) σ (fun r26 τ25 => (Q r26 τ25))
set_option maxRecDepth 100000 in
set_option maxHeartbeats 4000000 in
theorem j_X5_copy_35 {M : MC} {X : XP} {Q : Int32 → PI → Prop} (cx : Cx M X RX5 cX5_copy 7 (some .int) 2) (σ : PI) (h : w_X5_copy_35   Q  σ) : J M X (QF M X (qI Q)) σ 35 [some (.ref (X.1 276)), none, none, none, none, none, none] [] := by
  unfold w_X5_copy_35 at h
  refine J_aload_n cx 0 dX5_copy_35 rfl rfl ?_
  refine J_iconst cx dX5_copy_36 (by decide : _ = ((nI 1) : Int32)) ?_
  refine J_cV cx dX5_copy_37 V_X5_65 (by decide) (by decide) rfl (ct_X5_find   _ _ _ h) rfl rfl (Nat.le_of_ble_eq_true rfl) (k_i (fun r26 τ25 h => ?_))
  exact J_iret cx dX5_copy_40 h
def wp_X5_copy (a0 : Int32) (a1 : Int32) (a2 : Int32) (a3 : Int32) (a4 : Int32) (σ : PI) (Q : Int32 → PI → Prop) : Prop := wp_X5_isRow a0 σ (fun r2 τ1 => ((r2 = (nI 0) → Q (-1000001) τ1) ∧ (¬ r2 = (nI 0) → wp_X5_isRow a2 τ1 (fun r5 τ4 => ((¬ r5 = (nI 0) → vp_in a0 8 ∧ (((τ4 278 (a0 : Int32).toNatClampNeg) < (nI 0) → w_X5_copy_35   Q  τ4) ∧ (¬ (τ4 278 (a0 : Int32).toNatClampNeg) < (nI 0) → vp_in a2 8 ∧ (((nI 0) ≤ (τ4 278 (a2 : Int32).toNatClampNeg) → vp_in a0 8 ∧ (vp_in a2 8 ∧ (((τ4 277 (a0 : Int32).toNatClampNeg) = (τ4 277 (a2 : Int32).toNatClampNeg) → (a4 < (nI 0) → w_X5_copy_108   Q  τ4) ∧ (¬ a4 < (nI 0) → vp_in a0 8 ∧ (wp_X5_in (a1 : Int32).toInt64 (lN 0) (((τ4 278 (a0 : Int32).toNatClampNeg) : Int32).toInt64 - (a4 : Int32).toInt64) τ4 (fun r17 τ16 => ((r17 = (nI 0) → w_X5_copy_108   Q  τ16) ∧ (¬ r17 = (nI 0) → vp_in a2 8 ∧ (wp_X5_in (a3 : Int32).toInt64 (lN 0) (((τ16 278 (a2 : Int32).toNatClampNeg) : Int32).toInt64 - (a4 : Int32).toInt64) τ16 (fun r21 τ20 => ((¬ r21 = (nI 0) → w_X5_copy_117   Q a0 a1 a2 a3 a4 (nI 0) τ20) ∧ (r21 = (nI 0) → w_X5_copy_108   Q  τ20)))))))))) ∧ (¬ (τ4 277 (a0 : Int32).toNatClampNeg) = (τ4 277 (a2 : Int32).toNatClampNeg) → wp_X5_find (nI 5) τ4 (fun r24 τ23 => (Q r24 τ23)))))) ∧ (¬ (nI 0) ≤ (τ4 278 (a2 : Int32).toNatClampNeg) → w_X5_copy_35   Q  τ4))))) ∧ (r5 = (nI 0) → Q (-1000001) τ4))))))
set_option maxRecDepth 100000 in
set_option maxHeartbeats 4000000 in
theorem ct_X5_copy {l : Launch} {X : XP} (a0 : Int32) (a1 : Int32) (a2 : Int32) (a3 : Int32) (a4 : Int32) (σ : PI) (Q : Int32 → PI → Prop) (h : wp_X5_copy  a0 a1 a2 a3 a4 σ Q) : Ct l yX5_copy cX5_copy 7 (some .int) 2 X [.ref (X.1 276), .int a0, .int a1, .int a2, .int a3, .int a4] σ (qI Q) := by
  refine Ct_of (L := [some (.ref (X.1 276)), some (.int a0), some (.int a1), some (.int a2), some (.int a3), some (.int a4), none]) (by decide) (Nat.le_of_ble_eq_true rfl) rfl (fun M hl cx => ?_)
  subst hl
  unfold wp_X5_copy at h
  refine J_iload_n cx 1 dX5_copy_0 rfl rfl ?_
  refine J_cS cx dX5_copy_1 S_X5_58 (by decide) (ct_X5_isRow   _ _ _ h) rfl rfl (Nat.le_of_ble_eq_true rfl) (k_i (fun r2 τ1 h => ?_))
  refine J_if_eq cx (tgt := 14) dX5_copy_4 (by decide) (fun q3 => ?_) (fun q3 => ?_)
  · replace h := h.1 q3
    refine J_ldc cx (v := (-1000001)) dX5_copy_14 gw_742 ?_
    exact J_iret cx dX5_copy_16 h
  · replace h := h.2 q3
    refine J_iload_n cx 3 dX5_copy_7 rfl rfl ?_
    refine J_cS cx dX5_copy_8 S_X5_58 (by decide) (ct_X5_isRow   _ _ _ h) rfl rfl (Nat.le_of_ble_eq_true rfl) (k_i (fun r5 τ4 h => ?_))
    refine J_if_ne cx (tgt := 17) dX5_copy_11 (by decide) (fun q6 => ?_) (fun q6 => ?_)
    · replace h := h.1 q6
      refine J_aload_n cx 0 dX5_copy_17 rfl rfl ?_
      refine J_getR cx (j := 278) dX5_copy_18 F_X5_13 (by decide) rfl rfl rfl ?_
      refine J_iload_n cx 1 dX5_copy_21 rfl rfl ?_
      obtain ⟨s7, h⟩ := h
      refine J_iald cx dX5_copy_22 (by decide) rfl s7 ?_
      refine J_if_lt cx (tgt := 35) dX5_copy_23 (by decide) (fun q8 => ?_) (fun q8 => ?_)
      · replace h := h.1 q8
        refine J_fg 1 rfl ?_
        refine J_fg 2 rfl ?_
        refine J_fg 3 rfl ?_
        refine J_fg 4 rfl ?_
        refine J_fg 5 rfl ?_
        exact j_X5_copy_35     cx   _ h
      · replace h := h.2 q8
        refine J_aload_n cx 0 dX5_copy_26 rfl rfl ?_
        refine J_getR cx (j := 278) dX5_copy_27 F_X5_13 (by decide) rfl rfl rfl ?_
        refine J_iload_n cx 3 dX5_copy_30 rfl rfl ?_
        obtain ⟨s9, h⟩ := h
        refine J_iald cx dX5_copy_31 (by decide) rfl s9 ?_
        refine J_if_ge cx (tgt := 41) dX5_copy_32 (by decide) (fun q10 => ?_) (fun q10 => ?_)
        · replace h := h.1 q10
          refine J_aload_n cx 0 dX5_copy_41 rfl rfl ?_
          refine J_getR cx (j := 277) dX5_copy_42 F_X5_7 (by decide) rfl rfl rfl ?_
          refine J_iload_n cx 1 dX5_copy_45 rfl rfl ?_
          obtain ⟨s11, h⟩ := h
          refine J_iald cx dX5_copy_46 (by decide) rfl s11 ?_
          refine J_aload_n cx 0 dX5_copy_47 rfl rfl ?_
          refine J_getR cx (j := 277) dX5_copy_48 F_X5_7 (by decide) rfl rfl rfl ?_
          refine J_iload_n cx 3 dX5_copy_51 rfl rfl ?_
          obtain ⟨s12, h⟩ := h
          refine J_iald cx dX5_copy_52 (by decide) rfl s12 ?_
          refine J_icmp_eq cx (tgt := 62) dX5_copy_53 (by decide) (fun q13 => ?_) (fun q13 => ?_)
          · replace h := h.1 q13
            refine J_iload cx dX5_copy_62 rfl ?_
            refine J_if_lt cx (tgt := 108) dX5_copy_64 (by decide) (fun q14 => ?_) (fun q14 => ?_)
            · replace h := h.1 q14
              refine J_fg 1 rfl ?_
              refine J_fg 2 rfl ?_
              refine J_fg 3 rfl ?_
              refine J_fg 4 rfl ?_
              refine J_fg 5 rfl ?_
              exact j_X5_copy_108     cx   _ h
            · replace h := h.2 q14
              refine J_iload_n cx 2 dX5_copy_67 rfl rfl ?_
              refine J_i2l cx dX5_copy_68 ?_
              refine J_lconst cx dX5_copy_69 (by decide : _ = ((lN 0) : Int64)) ?_
              refine J_aload_n cx 0 dX5_copy_70 rfl rfl ?_
              refine J_getR cx (j := 278) dX5_copy_71 F_X5_13 (by decide) rfl rfl rfl ?_
              refine J_iload_n cx 1 dX5_copy_74 rfl rfl ?_
              obtain ⟨s15, h⟩ := h
              refine J_iald cx dX5_copy_75 (by decide) rfl s15 ?_
              refine J_i2l cx dX5_copy_76 ?_
              refine J_iload cx dX5_copy_77 rfl ?_
              refine J_i2l cx dX5_copy_79 ?_
              refine J_lsub cx dX5_copy_80 ?_
              refine J_cS cx dX5_copy_81 S_X5_54 (by decide) (ct_X5_in   _ _ _ _ _ h) rfl rfl (Nat.le_of_ble_eq_true rfl) (k_i (fun r17 τ16 h => ?_))
              refine J_if_eq cx (tgt := 108) dX5_copy_84 (by decide) (fun q18 => ?_) (fun q18 => ?_)
              · replace h := h.1 q18
                refine J_fg 1 rfl ?_
                refine J_fg 2 rfl ?_
                refine J_fg 3 rfl ?_
                refine J_fg 4 rfl ?_
                refine J_fg 5 rfl ?_
                exact j_X5_copy_108     cx   _ h
              · replace h := h.2 q18
                refine J_iload cx dX5_copy_87 rfl ?_
                refine J_i2l cx dX5_copy_89 ?_
                refine J_lconst cx dX5_copy_90 (by decide : _ = ((lN 0) : Int64)) ?_
                refine J_aload_n cx 0 dX5_copy_91 rfl rfl ?_
                refine J_getR cx (j := 278) dX5_copy_92 F_X5_13 (by decide) rfl rfl rfl ?_
                refine J_iload_n cx 3 dX5_copy_95 rfl rfl ?_
                obtain ⟨s19, h⟩ := h
                refine J_iald cx dX5_copy_96 (by decide) rfl s19 ?_
                refine J_i2l cx dX5_copy_97 ?_
                refine J_iload cx dX5_copy_98 rfl ?_
                refine J_i2l cx dX5_copy_100 ?_
                refine J_lsub cx dX5_copy_101 ?_
                refine J_cS cx dX5_copy_102 S_X5_54 (by decide) (ct_X5_in   _ _ _ _ _ h) rfl rfl (Nat.le_of_ble_eq_true rfl) (k_i (fun r21 τ20 h => ?_))
                refine J_if_ne cx (tgt := 114) dX5_copy_105 (by decide) (fun q22 => ?_) (fun q22 => ?_)
                · replace h := h.1 q22
                  refine J_iconst cx dX5_copy_114 (by decide : _ = ((nI 0) : Int32)) ?_
                  refine J_istore cx dX5_copy_115 (by decide) rfl rfl ?_
                  exact j_X5_copy_117     cx   _ _ _ _ _ _ _ h
                · replace h := h.2 q22
                  refine J_fg 1 rfl ?_
                  refine J_fg 2 rfl ?_
                  refine J_fg 3 rfl ?_
                  refine J_fg 4 rfl ?_
                  refine J_fg 5 rfl ?_
                  exact j_X5_copy_108     cx   _ h
          · replace h := h.2 q13
            refine J_aload_n cx 0 dX5_copy_56 rfl rfl ?_
            refine J_iconst cx dX5_copy_57 (by decide : _ = ((nI 5) : Int32)) ?_
            refine J_cV cx dX5_copy_58 V_X5_65 (by decide) (by decide) rfl (ct_X5_find   _ _ _ h) rfl rfl (Nat.le_of_ble_eq_true rfl) (k_i (fun r24 τ23 h => ?_))
            exact J_iret cx dX5_copy_61 h
        · replace h := h.2 q10
          refine J_fg 1 rfl ?_
          refine J_fg 2 rfl ?_
          refine J_fg 3 rfl ?_
          refine J_fg 4 rfl ?_
          refine J_fg 5 rfl ?_
          exact j_X5_copy_35     cx   _ h
    · replace h := h.2 q6
      refine J_ldc cx (v := (-1000001)) dX5_copy_14 gw_742 ?_
      exact J_iret cx dX5_copy_16 h
def wp_X5_drop (a0 : Int32) (σ : PI) (Q : Int32 → PI → Prop) : Prop := wp_X5_isRow a0 σ (fun r2 τ1 => ((¬ r2 = (nI 0) → vp_in a0 8 ∧ (((nI 0) ≤ (τ1 278 (a0 : Int32).toNatClampNeg) → vp_in a0 8 ∧ (∀ x7 : Int32, x7 = (τ1 278 (a0 : Int32).toNatClampNeg) → (vp_in a0 8 ∧ (∀ τ9 : PI, τ9 = up τ1 278 (a0 : Int32).toNatClampNeg (-1) → (wp_X5_well x7 τ9 (fun r11 τ10 => (Q r11 τ10))))))) ∧ (¬ (nI 0) ≤ (τ1 278 (a0 : Int32).toNatClampNeg) → wp_X5_find (nI 1) τ1 (fun r13 τ12 => (Q r13 τ12))))) ∧ (r2 = (nI 0) → Q (-1000001) τ1)))
set_option maxRecDepth 100000 in
set_option maxHeartbeats 4000000 in
theorem ct_X5_drop {l : Launch} {X : XP} (a0 : Int32) (σ : PI) (Q : Int32 → PI → Prop) (h : wp_X5_drop  a0 σ Q) : Ct l yX5_drop cX5_drop 3 (some .int) 2 X [.ref (X.1 276), .int a0] σ (qI Q) := by
  refine Ct_of (L := [some (.ref (X.1 276)), some (.int a0), none]) (by decide) (Nat.le_of_ble_eq_true rfl) rfl (fun M hl cx => ?_)
  subst hl
  unfold wp_X5_drop at h
  refine J_iload_n cx 1 dX5_drop_0 rfl rfl ?_
  refine J_cS cx dX5_drop_1 S_X5_58 (by decide) (ct_X5_isRow   _ _ _ h) rfl rfl (Nat.le_of_ble_eq_true rfl) (k_i (fun r2 τ1 h => ?_))
  refine J_if_ne cx (tgt := 10) dX5_drop_4 (by decide) (fun q3 => ?_) (fun q3 => ?_)
  · replace h := h.1 q3
    refine J_aload_n cx 0 dX5_drop_10 rfl rfl ?_
    refine J_getR cx (j := 278) dX5_drop_11 F_X5_13 (by decide) rfl rfl rfl ?_
    refine J_iload_n cx 1 dX5_drop_14 rfl rfl ?_
    obtain ⟨s4, h⟩ := h
    refine J_iald cx dX5_drop_15 (by decide) rfl s4 ?_
    refine J_if_ge cx (tgt := 25) dX5_drop_16 (by decide) (fun q5 => ?_) (fun q5 => ?_)
    · replace h := h.1 q5
      refine J_aload_n cx 0 dX5_drop_25 rfl rfl ?_
      refine J_getR cx (j := 278) dX5_drop_26 F_X5_13 (by decide) rfl rfl rfl ?_
      refine J_iload_n cx 1 dX5_drop_29 rfl rfl ?_
      obtain ⟨s6, h⟩ := h
      refine J_iald cx dX5_drop_30 (by decide) rfl s6 ?_
      refine J_topi (fun x7 e_x7 => ?_)
      replace h := h x7 e_x7
      refine J_istore_n cx 2 dX5_drop_31 rfl (by decide) rfl rfl ?_
      refine J_aload_n cx 0 dX5_drop_32 rfl rfl ?_
      refine J_getR cx (j := 278) dX5_drop_33 F_X5_13 (by decide) rfl rfl rfl ?_
      refine J_iload_n cx 1 dX5_drop_36 rfl rfl ?_
      refine J_iconst cx dX5_drop_37 (by decide : _ = ((-1) : Int32)) ?_
      obtain ⟨s8, h⟩ := h
      refine J_iast cx dX5_drop_38 (by decide) rfl s8 ?_
      refine J_nm (fun τ9 e_τ9 => ?_)
      replace h := h τ9 e_τ9
      refine J_aload_n cx 0 dX5_drop_39 rfl rfl ?_
      refine J_iload_n cx 2 dX5_drop_40 rfl rfl ?_
      refine J_cV cx dX5_drop_41 V_X5_69 (by decide) (by decide) rfl (ct_X5_well   _ _ _ h) rfl rfl (Nat.le_of_ble_eq_true rfl) (k_i (fun r11 τ10 h => ?_))
      exact J_iret cx dX5_drop_44 h
    · replace h := h.2 q5
      refine J_aload_n cx 0 dX5_drop_19 rfl rfl ?_
      refine J_iconst cx dX5_drop_20 (by decide : _ = ((nI 1) : Int32)) ?_
      refine J_cV cx dX5_drop_21 V_X5_65 (by decide) (by decide) rfl (ct_X5_find   _ _ _ h) rfl rfl (Nat.le_of_ble_eq_true rfl) (k_i (fun r13 τ12 h => ?_))
      exact J_iret cx dX5_drop_24 h
  · replace h := h.2 q3
    refine J_ldc cx (v := (-1000001)) dX5_drop_7 gw_742 ?_
    exact J_iret cx dX5_drop_9 h
def wp_X5_feed (a0 : Int32) (σ : PI) (Q : Int32 → PI → Prop) : Prop := wp_X5_in (a0 : Int32).toInt64 (lN 0) (lN 255) σ (fun r2 τ1 => ((¬ r2 = (nI 0) → (¬ (τ1 276 9) = (nI 120) → vp_in (τ1 276 9) 120 ∧ (∀ τ6 : PI, τ6 = up τ1 282 ((τ1 276 9) : Int32).toNatClampNeg a0 → (∀ τ7 : PI, τ7 = up τ6 276 9 ((τ6 276 9) + (nI 1)) → (Q (τ7 276 9) τ7)))) ∧ ((τ1 276 9) = (nI 120) → Q (-1000003) τ1)) ∧ (r2 = (nI 0) → Q (-1000001) τ1)))
set_option maxRecDepth 100000 in
set_option maxHeartbeats 4000000 in
theorem ct_X5_feed {l : Launch} {X : XP} (a0 : Int32) (σ : PI) (Q : Int32 → PI → Prop) (h : wp_X5_feed  a0 σ Q) : Ct l yX5_feed cX5_feed 2 (some .int) 1 X [.ref (X.1 276), .int a0] σ (qI Q) := by
  refine Ct_of (L := [some (.ref (X.1 276)), some (.int a0)]) (by decide) (Nat.le_of_ble_eq_true rfl) rfl (fun M hl cx => ?_)
  subst hl
  unfold wp_X5_feed at h
  refine J_iload_n cx 1 dX5_feed_0 rfl rfl ?_
  refine J_i2l cx dX5_feed_1 ?_
  refine J_lconst cx dX5_feed_2 (by decide : _ = ((lN 0) : Int64)) ?_
  refine J_ldc2 cx (v := (lN 255)) dX5_feed_3 gw_771 ?_
  refine J_cS cx dX5_feed_6 S_X5_54 (by decide) (ct_X5_in   _ _ _ _ _ h) rfl rfl (Nat.le_of_ble_eq_true rfl) (k_i (fun r2 τ1 h => ?_))
  refine J_if_ne cx (tgt := 15) dX5_feed_9 (by decide) (fun q3 => ?_) (fun q3 => ?_)
  · replace h := h.1 q3
    refine J_aload_n cx 0 dX5_feed_15 rfl rfl ?_
    refine J_getI cx dX5_feed_16 F_X5_78 (by decide) rfl rfl ?_
    refine J_bipush cx dX5_feed_19 (by decide : _ = ((nI 120) : Int32)) ?_
    refine J_icmp_ne cx (tgt := 27) dX5_feed_21 (by decide) (fun q4 => ?_) (fun q4 => ?_)
    · replace h := h.1 q4
      refine J_aload_n cx 0 dX5_feed_27 rfl rfl ?_
      refine J_getR cx (j := 282) dX5_feed_28 F_X5_25 (by decide) rfl rfl rfl ?_
      refine J_aload_n cx 0 dX5_feed_31 rfl rfl ?_
      refine J_getI cx dX5_feed_32 F_X5_78 (by decide) rfl rfl ?_
      refine J_iload_n cx 1 dX5_feed_35 rfl rfl ?_
      obtain ⟨s5, h⟩ := h
      refine J_iast cx dX5_feed_36 (by decide) rfl s5 ?_
      refine J_nm (fun τ6 e_τ6 => ?_)
      replace h := h τ6 e_τ6
      refine J_aload_n cx 0 dX5_feed_37 rfl rfl ?_
      refine J_dup cx dX5_feed_38 rfl ?_
      refine J_getI cx dX5_feed_39 F_X5_78 (by decide) rfl rfl ?_
      refine J_iconst cx dX5_feed_42 (by decide : _ = ((nI 1) : Int32)) ?_
      refine J_iadd cx dX5_feed_43 ?_
      refine J_putI cx dX5_feed_44 (P_X5_78 _) (by decide) rfl rfl ?_
      refine J_nm (fun τ7 e_τ7 => ?_)
      replace h := h τ7 e_τ7
      refine J_aload_n cx 0 dX5_feed_47 rfl rfl ?_
      refine J_getI cx dX5_feed_48 F_X5_78 (by decide) rfl rfl ?_
      exact J_iret cx dX5_feed_51 h
    · replace h := h.2 q4
      refine J_ldc cx (v := (-1000003)) dX5_feed_24 gw_772 ?_
      exact J_iret cx dX5_feed_26 h
  · replace h := h.2 q3
    refine J_ldc cx (v := (-1000001)) dX5_feed_12 gw_742 ?_
    exact J_iret cx dX5_feed_14 h
def w_X5_nextToken_216 (Q : PI → Prop) (s0 : Int32) (σ : PI) : Prop := ∀ τ24 : PI, τ24 = up σ 276 12 s0 → (∀ τ25 : PI, τ25 = up τ24 276 11 ((τ24 276 11) + (nI 1)) → (Q τ25))
set_option maxRecDepth 100000 in
set_option maxHeartbeats 4000000 in
theorem j_X5_nextToken_216 {M : MC} {X : XP} {Q : PI → Prop} (cx : Cx M X RX5 cX5_nextToken 1 none 1) (s0 : Int32) (σ : PI) (h : w_X5_nextToken_216   Q s0 σ) : J M X (QF M X (qV Q)) σ 216 [some (.ref (X.1 276))] [.int s0, .ref (X.1 276)] := by
  unfold w_X5_nextToken_216 at h
  refine J_putI cx dX5_nextToken_216 (P_X5_88 _) (by decide) rfl rfl ?_
  refine J_nm (fun τ24 e_τ24 => ?_)
  replace h := h τ24 e_τ24
  refine J_aload_n cx 0 dX5_nextToken_219 rfl rfl ?_
  refine J_dup cx dX5_nextToken_220 rfl ?_
  refine J_getI cx dX5_nextToken_221 F_X5_82 (by decide) rfl rfl ?_
  refine J_iconst cx dX5_nextToken_224 (by decide : _ = ((nI 1) : Int32)) ?_
  refine J_iadd cx dX5_nextToken_225 ?_
  refine J_putI cx dX5_nextToken_226 (P_X5_82 _) (by decide) rfl rfl ?_
  refine J_nm (fun τ25 e_τ25 => ?_)
  replace h := h τ25 e_τ25
  exact J_vret cx dX5_nextToken_229 h
def w_X5_nextToken_211 (Q : PI → Prop) (σ : PI) : Prop := w_X5_nextToken_216   Q (nI 1) σ
set_option maxRecDepth 100000 in
set_option maxHeartbeats 4000000 in
theorem j_X5_nextToken_211 {M : MC} {X : XP} {Q : PI → Prop} (cx : Cx M X RX5 cX5_nextToken 1 none 1) (σ : PI) (h : w_X5_nextToken_211   Q  σ) : J M X (QF M X (qV Q)) σ 211 [some (.ref (X.1 276))] [.ref (X.1 276)] := by
  unfold w_X5_nextToken_211 at h
  refine J_iconst cx dX5_nextToken_211 (by decide : _ = ((nI 1) : Int32)) ?_
  refine J_goto cx (tgt := 216) dX5_nextToken_212 (by decide) ?_
  exact j_X5_nextToken_216     cx   _ _ h
def w_X5_nextToken_149 (Q : PI → Prop) (s0 : Int32) (σ : PI) : Prop := ∀ τ26 : PI, τ26 = up σ 276 12 s0 → (Q τ26)
set_option maxRecDepth 100000 in
set_option maxHeartbeats 4000000 in
theorem j_X5_nextToken_149 {M : MC} {X : XP} {Q : PI → Prop} (cx : Cx M X RX5 cX5_nextToken 1 none 1) (s0 : Int32) (σ : PI) (h : w_X5_nextToken_149   Q s0 σ) : J M X (QF M X (qV Q)) σ 149 [none] [.int s0, .ref (X.1 276)] := by
  unfold w_X5_nextToken_149 at h
  refine J_putI cx dX5_nextToken_149 (P_X5_88 _) (by decide) rfl rfl ?_
  refine J_nm (fun τ26 e_τ26 => ?_)
  replace h := h τ26 e_τ26
  refine J_goto cx (tgt := 229) dX5_nextToken_152 (by decide) ?_
  exact J_vret cx dX5_nextToken_229 h
def w_X5_nextToken_119 (Q : PI → Prop) (σ : PI) : Prop := ((σ 276 11) ≤ (σ 276 14) → (¬ (σ 276 12) = (nI 0) → Q σ) ∧ ((σ 276 12) = (nI 0) → vp_in (σ 276 11) 120 ∧ (∀ τ15 : PI, τ15 = up σ 276 13 (σ 282 ((σ 276 11) : Int32).toNatClampNeg) → (wp_X5_in ((τ15 276 13) : Int32).toInt64 (lN 97) (lN 122) τ15 (fun r17 τ16 => ((¬ r17 = (nI 0) → w_X5_nextToken_211   Q  τ16) ∧ (r17 = (nI 0) → ((τ16 276 13) = (nI 44) → w_X5_nextToken_211   Q  τ16) ∧ (¬ (τ16 276 13) = (nI 44) → (¬ (τ16 276 13) = (nI 59) → w_X5_nextToken_216   Q (nI 0) τ16) ∧ ((τ16 276 13) = (nI 59) → w_X5_nextToken_211   Q  τ16))))))))) ∧ (¬ (σ 276 11) ≤ (σ 276 14) → (((σ 276 11) - (σ 276 14)) ≤ (nI 2) → w_X5_nextToken_149   Q (nI 2) σ) ∧ (¬ ((σ 276 11) - (σ 276 14)) ≤ (nI 2) → w_X5_nextToken_149   Q (nI 0) σ))
set_option maxRecDepth 100000 in
set_option maxHeartbeats 4000000 in
theorem j_X5_nextToken_119 {M : MC} {X : XP} {Q : PI → Prop} (cx : Cx M X RX5 cX5_nextToken 1 none 1) (σ : PI) (h : w_X5_nextToken_119   Q  σ) : J M X (QF M X (qV Q)) σ 119 [some (.ref (X.1 276))] [] := by
  unfold w_X5_nextToken_119 at h
  refine J_aload_n cx 0 dX5_nextToken_119 rfl rfl ?_
  refine J_getI cx dX5_nextToken_120 F_X5_82 (by decide) rfl rfl ?_
  refine J_aload_n cx 0 dX5_nextToken_123 rfl rfl ?_
  refine J_getI cx dX5_nextToken_124 F_X5_85 (by decide) rfl rfl ?_
  refine J_icmp_le cx (tgt := 155) dX5_nextToken_127 (by decide) (fun q12 => ?_) (fun q12 => ?_)
  · replace h := h.1 q12
    refine J_aload_n cx 0 dX5_nextToken_155 rfl rfl ?_
    refine J_getI cx dX5_nextToken_156 F_X5_88 (by decide) rfl rfl ?_
    refine J_if_ne cx (tgt := 229) dX5_nextToken_159 (by decide) (fun q13 => ?_) (fun q13 => ?_)
    · replace h := h.1 q13
      exact J_vret cx dX5_nextToken_229 h
    · replace h := h.2 q13
      refine J_aload_n cx 0 dX5_nextToken_162 rfl rfl ?_
      refine J_aload_n cx 0 dX5_nextToken_163 rfl rfl ?_
      refine J_getR cx (j := 282) dX5_nextToken_164 F_X5_25 (by decide) rfl rfl rfl ?_
      refine J_aload_n cx 0 dX5_nextToken_167 rfl rfl ?_
      refine J_getI cx dX5_nextToken_168 F_X5_82 (by decide) rfl rfl ?_
      obtain ⟨s14, h⟩ := h
      refine J_iald cx dX5_nextToken_171 (by decide) rfl s14 ?_
      refine J_putI cx dX5_nextToken_172 (P_X5_91 _) (by decide) rfl rfl ?_
      refine J_nm (fun τ15 e_τ15 => ?_)
      replace h := h τ15 e_τ15
      refine J_aload_n cx 0 dX5_nextToken_175 rfl rfl ?_
      refine J_aload_n cx 0 dX5_nextToken_176 rfl rfl ?_
      refine J_getI cx dX5_nextToken_177 F_X5_91 (by decide) rfl rfl ?_
      refine J_i2l cx dX5_nextToken_180 ?_
      refine J_ldc2 cx (v := (lN 97)) dX5_nextToken_181 gw_787 ?_
      refine J_ldc2 cx (v := (lN 122)) dX5_nextToken_184 gw_788 ?_
      refine J_cS cx dX5_nextToken_187 S_X5_54 (by decide) (ct_X5_in   _ _ _ _ _ h) rfl rfl (Nat.le_of_ble_eq_true rfl) (k_i (fun r17 τ16 h => ?_))
      refine J_if_ne cx (tgt := 211) dX5_nextToken_190 (by decide) (fun q18 => ?_) (fun q18 => ?_)
      · replace h := h.1 q18
        exact j_X5_nextToken_211     cx   _ h
      · replace h := h.2 q18
        refine J_aload_n cx 0 dX5_nextToken_193 rfl rfl ?_
        refine J_getI cx dX5_nextToken_194 F_X5_91 (by decide) rfl rfl ?_
        refine J_bipush cx dX5_nextToken_197 (by decide : _ = ((nI 44) : Int32)) ?_
        refine J_icmp_eq cx (tgt := 211) dX5_nextToken_199 (by decide) (fun q19 => ?_) (fun q19 => ?_)
        · replace h := h.1 q19
          exact j_X5_nextToken_211     cx   _ h
        · replace h := h.2 q19
          refine J_aload_n cx 0 dX5_nextToken_202 rfl rfl ?_
          refine J_getI cx dX5_nextToken_203 F_X5_91 (by decide) rfl rfl ?_
          refine J_bipush cx dX5_nextToken_206 (by decide : _ = ((nI 59) : Int32)) ?_
          refine J_icmp_ne cx (tgt := 215) dX5_nextToken_208 (by decide) (fun q20 => ?_) (fun q20 => ?_)
          · replace h := h.1 q20
            refine J_iconst cx dX5_nextToken_215 (by decide : _ = ((nI 0) : Int32)) ?_
            exact j_X5_nextToken_216     cx   _ _ h
          · replace h := h.2 q20
            exact j_X5_nextToken_211     cx   _ h
  · replace h := h.2 q12
    refine J_aload_n cx 0 dX5_nextToken_130 rfl rfl ?_
    refine J_aload_n cx 0 dX5_nextToken_131 rfl rfl ?_
    refine J_getI cx dX5_nextToken_132 F_X5_82 (by decide) rfl rfl ?_
    refine J_aload_n cx 0 dX5_nextToken_135 rfl rfl ?_
    refine J_getI cx dX5_nextToken_136 F_X5_85 (by decide) rfl rfl ?_
    refine J_isub cx dX5_nextToken_139 ?_
    refine J_iconst cx dX5_nextToken_140 (by decide : _ = ((nI 2) : Int32)) ?_
    refine J_icmp_le cx (tgt := 148) dX5_nextToken_141 (by decide) (fun q21 => ?_) (fun q21 => ?_)
    · replace h := h.1 q21
      refine J_iconst cx dX5_nextToken_148 (by decide : _ = ((nI 2) : Int32)) ?_
      refine J_fg 0 rfl ?_
      exact j_X5_nextToken_149     cx   _ _ h
    · replace h := h.2 q21
      refine J_iconst cx dX5_nextToken_144 (by decide : _ = ((nI 0) : Int32)) ?_
      refine J_goto cx (tgt := 149) dX5_nextToken_145 (by decide) ?_
      refine J_fg 0 rfl ?_
      exact j_X5_nextToken_149     cx   _ _ h
def w_X5_nextToken_103 (K33 : (PI → Prop)) (Q : PI → Prop) (s0 : Int32) (σ : PI) : Prop := ∀ τ22 : PI, τ22 = up σ 276 13 s0 → (∀ τ23 : PI, τ23 = up τ22 276 11 ((τ22 276 11) + (nI 1)) → (K33 τ23))
set_option maxRecDepth 100000 in
set_option maxHeartbeats 4000000 in
theorem j_X5_nextToken_103 {M : MC} {X : XP} {Q : PI → Prop} (K33 : (PI → Prop)) (hK33 : ∀ (σ : PI), K33 σ → J M X (QF M X (qV Q)) σ 33 [some (.ref (X.1 276))] []) (cx : Cx M X RX5 cX5_nextToken 1 none 1) (s0 : Int32) (σ : PI) (h : w_X5_nextToken_103  K33 Q s0 σ) : J M X (QF M X (qV Q)) σ 103 [some (.ref (X.1 276))] [.int s0, .ref (X.1 276)] := by
  unfold w_X5_nextToken_103 at h
  refine J_putI cx dX5_nextToken_103 (P_X5_91 _) (by decide) rfl rfl ?_
  refine J_nm (fun τ22 e_τ22 => ?_)
  replace h := h τ22 e_τ22
  refine J_aload_n cx 0 dX5_nextToken_106 rfl rfl ?_
  refine J_dup cx dX5_nextToken_107 rfl ?_
  refine J_getI cx dX5_nextToken_108 F_X5_82 (by decide) rfl rfl ?_
  refine J_iconst cx dX5_nextToken_111 (by decide : _ = ((nI 1) : Int32)) ?_
  refine J_iadd cx dX5_nextToken_112 ?_
  refine J_putI cx dX5_nextToken_113 (P_X5_82 _) (by decide) rfl rfl ?_
  refine J_nm (fun τ23 e_τ23 => ?_)
  replace h := h τ23 e_τ23
  refine J_goto cx (tgt := 33) dX5_nextToken_116 (by decide) ?_
  exact hK33   _ h
def B_X5_nextToken_33 (K33 : (PI → Prop)) (Q : PI → Prop) (σ : PI) : Prop := ((σ 276 9) ≤ (σ 276 11) → w_X5_nextToken_119   Q  σ) ∧ (¬ (σ 276 9) ≤ (σ 276 11) → vp_in (σ 276 11) 120 ∧ (wp_X5_in ((σ 282 ((σ 276 11) : Int32).toNatClampNeg) : Int32).toInt64 (lN 48) (lN 57) σ (fun r8 τ7 => ((r8 = (nI 0) → w_X5_nextToken_119   Q  τ7) ∧ (¬ r8 = (nI 0) → ((τ7 276 13) ≤ (nI 99) → vp_in (τ7 276 11) 120 ∧ (w_X5_nextToken_103  K33 Q ((((nI 10) * (τ7 276 13)) + (τ7 282 ((τ7 276 11) : Int32).toNatClampNeg)) - (nI 48)) τ7)) ∧ (¬ (τ7 276 13) ≤ (nI 99) → w_X5_nextToken_103  K33 Q (τ7 276 13) τ7))))))
def w_X5_nextToken_33 (Q : PI → Prop) (σ : PI) : Prop := ∃ n, Lp (fun K a => B_X5_nextToken_33   K Q a) n σ
set_option maxRecDepth 100000 in
set_option maxHeartbeats 4000000 in
theorem j_X5_nextToken_33 {M : MC} {X : XP} {Q : PI → Prop} (cx : Cx M X RX5 cX5_nextToken 1 none 1) (σ : PI) (h : w_X5_nextToken_33   Q  σ) : J M X (QF M X (qV Q)) σ 33 [some (.ref (X.1 276))] [] := by
  refine Lp_J (P := fun (a : PI) => J M X (QF M X (qV Q)) a 33 [some (.ref (X.1 276))] []) (fun K33 hK a h => ?_) h
  obtain ⟨σ, rfl⟩ : ∃ σ, σ = a := ⟨_, rfl⟩
  have hK33 : ∀ (σ : PI), K33 σ → J M X (QF M X (qV Q)) σ 33 [some (.ref (X.1 276))] [] := fun  σ q => hK _ q
  replace h : B_X5_nextToken_33   K33 Q  σ := h
  show J M X (QF M X (qV Q)) σ 33 [some (.ref (X.1 276))] []
  unfold B_X5_nextToken_33 at h
  refine J_aload_n cx 0 dX5_nextToken_33 rfl rfl ?_
  refine J_getI cx dX5_nextToken_34 F_X5_82 (by decide) rfl rfl ?_
  refine J_aload_n cx 0 dX5_nextToken_37 rfl rfl ?_
  refine J_getI cx dX5_nextToken_38 F_X5_78 (by decide) rfl rfl ?_
  refine J_icmp_ge cx (tgt := 119) dX5_nextToken_41 (by decide) (fun q5 => ?_) (fun q5 => ?_)
  · replace h := h.1 q5
    exact j_X5_nextToken_119     cx   _ h
  · replace h := h.2 q5
    refine J_aload_n cx 0 dX5_nextToken_44 rfl rfl ?_
    refine J_getR cx (j := 282) dX5_nextToken_45 F_X5_25 (by decide) rfl rfl rfl ?_
    refine J_aload_n cx 0 dX5_nextToken_48 rfl rfl ?_
    refine J_getI cx dX5_nextToken_49 F_X5_82 (by decide) rfl rfl ?_
    obtain ⟨s6, h⟩ := h
    refine J_iald cx dX5_nextToken_52 (by decide) rfl s6 ?_
    refine J_i2l cx dX5_nextToken_53 ?_
    refine J_ldc2 cx (v := (lN 48)) dX5_nextToken_54 gw_785 ?_
    refine J_ldc2 cx (v := (lN 57)) dX5_nextToken_57 gw_786 ?_
    refine J_cS cx dX5_nextToken_60 S_X5_54 (by decide) (ct_X5_in   _ _ _ _ _ h) rfl rfl (Nat.le_of_ble_eq_true rfl) (k_i (fun r8 τ7 h => ?_))
    refine J_if_eq cx (tgt := 119) dX5_nextToken_63 (by decide) (fun q9 => ?_) (fun q9 => ?_)
    · replace h := h.1 q9
      exact j_X5_nextToken_119     cx   _ h
    · replace h := h.2 q9
      refine J_aload_n cx 0 dX5_nextToken_66 rfl rfl ?_
      refine J_aload_n cx 0 dX5_nextToken_67 rfl rfl ?_
      refine J_getI cx dX5_nextToken_68 F_X5_91 (by decide) rfl rfl ?_
      refine J_bipush cx dX5_nextToken_71 (by decide : _ = ((nI 99) : Int32)) ?_
      refine J_icmp_le cx (tgt := 83) dX5_nextToken_73 (by decide) (fun q10 => ?_) (fun q10 => ?_)
      · replace h := h.1 q10
        refine J_bipush cx dX5_nextToken_83 (by decide : _ = ((nI 10) : Int32)) ?_
        refine J_aload_n cx 0 dX5_nextToken_85 rfl rfl ?_
        refine J_getI cx dX5_nextToken_86 F_X5_91 (by decide) rfl rfl ?_
        refine J_imul cx dX5_nextToken_89 ?_
        refine J_aload_n cx 0 dX5_nextToken_90 rfl rfl ?_
        refine J_getR cx (j := 282) dX5_nextToken_91 F_X5_25 (by decide) rfl rfl rfl ?_
        refine J_aload_n cx 0 dX5_nextToken_94 rfl rfl ?_
        refine J_getI cx dX5_nextToken_95 F_X5_82 (by decide) rfl rfl ?_
        obtain ⟨s11, h⟩ := h
        refine J_iald cx dX5_nextToken_98 (by decide) rfl s11 ?_
        refine J_iadd cx dX5_nextToken_99 ?_
        refine J_bipush cx dX5_nextToken_100 (by decide : _ = ((nI 48) : Int32)) ?_
        refine J_isub cx dX5_nextToken_102 ?_
        exact j_X5_nextToken_103   K33 hK33 cx   _ _ h
      · replace h := h.2 q10
        refine J_aload_n cx 0 dX5_nextToken_76 rfl rfl ?_
        refine J_getI cx dX5_nextToken_77 F_X5_91 (by decide) rfl rfl ?_
        refine J_goto cx (tgt := 103) dX5_nextToken_80 (by decide) ?_
        exact j_X5_nextToken_103   K33 hK33 cx   _ _ h
def w_X5_nextToken_25 (Q : PI → Prop) (s0 : Int32) (σ : PI) : Prop := ∀ τ3 : PI, τ3 = up σ 276 12 s0 → (∀ τ4 : PI, τ4 = up τ3 276 13 (nI 0) → (w_X5_nextToken_33   Q  τ4))
set_option maxRecDepth 100000 in
set_option maxHeartbeats 4000000 in
theorem j_X5_nextToken_25 {M : MC} {X : XP} {Q : PI → Prop} (cx : Cx M X RX5 cX5_nextToken 1 none 1) (s0 : Int32) (σ : PI) (h : w_X5_nextToken_25   Q s0 σ) : J M X (QF M X (qV Q)) σ 25 [some (.ref (X.1 276))] [.int s0, .ref (X.1 276)] := by
  unfold w_X5_nextToken_25 at h
  refine J_putI cx dX5_nextToken_25 (P_X5_88 _) (by decide) rfl rfl ?_
  refine J_nm (fun τ3 e_τ3 => ?_)
  replace h := h τ3 e_τ3
  refine J_aload_n cx 0 dX5_nextToken_28 rfl rfl ?_
  refine J_iconst cx dX5_nextToken_29 (by decide : _ = ((nI 0) : Int32)) ?_
  refine J_putI cx dX5_nextToken_30 (P_X5_91 _) (by decide) rfl rfl ?_
  refine J_nm (fun τ4 e_τ4 => ?_)
  replace h := h τ4 e_τ4
  exact j_X5_nextToken_33     cx   _ h
def wp_X5_nextToken (σ : PI) (Q : PI → Prop) : Prop := ∀ τ1 : PI, τ1 = up σ 276 14 (σ 276 11) → ((¬ (τ1 276 11) = (τ1 276 9) → w_X5_nextToken_25   Q (nI 0) τ1) ∧ ((τ1 276 11) = (τ1 276 9) → w_X5_nextToken_25   Q (nI 3) τ1))
set_option maxRecDepth 100000 in
set_option maxHeartbeats 4000000 in
theorem ct_X5_nextToken {l : Launch} {X : XP} (σ : PI) (Q : PI → Prop) (h : wp_X5_nextToken   σ Q) : Ct l yX5_nextToken cX5_nextToken 1 none 1 X [.ref (X.1 276)] σ (qV Q) := by
  refine Ct_of (L := [some (.ref (X.1 276))]) (by decide) (Nat.le_of_ble_eq_true rfl) rfl (fun M hl cx => ?_)
  subst hl
  unfold wp_X5_nextToken at h
  refine J_aload_n cx 0 dX5_nextToken_0 rfl rfl ?_
  refine J_aload_n cx 0 dX5_nextToken_1 rfl rfl ?_
  refine J_getI cx dX5_nextToken_2 F_X5_82 (by decide) rfl rfl ?_
  refine J_putI cx dX5_nextToken_5 (P_X5_85 _) (by decide) rfl rfl ?_
  refine J_nm (fun τ1 e_τ1 => ?_)
  replace h := h τ1 e_τ1
  refine J_aload_n cx 0 dX5_nextToken_8 rfl rfl ?_
  refine J_aload_n cx 0 dX5_nextToken_9 rfl rfl ?_
  refine J_getI cx dX5_nextToken_10 F_X5_82 (by decide) rfl rfl ?_
  refine J_aload_n cx 0 dX5_nextToken_13 rfl rfl ?_
  refine J_getI cx dX5_nextToken_14 F_X5_78 (by decide) rfl rfl ?_
  refine J_icmp_ne cx (tgt := 24) dX5_nextToken_17 (by decide) (fun q2 => ?_) (fun q2 => ?_)
  · replace h := h.1 q2
    refine J_iconst cx dX5_nextToken_24 (by decide : _ = ((nI 0) : Int32)) ?_
    exact j_X5_nextToken_25     cx   _ _ h
  · replace h := h.2 q2
    refine J_iconst cx dX5_nextToken_20 (by decide : _ = ((nI 3) : Int32)) ?_
    refine J_goto cx (tgt := 25) dX5_nextToken_21 (by decide) ?_
    exact j_X5_nextToken_25     cx   _ _ h
def wp_X5_faults (a0 : Int32) (σ : PI) (Q : Int32 → PI → Prop) : Prop := ∀ τ1 : PI, τ1 = up σ 276 15 a0 → (Q (nI 0) τ1)
set_option maxRecDepth 100000 in
set_option maxHeartbeats 4000000 in
theorem ct_X5_faults {l : Launch} {X : XP} (a0 : Int32) (σ : PI) (Q : Int32 → PI → Prop) (h : wp_X5_faults  a0 σ Q) : Ct l yX5_faults cX5_faults 2 (some .boolean) 0 X [.ref (X.1 276), .int a0] σ (qI Q) := by
  refine Ct_of (L := [some (.ref (X.1 276)), some (.int a0)]) (by decide) (Nat.le_of_ble_eq_true rfl) rfl (fun M hl cx => ?_)
  subst hl
  unfold wp_X5_faults at h
  refine J_aload_n cx 0 dX5_faults_0 rfl rfl ?_
  refine J_iload_n cx 1 dX5_faults_1 rfl rfl ?_
  refine J_putI cx dX5_faults_2 (P_X5_102 _) (by decide) rfl rfl ?_
  refine J_nm (fun τ1 e_τ1 => ?_)
  replace h := h τ1 e_τ1
  refine J_iconst cx dX5_faults_5 (by decide : _ = ((nI 0) : Int32)) ?_
  exact J_zret cx dX5_faults_6 (Or.inl rfl) h
def wp_X5_isLetter (a0 : Int32) (σ : PI) (Q : Int32 → PI → Prop) : Prop := (¬ (σ 276 12) = (nI 1) → Q (nI 0) σ) ∧ ((σ 276 12) = (nI 1) → (¬ (σ 276 13) = a0 → Q (nI 0) σ) ∧ ((σ 276 13) = a0 → Q (nI 1) σ))
set_option maxRecDepth 100000 in
set_option maxHeartbeats 4000000 in
theorem ct_X5_isLetter {l : Launch} {X : XP} (a0 : Int32) (σ : PI) (Q : Int32 → PI → Prop) (h : wp_X5_isLetter  a0 σ Q) : Ct l yX5_isLetter cX5_isLetter 2 (some .boolean) 0 X [.ref (X.1 276), .int a0] σ (qI Q) := by
  refine Ct_of (L := [some (.ref (X.1 276)), some (.int a0)]) (by decide) (Nat.le_of_ble_eq_true rfl) rfl (fun M hl cx => ?_)
  subst hl
  unfold wp_X5_isLetter at h
  refine J_aload_n cx 0 dX5_isLetter_0 rfl rfl ?_
  refine J_getI cx dX5_isLetter_1 F_X5_88 (by decide) rfl rfl ?_
  refine J_iconst cx dX5_isLetter_4 (by decide : _ = ((nI 1) : Int32)) ?_
  refine J_icmp_ne cx (tgt := 20) dX5_isLetter_5 (by decide) (fun q1 => ?_) (fun q1 => ?_)
  · replace h := h.1 q1
    refine J_iconst cx dX5_isLetter_20 (by decide : _ = ((nI 0) : Int32)) ?_
    exact J_zret cx dX5_isLetter_21 (Or.inl rfl) h
  · replace h := h.2 q1
    refine J_aload_n cx 0 dX5_isLetter_8 rfl rfl ?_
    refine J_getI cx dX5_isLetter_9 F_X5_91 (by decide) rfl rfl ?_
    refine J_iload_n cx 1 dX5_isLetter_12 rfl rfl ?_
    refine J_icmp_ne cx (tgt := 20) dX5_isLetter_13 (by decide) (fun q2 => ?_) (fun q2 => ?_)
    · replace h := h.1 q2
      refine J_iconst cx dX5_isLetter_20 (by decide : _ = ((nI 0) : Int32)) ?_
      exact J_zret cx dX5_isLetter_21 (Or.inl rfl) h
    · replace h := h.2 q2
      refine J_iconst cx dX5_isLetter_16 (by decide : _ = ((nI 1) : Int32)) ?_
      refine J_goto cx (tgt := 21) dX5_isLetter_17 (by decide) ?_
      exact J_zret cx dX5_isLetter_21 (Or.inr rfl) h
def wp_X5_takes (a0 : Int32) (σ : PI) (Q : Int32 → PI → Prop) : Prop := wp_X5_isLetter a0 σ (fun r2 τ1 => ((¬ r2 = (nI 0) → wp_X5_nextToken  τ1 (fun τ4 => (Q (nI 1) τ4))) ∧ (r2 = (nI 0) → wp_X5_faults (nI 1) τ1 (fun r6 τ5 => (bz r6 ∧ Q r6 τ5)))))
set_option maxRecDepth 100000 in
set_option maxHeartbeats 4000000 in
theorem ct_X5_takes {l : Launch} {X : XP} (a0 : Int32) (σ : PI) (Q : Int32 → PI → Prop) (h : wp_X5_takes  a0 σ Q) : Ct l yX5_takes cX5_takes 2 (some .boolean) 2 X [.ref (X.1 276), .int a0] σ (qI Q) := by
  refine Ct_of (L := [some (.ref (X.1 276)), some (.int a0)]) (by decide) (Nat.le_of_ble_eq_true rfl) rfl (fun M hl cx => ?_)
  subst hl
  unfold wp_X5_takes at h
  refine J_aload_n cx 0 dX5_takes_0 rfl rfl ?_
  refine J_iload_n cx 1 dX5_takes_1 rfl rfl ?_
  refine J_cV cx dX5_takes_2 V_X5_105 (by decide) (by decide) rfl (ct_X5_isLetter   _ _ _ h) rfl rfl (Nat.le_of_ble_eq_true rfl) (k_i (fun r2 τ1 h => ?_))
  refine J_if_ne cx (tgt := 14) dX5_takes_5 (by decide) (fun q3 => ?_) (fun q3 => ?_)
  · replace h := h.1 q3
    refine J_aload_n cx 0 dX5_takes_14 rfl rfl ?_
    refine J_cV cx dX5_takes_15 V_X5_111 (by decide) (by decide) rfl (ct_X5_nextToken    _ _ h) rfl rfl (Nat.le_of_ble_eq_true rfl) (k_v (fun τ4 h => ?_))
    refine J_iconst cx dX5_takes_18 (by decide : _ = ((nI 1) : Int32)) ?_
    exact J_zret cx dX5_takes_19 (Or.inr rfl) h
  · replace h := h.2 q3
    refine J_aload_n cx 0 dX5_takes_8 rfl rfl ?_
    refine J_iconst cx dX5_takes_9 (by decide : _ = ((nI 1) : Int32)) ?_
    refine J_cV cx dX5_takes_10 V_X5_108 (by decide) (by decide) rfl (ct_X5_faults   _ _ _ h) rfl rfl (Nat.le_of_ble_eq_true rfl) (k_i (fun r6 τ5 h => ?_))
    exact J_zret cx dX5_takes_13 h.1 h.2
def w_X5_takesNumber_37 (Q : Int32 → PI → Prop) (s0 : Int32) (σ : PI) : Prop := wp_X5_faults s0 σ (fun r12 τ11 => (bz r12 ∧ Q r12 τ11))
set_option maxRecDepth 100000 in
set_option maxHeartbeats 4000000 in
theorem j_X5_takesNumber_37 {M : MC} {X : XP} {Q : Int32 → PI → Prop} (cx : Cx M X RX5 cX5_takesNumber 5 (some .boolean) 3) (s0 : Int32) (σ : PI) (h : w_X5_takesNumber_37   Q s0 σ) : J M X (QF M X (qI Q)) σ 37 [none, none, none, none, none] [.int s0, .ref (X.1 276)] := by
  unfold w_X5_takesNumber_37 at h
  refine J_cV cx dX5_takesNumber_37 V_X5_108 (by decide) (by decide) rfl (ct_X5_faults   _ _ _ h) rfl rfl (Nat.le_of_ble_eq_true rfl) (k_i (fun r12 τ11 h => ?_))
  exact J_zret cx dX5_takesNumber_40 h.1 h.2
def w_X5_takesNumber_23 (Q : Int32 → PI → Prop) (σ : PI) : Prop := (¬ (σ 276 12) = (nI 2) → w_X5_takesNumber_37   Q (nI 1) σ) ∧ ((σ 276 12) = (nI 2) → w_X5_takesNumber_37   Q (nI 2) σ)
set_option maxRecDepth 100000 in
set_option maxHeartbeats 4000000 in
theorem j_X5_takesNumber_23 {M : MC} {X : XP} {Q : Int32 → PI → Prop} (cx : Cx M X RX5 cX5_takesNumber 5 (some .boolean) 3) (σ : PI) (h : w_X5_takesNumber_23   Q  σ) : J M X (QF M X (qI Q)) σ 23 [some (.ref (X.1 276)), none, none, none, none] [] := by
  unfold w_X5_takesNumber_23 at h
  refine J_aload_n cx 0 dX5_takesNumber_23 rfl rfl ?_
  refine J_aload_n cx 0 dX5_takesNumber_24 rfl rfl ?_
  refine J_getI cx dX5_takesNumber_25 F_X5_88 (by decide) rfl rfl ?_
  refine J_iconst cx dX5_takesNumber_28 (by decide : _ = ((nI 2) : Int32)) ?_
  refine J_icmp_ne cx (tgt := 36) dX5_takesNumber_29 (by decide) (fun q10 => ?_) (fun q10 => ?_)
  · replace h := h.1 q10
    refine J_iconst cx dX5_takesNumber_36 (by decide : _ = ((nI 1) : Int32)) ?_
    refine J_fg 0 rfl ?_
    exact j_X5_takesNumber_37     cx   _ _ h
  · replace h := h.2 q10
    refine J_iconst cx dX5_takesNumber_32 (by decide : _ = ((nI 2) : Int32)) ?_
    refine J_goto cx (tgt := 37) dX5_takesNumber_33 (by decide) ?_
    refine J_fg 0 rfl ?_
    exact j_X5_takesNumber_37     cx   _ _ h
def wp_X5_takesNumber (a0 : Int32) (a1 : Int32) (a2 : Int32) (a3 : Int32) (σ : PI) (Q : Int32 → PI → Prop) : Prop := (¬ (σ 276 12) = (nI 2) → w_X5_takesNumber_23   Q  σ) ∧ ((σ 276 12) = (nI 2) → wp_X5_in ((σ 276 13) : Int32).toInt64 (a0 : Int32).toInt64 (a1 : Int32).toInt64 σ (fun r3 τ2 => ((¬ r3 = (nI 0) → vp_in a2 70 ∧ (∀ τ6 : PI, τ6 = up τ2 283 (a2 : Int32).toNatClampNeg (τ2 276 13) → (wp_X5_nextToken  τ6 (fun τ7 => (wp_X5_takes a3 τ7 (fun r9 τ8 => (bz r9 ∧ Q r9 τ8))))))) ∧ (r3 = (nI 0) → w_X5_takesNumber_23   Q  τ2))))
set_option maxRecDepth 100000 in
set_option maxHeartbeats 4000000 in
theorem ct_X5_takesNumber {l : Launch} {X : XP} (a0 : Int32) (a1 : Int32) (a2 : Int32) (a3 : Int32) (σ : PI) (Q : Int32 → PI → Prop) (h : wp_X5_takesNumber  a0 a1 a2 a3 σ Q) : Ct l yX5_takesNumber cX5_takesNumber 5 (some .boolean) 3 X [.ref (X.1 276), .int a0, .int a1, .int a2, .int a3] σ (qI Q) := by
  refine Ct_of (L := [some (.ref (X.1 276)), some (.int a0), some (.int a1), some (.int a2), some (.int a3)]) (by decide) (Nat.le_of_ble_eq_true rfl) rfl (fun M hl cx => ?_)
  subst hl
  unfold wp_X5_takesNumber at h
  refine J_aload_n cx 0 dX5_takesNumber_0 rfl rfl ?_
  refine J_getI cx dX5_takesNumber_1 F_X5_88 (by decide) rfl rfl ?_
  refine J_iconst cx dX5_takesNumber_4 (by decide : _ = ((nI 2) : Int32)) ?_
  refine J_icmp_ne cx (tgt := 23) dX5_takesNumber_5 (by decide) (fun q1 => ?_) (fun q1 => ?_)
  · replace h := h.1 q1
    refine J_fg 1 rfl ?_
    refine J_fg 2 rfl ?_
    refine J_fg 3 rfl ?_
    refine J_fg 4 rfl ?_
    exact j_X5_takesNumber_23     cx   _ h
  · replace h := h.2 q1
    refine J_aload_n cx 0 dX5_takesNumber_8 rfl rfl ?_
    refine J_getI cx dX5_takesNumber_9 F_X5_91 (by decide) rfl rfl ?_
    refine J_i2l cx dX5_takesNumber_12 ?_
    refine J_iload_n cx 1 dX5_takesNumber_13 rfl rfl ?_
    refine J_i2l cx dX5_takesNumber_14 ?_
    refine J_iload_n cx 2 dX5_takesNumber_15 rfl rfl ?_
    refine J_i2l cx dX5_takesNumber_16 ?_
    refine J_cS cx dX5_takesNumber_17 S_X5_54 (by decide) (ct_X5_in   _ _ _ _ _ h) rfl rfl (Nat.le_of_ble_eq_true rfl) (k_i (fun r3 τ2 h => ?_))
    refine J_if_ne cx (tgt := 41) dX5_takesNumber_20 (by decide) (fun q4 => ?_) (fun q4 => ?_)
    · replace h := h.1 q4
      refine J_aload_n cx 0 dX5_takesNumber_41 rfl rfl ?_
      refine J_getR cx (j := 283) dX5_takesNumber_42 F_X5_28 (by decide) rfl rfl rfl ?_
      refine J_iload_n cx 3 dX5_takesNumber_45 rfl rfl ?_
      refine J_aload_n cx 0 dX5_takesNumber_46 rfl rfl ?_
      refine J_getI cx dX5_takesNumber_47 F_X5_91 (by decide) rfl rfl ?_
      obtain ⟨s5, h⟩ := h
      refine J_iast cx dX5_takesNumber_50 (by decide) rfl s5 ?_
      refine J_nm (fun τ6 e_τ6 => ?_)
      replace h := h τ6 e_τ6
      refine J_aload_n cx 0 dX5_takesNumber_51 rfl rfl ?_
      refine J_cV cx dX5_takesNumber_52 V_X5_111 (by decide) (by decide) rfl (ct_X5_nextToken    _ _ h) rfl rfl (Nat.le_of_ble_eq_true rfl) (k_v (fun τ7 h => ?_))
      refine J_aload_n cx 0 dX5_takesNumber_55 rfl rfl ?_
      refine J_iload cx dX5_takesNumber_56 rfl ?_
      refine J_cV cx dX5_takesNumber_58 V_X5_114 (by decide) (by decide) rfl (ct_X5_takes   _ _ _ h) rfl rfl (Nat.le_of_ble_eq_true rfl) (k_i (fun r9 τ8 h => ?_))
      exact J_zret cx dX5_takesNumber_61 h.1 h.2
    · replace h := h.2 q4
      refine J_fg 1 rfl ?_
      refine J_fg 2 rfl ?_
      refine J_fg 3 rfl ?_
      refine J_fg 4 rfl ?_
      exact j_X5_takesNumber_23     cx   _ h
def w_X5_readMan_36 (Q : Int32 → PI → Prop) (s0 : Int32) (σ : PI) : Prop := wp_X5_faults s0 σ (fun r14 τ13 => (bz r14 ∧ Q r14 τ13))
set_option maxRecDepth 100000 in
set_option maxHeartbeats 4000000 in
theorem j_X5_readMan_36 {M : MC} {X : XP} {Q : Int32 → PI → Prop} (cx : Cx M X RX5 cX5_readMan 2 (some .boolean) 4) (s0 : Int32) (σ : PI) (h : w_X5_readMan_36   Q s0 σ) : J M X (QF M X (qI Q)) σ 36 [none, none] [.int s0, .ref (X.1 276)] := by
  unfold w_X5_readMan_36 at h
  refine J_cV cx dX5_readMan_36 V_X5_108 (by decide) (by decide) rfl (ct_X5_faults   _ _ _ h) rfl rfl (Nat.le_of_ble_eq_true rfl) (k_i (fun r14 τ13 h => ?_))
  exact J_zret cx dX5_readMan_39 h.1 h.2
def w_X5_readMan_21 (Q : Int32 → PI → Prop) (σ : PI) : Prop := ((σ 283 3) ≤ (nI 0) → w_X5_readMan_36   Q (nI 3) σ) ∧ (¬ (σ 283 3) ≤ (nI 0) → w_X5_readMan_36   Q (nI 1) σ)
set_option maxRecDepth 100000 in
set_option maxHeartbeats 4000000 in
theorem j_X5_readMan_21 {M : MC} {X : XP} {Q : Int32 → PI → Prop} (cx : Cx M X RX5 cX5_readMan 2 (some .boolean) 4) (σ : PI) (h : w_X5_readMan_21   Q  σ) : J M X (QF M X (qI Q)) σ 21 [some (.ref (X.1 276)), none] [] := by
  unfold w_X5_readMan_21 at h
  refine J_aload_n cx 0 dX5_readMan_21 rfl rfl ?_
  refine J_aload_n cx 0 dX5_readMan_22 rfl rfl ?_
  refine J_getR cx (j := 283) dX5_readMan_23 F_X5_28 (by decide) rfl rfl rfl ?_
  refine J_iconst cx dX5_readMan_26 (by decide : _ = ((nI 3) : Int32)) ?_
  refine J_iald cx dX5_readMan_27 (by decide) rfl (vpl (by decide)) ?_
  refine J_if_le cx (tgt := 35) dX5_readMan_28 (by decide) (fun q12 => ?_) (fun q12 => ?_)
  · replace h := h.1 q12
    refine J_iconst cx dX5_readMan_35 (by decide : _ = ((nI 3) : Int32)) ?_
    refine J_fg 0 rfl ?_
    exact j_X5_readMan_36     cx   _ _ h
  · replace h := h.2 q12
    refine J_iconst cx dX5_readMan_31 (by decide : _ = ((nI 1) : Int32)) ?_
    refine J_goto cx (tgt := 36) dX5_readMan_32 (by decide) ?_
    refine J_fg 0 rfl ?_
    exact j_X5_readMan_36     cx   _ _ h
def wp_X5_readMan (σ : PI) (Q : Int32 → PI → Prop) : Prop := ∀ x1 : Int32, x1 = (σ 283 2) → ((x1 = (nI 5) → w_X5_readMan_21   Q  σ) ∧ (¬ x1 = (nI 5) → ((σ 283 3) ≤ (nI 0) → wp_X5_nextToken  σ (fun τ4 => (∀ τ5 : PI, τ5 = up τ4 283 2 ((τ4 283 2) + (nI 1)) → (wp_X5_takesNumber (nI 0) (nI 60) ((nI 6) + x1) (nI 44) τ5 (fun r7 τ6 => ((r7 = (nI 0) → Q (nI 0) τ6) ∧ (¬ r7 = (nI 0) → wp_X5_takesNumber (nI 0) (nI 9) ((nI 11) + x1) (nI 59) τ6 (fun r10 τ9 => ((r10 = (nI 0) → Q (nI 0) τ9) ∧ (¬ r10 = (nI 0) → Q (nI 1) τ9)))))))))) ∧ (¬ (σ 283 3) ≤ (nI 0) → w_X5_readMan_21   Q  σ)))
set_option maxRecDepth 100000 in
set_option maxHeartbeats 4000000 in
theorem ct_X5_readMan {l : Launch} {X : XP} (σ : PI) (Q : Int32 → PI → Prop) (h : wp_X5_readMan   σ Q) : Ct l yX5_readMan cX5_readMan 2 (some .boolean) 4 X [.ref (X.1 276)] σ (qI Q) := by
  refine Ct_of (L := [some (.ref (X.1 276)), none]) (by decide) (Nat.le_of_ble_eq_true rfl) rfl (fun M hl cx => ?_)
  subst hl
  unfold wp_X5_readMan at h
  refine J_aload_n cx 0 dX5_readMan_0 rfl rfl ?_
  refine J_getR cx (j := 283) dX5_readMan_1 F_X5_28 (by decide) rfl rfl rfl ?_
  refine J_iconst cx dX5_readMan_4 (by decide : _ = ((nI 2) : Int32)) ?_
  refine J_iald cx dX5_readMan_5 (by decide) rfl (vpl (by decide)) ?_
  refine J_topi (fun x1 e_x1 => ?_)
  replace h := h x1 e_x1
  refine J_istore_n cx 1 dX5_readMan_6 rfl (by decide) rfl rfl ?_
  refine J_iload_n cx 1 dX5_readMan_7 rfl rfl ?_
  refine J_iconst cx dX5_readMan_8 (by decide : _ = ((nI 5) : Int32)) ?_
  refine J_icmp_eq cx (tgt := 21) dX5_readMan_9 (by decide) (fun q2 => ?_) (fun q2 => ?_)
  · replace h := h.1 q2
    refine J_fg 1 rfl ?_
    exact j_X5_readMan_21     cx   _ h
  · replace h := h.2 q2
    refine J_aload_n cx 0 dX5_readMan_12 rfl rfl ?_
    refine J_getR cx (j := 283) dX5_readMan_13 F_X5_28 (by decide) rfl rfl rfl ?_
    refine J_iconst cx dX5_readMan_16 (by decide : _ = ((nI 3) : Int32)) ?_
    refine J_iald cx dX5_readMan_17 (by decide) rfl (vpl (by decide)) ?_
    refine J_if_le cx (tgt := 40) dX5_readMan_18 (by decide) (fun q3 => ?_) (fun q3 => ?_)
    · replace h := h.1 q3
      refine J_aload_n cx 0 dX5_readMan_40 rfl rfl ?_
      refine J_cV cx dX5_readMan_41 V_X5_111 (by decide) (by decide) rfl (ct_X5_nextToken    _ _ h) rfl rfl (Nat.le_of_ble_eq_true rfl) (k_v (fun τ4 h => ?_))
      refine J_aload_n cx 0 dX5_readMan_44 rfl rfl ?_
      refine J_getR cx (j := 283) dX5_readMan_45 F_X5_28 (by decide) rfl rfl rfl ?_
      refine J_iconst cx dX5_readMan_48 (by decide : _ = ((nI 2) : Int32)) ?_
      refine J_dup2 cx dX5_readMan_49 rfl rfl ?_
      refine J_iald cx dX5_readMan_50 (by decide) rfl (vpl (by decide)) ?_
      refine J_iconst cx dX5_readMan_51 (by decide : _ = ((nI 1) : Int32)) ?_
      refine J_iadd cx dX5_readMan_52 ?_
      refine J_iast cx dX5_readMan_53 (by decide) rfl (vpl (by decide)) ?_
      refine J_nm (fun τ5 e_τ5 => ?_)
      replace h := h τ5 e_τ5
      refine J_aload_n cx 0 dX5_readMan_54 rfl rfl ?_
      refine J_iconst cx dX5_readMan_55 (by decide : _ = ((nI 0) : Int32)) ?_
      refine J_bipush cx dX5_readMan_56 (by decide : _ = ((nI 60) : Int32)) ?_
      refine J_bipush cx dX5_readMan_58 (by decide : _ = ((nI 6) : Int32)) ?_
      refine J_iload_n cx 1 dX5_readMan_60 rfl rfl ?_
      refine J_iadd cx dX5_readMan_61 ?_
      refine J_bipush cx dX5_readMan_62 (by decide : _ = ((nI 44) : Int32)) ?_
      refine J_cV cx dX5_readMan_64 V_X5_117 (by decide) (by decide) rfl (ct_X5_takesNumber   _ _ _ _ _ _ h) rfl rfl (Nat.le_of_ble_eq_true rfl) (k_i (fun r7 τ6 h => ?_))
      refine J_if_eq cx (tgt := 90) dX5_readMan_67 (by decide) (fun q8 => ?_) (fun q8 => ?_)
      · replace h := h.1 q8
        refine J_iconst cx dX5_readMan_90 (by decide : _ = ((nI 0) : Int32)) ?_
        exact J_zret cx dX5_readMan_91 (Or.inl rfl) h
      · replace h := h.2 q8
        refine J_aload_n cx 0 dX5_readMan_70 rfl rfl ?_
        refine J_iconst cx dX5_readMan_71 (by decide : _ = ((nI 0) : Int32)) ?_
        refine J_bipush cx dX5_readMan_72 (by decide : _ = ((nI 9) : Int32)) ?_
        refine J_bipush cx dX5_readMan_74 (by decide : _ = ((nI 11) : Int32)) ?_
        refine J_iload_n cx 1 dX5_readMan_76 rfl rfl ?_
        refine J_iadd cx dX5_readMan_77 ?_
        refine J_bipush cx dX5_readMan_78 (by decide : _ = ((nI 59) : Int32)) ?_
        refine J_cV cx dX5_readMan_80 V_X5_117 (by decide) (by decide) rfl (ct_X5_takesNumber   _ _ _ _ _ _ h) rfl rfl (Nat.le_of_ble_eq_true rfl) (k_i (fun r10 τ9 h => ?_))
        refine J_if_eq cx (tgt := 90) dX5_readMan_83 (by decide) (fun q11 => ?_) (fun q11 => ?_)
        · replace h := h.1 q11
          refine J_iconst cx dX5_readMan_90 (by decide : _ = ((nI 0) : Int32)) ?_
          exact J_zret cx dX5_readMan_91 (Or.inl rfl) h
        · replace h := h.2 q11
          refine J_iconst cx dX5_readMan_86 (by decide : _ = ((nI 1) : Int32)) ?_
          refine J_goto cx (tgt := 91) dX5_readMan_87 (by decide) ?_
          exact J_zret cx dX5_readMan_91 (Or.inr rfl) h
    · replace h := h.2 q3
      refine J_fg 1 rfl ?_
      exact j_X5_readMan_21     cx   _ h
def w_X5_readLeaver_37 (Q : Int32 → PI → Prop) (s0 : Int32) (σ : PI) : Prop := wp_X5_faults s0 σ (fun r19 τ18 => (bz r19 ∧ Q r19 τ18))
set_option maxRecDepth 100000 in
set_option maxHeartbeats 4000000 in
theorem j_X5_readLeaver_37 {M : MC} {X : XP} {Q : Int32 → PI → Prop} (cx : Cx M X RX5 cX5_readLeaver 3 (some .boolean) 4) (s0 : Int32) (σ : PI) (h : w_X5_readLeaver_37   Q s0 σ) : J M X (QF M X (qI Q)) σ 37 [none, none, none] [.int s0, .ref (X.1 276)] := by
  unfold w_X5_readLeaver_37 at h
  refine J_cV cx dX5_readLeaver_37 V_X5_108 (by decide) (by decide) rfl (ct_X5_faults   _ _ _ h) rfl rfl (Nat.le_of_ble_eq_true rfl) (k_i (fun r19 τ18 h => ?_))
  exact J_zret cx dX5_readLeaver_40 h.1 h.2
def w_X5_readLeaver_22 (Q : Int32 → PI → Prop) (σ : PI) : Prop := (¬ (σ 283 2) = (nI 0) → w_X5_readLeaver_37   Q (nI 3) σ) ∧ ((σ 283 2) = (nI 0) → w_X5_readLeaver_37   Q (nI 1) σ)
set_option maxRecDepth 100000 in
set_option maxHeartbeats 4000000 in
theorem j_X5_readLeaver_22 {M : MC} {X : XP} {Q : Int32 → PI → Prop} (cx : Cx M X RX5 cX5_readLeaver 3 (some .boolean) 4) (σ : PI) (h : w_X5_readLeaver_22   Q  σ) : J M X (QF M X (qI Q)) σ 22 [some (.ref (X.1 276)), none, none] [] := by
  unfold w_X5_readLeaver_22 at h
  refine J_aload_n cx 0 dX5_readLeaver_22 rfl rfl ?_
  refine J_aload_n cx 0 dX5_readLeaver_23 rfl rfl ?_
  refine J_getR cx (j := 283) dX5_readLeaver_24 F_X5_28 (by decide) rfl rfl rfl ?_
  refine J_iconst cx dX5_readLeaver_27 (by decide : _ = ((nI 2) : Int32)) ?_
  refine J_iald cx dX5_readLeaver_28 (by decide) rfl (vpl (by decide)) ?_
  refine J_if_ne cx (tgt := 36) dX5_readLeaver_29 (by decide) (fun q17 => ?_) (fun q17 => ?_)
  · replace h := h.1 q17
    refine J_iconst cx dX5_readLeaver_36 (by decide : _ = ((nI 3) : Int32)) ?_
    refine J_fg 0 rfl ?_
    exact j_X5_readLeaver_37     cx   _ _ h
  · replace h := h.2 q17
    refine J_iconst cx dX5_readLeaver_32 (by decide : _ = ((nI 1) : Int32)) ?_
    refine J_goto cx (tgt := 37) dX5_readLeaver_33 (by decide) ?_
    refine J_fg 0 rfl ?_
    exact j_X5_readLeaver_37     cx   _ _ h
def wp_X5_readLeaver (a0 : Int32) (σ : PI) (Q : Int32 → PI → Prop) : Prop := ∀ x1 : Int32, x1 = (σ 283 3) → ((x1 = (nI 6) → w_X5_readLeaver_22   Q  σ) ∧ (¬ x1 = (nI 6) → (¬ (σ 283 2) = (nI 0) → wp_X5_nextToken  σ (fun τ4 => (vp_in ((nI 16) + x1) 70 ∧ (∀ τ6 : PI, τ6 = up τ4 283 (((nI 16) + x1) : Int32).toNatClampNeg a0 → (∀ τ7 : PI, τ7 = up τ6 283 3 ((τ6 283 3) + (nI 1)) → (wp_X5_takesNumber (nI 0) ((τ7 283 2) - (nI 1)) ((nI 22) + x1) (nI 44) τ7 (fun r9 τ8 => ((r9 = (nI 0) → Q (nI 0) τ8) ∧ (¬ r9 = (nI 0) → wp_X5_takesNumber (nI 1) (nI 9) ((nI 28) + x1) (nI 44) τ8 (fun r12 τ11 => ((r12 = (nI 0) → Q (nI 0) τ11) ∧ (¬ r12 = (nI 0) → wp_X5_takesNumber (nI 0) (nI 4) ((nI 34) + x1) (nI 59) τ11 (fun r15 τ14 => ((r15 = (nI 0) → Q (nI 0) τ14) ∧ (¬ r15 = (nI 0) → Q (nI 1) τ14))))))))))))))) ∧ ((σ 283 2) = (nI 0) → w_X5_readLeaver_22   Q  σ)))
set_option maxRecDepth 100000 in
set_option maxHeartbeats 4000000 in
theorem ct_X5_readLeaver {l : Launch} {X : XP} (a0 : Int32) (σ : PI) (Q : Int32 → PI → Prop) (h : wp_X5_readLeaver  a0 σ Q) : Ct l yX5_readLeaver cX5_readLeaver 3 (some .boolean) 4 X [.ref (X.1 276), .int a0] σ (qI Q) := by
  refine Ct_of (L := [some (.ref (X.1 276)), some (.int a0), none]) (by decide) (Nat.le_of_ble_eq_true rfl) rfl (fun M hl cx => ?_)
  subst hl
  unfold wp_X5_readLeaver at h
  refine J_aload_n cx 0 dX5_readLeaver_0 rfl rfl ?_
  refine J_getR cx (j := 283) dX5_readLeaver_1 F_X5_28 (by decide) rfl rfl rfl ?_
  refine J_iconst cx dX5_readLeaver_4 (by decide : _ = ((nI 3) : Int32)) ?_
  refine J_iald cx dX5_readLeaver_5 (by decide) rfl (vpl (by decide)) ?_
  refine J_topi (fun x1 e_x1 => ?_)
  replace h := h x1 e_x1
  refine J_istore_n cx 2 dX5_readLeaver_6 rfl (by decide) rfl rfl ?_
  refine J_iload_n cx 2 dX5_readLeaver_7 rfl rfl ?_
  refine J_bipush cx dX5_readLeaver_8 (by decide : _ = ((nI 6) : Int32)) ?_
  refine J_icmp_eq cx (tgt := 22) dX5_readLeaver_10 (by decide) (fun q2 => ?_) (fun q2 => ?_)
  · replace h := h.1 q2
    refine J_fg 1 rfl ?_
    refine J_fg 2 rfl ?_
    exact j_X5_readLeaver_22     cx   _ h
  · replace h := h.2 q2
    refine J_aload_n cx 0 dX5_readLeaver_13 rfl rfl ?_
    refine J_getR cx (j := 283) dX5_readLeaver_14 F_X5_28 (by decide) rfl rfl rfl ?_
    refine J_iconst cx dX5_readLeaver_17 (by decide : _ = ((nI 2) : Int32)) ?_
    refine J_iald cx dX5_readLeaver_18 (by decide) rfl (vpl (by decide)) ?_
    refine J_if_ne cx (tgt := 41) dX5_readLeaver_19 (by decide) (fun q3 => ?_) (fun q3 => ?_)
    · replace h := h.1 q3
      refine J_aload_n cx 0 dX5_readLeaver_41 rfl rfl ?_
      refine J_cV cx dX5_readLeaver_42 V_X5_111 (by decide) (by decide) rfl (ct_X5_nextToken    _ _ h) rfl rfl (Nat.le_of_ble_eq_true rfl) (k_v (fun τ4 h => ?_))
      refine J_aload_n cx 0 dX5_readLeaver_45 rfl rfl ?_
      refine J_getR cx (j := 283) dX5_readLeaver_46 F_X5_28 (by decide) rfl rfl rfl ?_
      refine J_bipush cx dX5_readLeaver_49 (by decide : _ = ((nI 16) : Int32)) ?_
      refine J_iload_n cx 2 dX5_readLeaver_51 rfl rfl ?_
      refine J_iadd cx dX5_readLeaver_52 ?_
      refine J_iload_n cx 1 dX5_readLeaver_53 rfl rfl ?_
      obtain ⟨s5, h⟩ := h
      refine J_iast cx dX5_readLeaver_54 (by decide) rfl s5 ?_
      refine J_nm (fun τ6 e_τ6 => ?_)
      replace h := h τ6 e_τ6
      refine J_aload_n cx 0 dX5_readLeaver_55 rfl rfl ?_
      refine J_getR cx (j := 283) dX5_readLeaver_56 F_X5_28 (by decide) rfl rfl rfl ?_
      refine J_iconst cx dX5_readLeaver_59 (by decide : _ = ((nI 3) : Int32)) ?_
      refine J_dup2 cx dX5_readLeaver_60 rfl rfl ?_
      refine J_iald cx dX5_readLeaver_61 (by decide) rfl (vpl (by decide)) ?_
      refine J_iconst cx dX5_readLeaver_62 (by decide : _ = ((nI 1) : Int32)) ?_
      refine J_iadd cx dX5_readLeaver_63 ?_
      refine J_iast cx dX5_readLeaver_64 (by decide) rfl (vpl (by decide)) ?_
      refine J_nm (fun τ7 e_τ7 => ?_)
      replace h := h τ7 e_τ7
      refine J_aload_n cx 0 dX5_readLeaver_65 rfl rfl ?_
      refine J_iconst cx dX5_readLeaver_66 (by decide : _ = ((nI 0) : Int32)) ?_
      refine J_aload_n cx 0 dX5_readLeaver_67 rfl rfl ?_
      refine J_getR cx (j := 283) dX5_readLeaver_68 F_X5_28 (by decide) rfl rfl rfl ?_
      refine J_iconst cx dX5_readLeaver_71 (by decide : _ = ((nI 2) : Int32)) ?_
      refine J_iald cx dX5_readLeaver_72 (by decide) rfl (vpl (by decide)) ?_
      refine J_iconst cx dX5_readLeaver_73 (by decide : _ = ((nI 1) : Int32)) ?_
      refine J_isub cx dX5_readLeaver_74 ?_
      refine J_bipush cx dX5_readLeaver_75 (by decide : _ = ((nI 22) : Int32)) ?_
      refine J_iload_n cx 2 dX5_readLeaver_77 rfl rfl ?_
      refine J_iadd cx dX5_readLeaver_78 ?_
      refine J_bipush cx dX5_readLeaver_79 (by decide : _ = ((nI 44) : Int32)) ?_
      refine J_cV cx dX5_readLeaver_81 V_X5_117 (by decide) (by decide) rfl (ct_X5_takesNumber   _ _ _ _ _ _ h) rfl rfl (Nat.le_of_ble_eq_true rfl) (k_i (fun r9 τ8 h => ?_))
      refine J_if_eq cx (tgt := 122) dX5_readLeaver_84 (by decide) (fun q10 => ?_) (fun q10 => ?_)
      · replace h := h.1 q10
        refine J_iconst cx dX5_readLeaver_122 (by decide : _ = ((nI 0) : Int32)) ?_
        exact J_zret cx dX5_readLeaver_123 (Or.inl rfl) h
      · replace h := h.2 q10
        refine J_aload_n cx 0 dX5_readLeaver_87 rfl rfl ?_
        refine J_iconst cx dX5_readLeaver_88 (by decide : _ = ((nI 1) : Int32)) ?_
        refine J_bipush cx dX5_readLeaver_89 (by decide : _ = ((nI 9) : Int32)) ?_
        refine J_bipush cx dX5_readLeaver_91 (by decide : _ = ((nI 28) : Int32)) ?_
        refine J_iload_n cx 2 dX5_readLeaver_93 rfl rfl ?_
        refine J_iadd cx dX5_readLeaver_94 ?_
        refine J_bipush cx dX5_readLeaver_95 (by decide : _ = ((nI 44) : Int32)) ?_
        refine J_cV cx dX5_readLeaver_97 V_X5_117 (by decide) (by decide) rfl (ct_X5_takesNumber   _ _ _ _ _ _ h) rfl rfl (Nat.le_of_ble_eq_true rfl) (k_i (fun r12 τ11 h => ?_))
        refine J_if_eq cx (tgt := 122) dX5_readLeaver_100 (by decide) (fun q13 => ?_) (fun q13 => ?_)
        · replace h := h.1 q13
          refine J_iconst cx dX5_readLeaver_122 (by decide : _ = ((nI 0) : Int32)) ?_
          exact J_zret cx dX5_readLeaver_123 (Or.inl rfl) h
        · replace h := h.2 q13
          refine J_aload_n cx 0 dX5_readLeaver_103 rfl rfl ?_
          refine J_iconst cx dX5_readLeaver_104 (by decide : _ = ((nI 0) : Int32)) ?_
          refine J_iconst cx dX5_readLeaver_105 (by decide : _ = ((nI 4) : Int32)) ?_
          refine J_bipush cx dX5_readLeaver_106 (by decide : _ = ((nI 34) : Int32)) ?_
          refine J_iload_n cx 2 dX5_readLeaver_108 rfl rfl ?_
          refine J_iadd cx dX5_readLeaver_109 ?_
          refine J_bipush cx dX5_readLeaver_110 (by decide : _ = ((nI 59) : Int32)) ?_
          refine J_cV cx dX5_readLeaver_112 V_X5_117 (by decide) (by decide) rfl (ct_X5_takesNumber   _ _ _ _ _ _ h) rfl rfl (Nat.le_of_ble_eq_true rfl) (k_i (fun r15 τ14 h => ?_))
          refine J_if_eq cx (tgt := 122) dX5_readLeaver_115 (by decide) (fun q16 => ?_) (fun q16 => ?_)
          · replace h := h.1 q16
            refine J_iconst cx dX5_readLeaver_122 (by decide : _ = ((nI 0) : Int32)) ?_
            exact J_zret cx dX5_readLeaver_123 (Or.inl rfl) h
          · replace h := h.2 q16
            refine J_iconst cx dX5_readLeaver_118 (by decide : _ = ((nI 1) : Int32)) ?_
            refine J_goto cx (tgt := 123) dX5_readLeaver_119 (by decide) ?_
            exact J_zret cx dX5_readLeaver_123 (Or.inr rfl) h
    · replace h := h.2 q3
      refine J_fg 1 rfl ?_
      refine J_fg 2 rfl ?_
      exact j_X5_readLeaver_22     cx   _ h
def w_X5_readTown_190 (K69 : (Int32 × PI → Prop)) (Q : Int32 → PI → Prop) (s0 : Int32) (σ : PI) : Prop := K69 (s0, σ)
set_option maxRecDepth 100000 in
set_option maxHeartbeats 4000000 in
theorem j_X5_readTown_190 {M : MC} {X : XP} {Q : Int32 → PI → Prop} (K69 : (Int32 × PI → Prop)) (hK69 : ∀ (l1 : Int32) (σ : PI), K69 (l1, σ) → J M X (QF M X (qI Q)) σ 69 [some (.ref (X.1 276)), some (.int l1), none] []) (cx : Cx M X RX5 cX5_readTown 3 (some .boolean) 5) (s0 : Int32) (σ : PI) (h : w_X5_readTown_190  K69 Q s0 σ) : J M X (QF M X (qI Q)) σ 190 [some (.ref (X.1 276)), none, none] [.int s0] := by
  unfold w_X5_readTown_190 at h
  refine J_istore_n cx 1 dX5_readTown_190 rfl (by decide) rfl rfl ?_
  refine J_goto cx (tgt := 69) dX5_readTown_191 (by decide) ?_
  exact hK69   _ _ h
def w_X5_readTown_156 (K69 : (Int32 × PI → Prop)) (Q : Int32 → PI → Prop) (s0 : Int32) (σ : PI) : Prop := (s0 ≤ (nI 0) → wp_X5_isLetter (nI 109) σ (fun r35 τ34 => ((r35 = (nI 0) → wp_X5_faults (nI 1) τ34 (fun r38 τ37 => (w_X5_readTown_190  K69 Q r38 τ37))) ∧ (¬ r35 = (nI 0) → wp_X5_readMan  τ34 (fun r40 τ39 => (w_X5_readTown_190  K69 Q r40 τ39)))))) ∧ (¬ s0 ≤ (nI 0) → wp_X5_readLeaver s0 σ (fun r42 τ41 => (w_X5_readTown_190  K69 Q r42 τ41)))
set_option maxRecDepth 100000 in
set_option maxHeartbeats 4000000 in
theorem j_X5_readTown_156 {M : MC} {X : XP} {Q : Int32 → PI → Prop} (K69 : (Int32 × PI → Prop)) (hK69 : ∀ (l1 : Int32) (σ : PI), K69 (l1, σ) → J M X (QF M X (qI Q)) σ 69 [some (.ref (X.1 276)), some (.int l1), none] []) (cx : Cx M X RX5 cX5_readTown 3 (some .boolean) 5) (s0 : Int32) (σ : PI) (h : w_X5_readTown_156  K69 Q s0 σ) : J M X (QF M X (qI Q)) σ 156 [some (.ref (X.1 276)), none, none] [.int s0] := by
  unfold w_X5_readTown_156 at h
  refine J_istore_n cx 2 dX5_readTown_156 rfl (by decide) rfl rfl ?_
  refine J_iload_n cx 2 dX5_readTown_157 rfl rfl ?_
  refine J_if_le cx (tgt := 169) dX5_readTown_158 (by decide) (fun q33 => ?_) (fun q33 => ?_)
  · replace h := h.1 q33
    refine J_aload_n cx 0 dX5_readTown_169 rfl rfl ?_
    refine J_bipush cx dX5_readTown_170 (by decide : _ = ((nI 109) : Int32)) ?_
    refine J_cV cx dX5_readTown_172 V_X5_105 (by decide) (by decide) rfl (ct_X5_isLetter   _ _ _ h) rfl rfl (Nat.le_of_ble_eq_true rfl) (k_i (fun r35 τ34 h => ?_))
    refine J_if_eq cx (tgt := 185) dX5_readTown_175 (by decide) (fun q36 => ?_) (fun q36 => ?_)
    · replace h := h.1 q36
      refine J_aload_n cx 0 dX5_readTown_185 rfl rfl ?_
      refine J_iconst cx dX5_readTown_186 (by decide : _ = ((nI 1) : Int32)) ?_
      refine J_cV cx dX5_readTown_187 V_X5_108 (by decide) (by decide) rfl (ct_X5_faults   _ _ _ h) rfl rfl (Nat.le_of_ble_eq_true rfl) (k_i (fun r38 τ37 h => ?_))
      refine J_fg 2 rfl ?_
      exact j_X5_readTown_190   K69 hK69 cx   _ _ h
    · replace h := h.2 q36
      refine J_aload_n cx 0 dX5_readTown_178 rfl rfl ?_
      refine J_cV cx dX5_readTown_179 V_X5_124 (by decide) (by decide) rfl (ct_X5_readMan    _ _ h) rfl rfl (Nat.le_of_ble_eq_true rfl) (k_i (fun r40 τ39 h => ?_))
      refine J_goto cx (tgt := 190) dX5_readTown_182 (by decide) ?_
      refine J_fg 2 rfl ?_
      exact j_X5_readTown_190   K69 hK69 cx   _ _ h
  · replace h := h.2 q33
    refine J_aload_n cx 0 dX5_readTown_161 rfl rfl ?_
    refine J_iload_n cx 2 dX5_readTown_162 rfl rfl ?_
    refine J_cV cx dX5_readTown_163 V_X5_121 (by decide) (by decide) rfl (ct_X5_readLeaver   _ _ _ h) rfl rfl (Nat.le_of_ble_eq_true rfl) (k_i (fun r42 τ41 h => ?_))
    refine J_goto cx (tgt := 190) dX5_readTown_166 (by decide) ?_
    refine J_fg 2 rfl ?_
    exact j_X5_readTown_190   K69 hK69 cx   _ _ h
def w_X5_readTown_90 (K69 : (Int32 × PI → Prop)) (Q : Int32 → PI → Prop) (σ : PI) : Prop := wp_X5_isLetter (nI 112) σ (fun r19 τ18 => ((r19 = (nI 0) → wp_X5_isLetter (nI 102) τ18 (fun r22 τ21 => ((r22 = (nI 0) → wp_X5_isLetter (nI 115) τ21 (fun r25 τ24 => ((r25 = (nI 0) → wp_X5_isLetter (nI 105) τ24 (fun r28 τ27 => ((r28 = (nI 0) → wp_X5_isLetter (nI 119) τ27 (fun r31 τ30 => ((r31 = (nI 0) → w_X5_readTown_156  K69 Q (nI 0) τ30) ∧ (¬ r31 = (nI 0) → w_X5_readTown_156  K69 Q (nI 5) τ30)))) ∧ (¬ r28 = (nI 0) → w_X5_readTown_156  K69 Q (nI 4) τ27)))) ∧ (¬ r25 = (nI 0) → w_X5_readTown_156  K69 Q (nI 3) τ24)))) ∧ (¬ r22 = (nI 0) → w_X5_readTown_156  K69 Q (nI 2) τ21)))) ∧ (¬ r19 = (nI 0) → w_X5_readTown_156  K69 Q (nI 1) τ18)))
set_option maxRecDepth 100000 in
set_option maxHeartbeats 4000000 in
theorem j_X5_readTown_90 {M : MC} {X : XP} {Q : Int32 → PI → Prop} (K69 : (Int32 × PI → Prop)) (hK69 : ∀ (l1 : Int32) (σ : PI), K69 (l1, σ) → J M X (QF M X (qI Q)) σ 69 [some (.ref (X.1 276)), some (.int l1), none] []) (cx : Cx M X RX5 cX5_readTown 3 (some .boolean) 5) (σ : PI) (h : w_X5_readTown_90  K69 Q  σ) : J M X (QF M X (qI Q)) σ 90 [some (.ref (X.1 276)), none, none] [] := by
  unfold w_X5_readTown_90 at h
  refine J_aload_n cx 0 dX5_readTown_90 rfl rfl ?_
  refine J_bipush cx dX5_readTown_91 (by decide : _ = ((nI 112) : Int32)) ?_
  refine J_cV cx dX5_readTown_93 V_X5_105 (by decide) (by decide) rfl (ct_X5_isLetter   _ _ _ h) rfl rfl (Nat.le_of_ble_eq_true rfl) (k_i (fun r19 τ18 h => ?_))
  refine J_if_eq cx (tgt := 103) dX5_readTown_96 (by decide) (fun q20 => ?_) (fun q20 => ?_)
  · replace h := h.1 q20
    refine J_aload_n cx 0 dX5_readTown_103 rfl rfl ?_
    refine J_bipush cx dX5_readTown_104 (by decide : _ = ((nI 102) : Int32)) ?_
    refine J_cV cx dX5_readTown_106 V_X5_105 (by decide) (by decide) rfl (ct_X5_isLetter   _ _ _ h) rfl rfl (Nat.le_of_ble_eq_true rfl) (k_i (fun r22 τ21 h => ?_))
    refine J_if_eq cx (tgt := 116) dX5_readTown_109 (by decide) (fun q23 => ?_) (fun q23 => ?_)
    · replace h := h.1 q23
      refine J_aload_n cx 0 dX5_readTown_116 rfl rfl ?_
      refine J_bipush cx dX5_readTown_117 (by decide : _ = ((nI 115) : Int32)) ?_
      refine J_cV cx dX5_readTown_119 V_X5_105 (by decide) (by decide) rfl (ct_X5_isLetter   _ _ _ h) rfl rfl (Nat.le_of_ble_eq_true rfl) (k_i (fun r25 τ24 h => ?_))
      refine J_if_eq cx (tgt := 129) dX5_readTown_122 (by decide) (fun q26 => ?_) (fun q26 => ?_)
      · replace h := h.1 q26
        refine J_aload_n cx 0 dX5_readTown_129 rfl rfl ?_
        refine J_bipush cx dX5_readTown_130 (by decide : _ = ((nI 105) : Int32)) ?_
        refine J_cV cx dX5_readTown_132 V_X5_105 (by decide) (by decide) rfl (ct_X5_isLetter   _ _ _ h) rfl rfl (Nat.le_of_ble_eq_true rfl) (k_i (fun r28 τ27 h => ?_))
        refine J_if_eq cx (tgt := 142) dX5_readTown_135 (by decide) (fun q29 => ?_) (fun q29 => ?_)
        · replace h := h.1 q29
          refine J_aload_n cx 0 dX5_readTown_142 rfl rfl ?_
          refine J_bipush cx dX5_readTown_143 (by decide : _ = ((nI 119) : Int32)) ?_
          refine J_cV cx dX5_readTown_145 V_X5_105 (by decide) (by decide) rfl (ct_X5_isLetter   _ _ _ h) rfl rfl (Nat.le_of_ble_eq_true rfl) (k_i (fun r31 τ30 h => ?_))
          refine J_if_eq cx (tgt := 155) dX5_readTown_148 (by decide) (fun q32 => ?_) (fun q32 => ?_)
          · replace h := h.1 q32
            refine J_iconst cx dX5_readTown_155 (by decide : _ = ((nI 0) : Int32)) ?_
            exact j_X5_readTown_156   K69 hK69 cx   _ _ h
          · replace h := h.2 q32
            refine J_iconst cx dX5_readTown_151 (by decide : _ = ((nI 5) : Int32)) ?_
            refine J_goto cx (tgt := 156) dX5_readTown_152 (by decide) ?_
            exact j_X5_readTown_156   K69 hK69 cx   _ _ h
        · replace h := h.2 q29
          refine J_iconst cx dX5_readTown_138 (by decide : _ = ((nI 4) : Int32)) ?_
          refine J_goto cx (tgt := 156) dX5_readTown_139 (by decide) ?_
          exact j_X5_readTown_156   K69 hK69 cx   _ _ h
      · replace h := h.2 q26
        refine J_iconst cx dX5_readTown_125 (by decide : _ = ((nI 3) : Int32)) ?_
        refine J_goto cx (tgt := 156) dX5_readTown_126 (by decide) ?_
        exact j_X5_readTown_156   K69 hK69 cx   _ _ h
    · replace h := h.2 q23
      refine J_iconst cx dX5_readTown_112 (by decide : _ = ((nI 2) : Int32)) ?_
      refine J_goto cx (tgt := 156) dX5_readTown_113 (by decide) ?_
      exact j_X5_readTown_156   K69 hK69 cx   _ _ h
  · replace h := h.2 q20
    refine J_iconst cx dX5_readTown_99 (by decide : _ = ((nI 1) : Int32)) ?_
    refine J_goto cx (tgt := 156) dX5_readTown_100 (by decide) ?_
    exact j_X5_readTown_156   K69 hK69 cx   _ _ h
def B_X5_readTown_69 (K69 : (Int32 × PI → Prop)) (Q : Int32 → PI → Prop) (l1 : Int32) (σ : PI) : Prop := (l1 = (nI 0) → bz l1 ∧ Q l1 σ) ∧ (¬ l1 = (nI 0) → (¬ (σ 276 12) = (nI 3) → w_X5_readTown_90  K69 Q  σ) ∧ ((σ 276 12) = (nI 3) → (¬ (σ 283 3) = (nI 0) → bz l1 ∧ Q l1 σ) ∧ ((σ 283 3) = (nI 0) → w_X5_readTown_90  K69 Q  σ)))
def w_X5_readTown_69 (Q : Int32 → PI → Prop) (l1 : Int32) (σ : PI) : Prop := ∃ n, Lp (fun K a => B_X5_readTown_69   K Q a.1 a.2) n (l1, σ)
set_option maxRecDepth 100000 in
set_option maxHeartbeats 4000000 in
theorem j_X5_readTown_69 {M : MC} {X : XP} {Q : Int32 → PI → Prop} (cx : Cx M X RX5 cX5_readTown 3 (some .boolean) 5) (l1 : Int32) (σ : PI) (h : w_X5_readTown_69   Q l1 σ) : J M X (QF M X (qI Q)) σ 69 [some (.ref (X.1 276)), some (.int l1), none] [] := by
  refine Lp_J (P := fun (a : Int32 × PI) => J M X (QF M X (qI Q)) (a.2) 69 [some (.ref (X.1 276)), some (.int a.1), none] []) (fun K69 hK a h => ?_) h
  obtain ⟨l1, σ⟩ := a
  have hK69 : ∀ (l1 : Int32) (σ : PI), K69 (l1, σ) → J M X (QF M X (qI Q)) σ 69 [some (.ref (X.1 276)), some (.int l1), none] [] := fun l1 σ q => hK _ q
  replace h : B_X5_readTown_69   K69 Q l1 σ := h
  show J M X (QF M X (qI Q)) σ 69 [some (.ref (X.1 276)), some (.int l1), none] []
  unfold B_X5_readTown_69 at h
  refine J_iload_n cx 1 dX5_readTown_69 rfl rfl ?_
  refine J_if_eq cx (tgt := 194) dX5_readTown_70 (by decide) (fun q15 => ?_) (fun q15 => ?_)
  · replace h := h.1 q15
    refine J_iload_n cx 1 dX5_readTown_194 rfl rfl ?_
    exact J_zret cx dX5_readTown_195 h.1 h.2
  · replace h := h.2 q15
    refine J_aload_n cx 0 dX5_readTown_73 rfl rfl ?_
    refine J_getI cx dX5_readTown_74 F_X5_88 (by decide) rfl rfl ?_
    refine J_iconst cx dX5_readTown_77 (by decide : _ = ((nI 3) : Int32)) ?_
    refine J_icmp_ne cx (tgt := 90) dX5_readTown_78 (by decide) (fun q16 => ?_) (fun q16 => ?_)
    · replace h := h.1 q16
      refine J_fg 1 rfl ?_
      exact j_X5_readTown_90   K69 hK69 cx   _ h
    · replace h := h.2 q16
      refine J_aload_n cx 0 dX5_readTown_81 rfl rfl ?_
      refine J_getR cx (j := 283) dX5_readTown_82 F_X5_28 (by decide) rfl rfl rfl ?_
      refine J_iconst cx dX5_readTown_85 (by decide : _ = ((nI 3) : Int32)) ?_
      refine J_iald cx dX5_readTown_86 (by decide) rfl (vpl (by decide)) ?_
      refine J_if_ne cx (tgt := 194) dX5_readTown_87 (by decide) (fun q17 => ?_) (fun q17 => ?_)
      · replace h := h.1 q17
        refine J_iload_n cx 1 dX5_readTown_194 rfl rfl ?_
        exact J_zret cx dX5_readTown_195 h.1 h.2
      · replace h := h.2 q17
        refine J_fg 1 rfl ?_
        exact j_X5_readTown_90   K69 hK69 cx   _ h
def B_X5_readTown_7 (K7 : (Int32 × PI → Prop)) (Q : Int32 → PI → Prop) (l1 : Int32) (σ : PI) : Prop := ((nI 70) ≤ l1 → wp_X5_nextToken  σ (fun τ3 => (wp_X5_takes (nI 100) τ3 (fun r5 τ4 => ((r5 = (nI 0) → Q (nI 0) τ4) ∧ (¬ r5 = (nI 0) → wp_X5_takesNumber (nI 1) (nI 9) (nI 0) (nI 44) τ4 (fun r8 τ7 => ((r8 = (nI 0) → Q (nI 0) τ7) ∧ (¬ r8 = (nI 0) → wp_X5_takesNumber (nI 0) (nI 9) (nI 1) (nI 59) τ7 (fun r11 τ10 => ((¬ r11 = (nI 0) → w_X5_readTown_69   Q (nI 1) τ10) ∧ (r11 = (nI 0) → Q (nI 0) τ10)))))))))))) ∧ (¬ (nI 70) ≤ l1 → vp_in l1 70 ∧ (∀ τ14 : PI, τ14 = up σ 283 (l1 : Int32).toNatClampNeg (nI 0) → (K7 ((l1 + (nI 1)), τ14))))
def w_X5_readTown_7 (Q : Int32 → PI → Prop) (l1 : Int32) (σ : PI) : Prop := ∃ n, Lp (fun K a => B_X5_readTown_7   K Q a.1 a.2) n (l1, σ)
set_option maxRecDepth 100000 in
set_option maxHeartbeats 4000000 in
theorem j_X5_readTown_7 {M : MC} {X : XP} {Q : Int32 → PI → Prop} (cx : Cx M X RX5 cX5_readTown 3 (some .boolean) 5) (l1 : Int32) (σ : PI) (h : w_X5_readTown_7   Q l1 σ) : J M X (QF M X (qI Q)) σ 7 [some (.ref (X.1 276)), some (.int l1), none] [] := by
  refine Lp_J (P := fun (a : Int32 × PI) => J M X (QF M X (qI Q)) (a.2) 7 [some (.ref (X.1 276)), some (.int a.1), none] []) (fun K7 hK a h => ?_) h
  obtain ⟨l1, σ⟩ := a
  have hK7 : ∀ (l1 : Int32) (σ : PI), K7 (l1, σ) → J M X (QF M X (qI Q)) σ 7 [some (.ref (X.1 276)), some (.int l1), none] [] := fun l1 σ q => hK _ q
  replace h : B_X5_readTown_7   K7 Q l1 σ := h
  show J M X (QF M X (qI Q)) σ 7 [some (.ref (X.1 276)), some (.int l1), none] []
  unfold B_X5_readTown_7 at h
  refine J_iload_n cx 1 dX5_readTown_7 rfl rfl ?_
  refine J_bipush cx dX5_readTown_8 (by decide : _ = ((nI 70) : Int32)) ?_
  refine J_icmp_ge cx (tgt := 26) dX5_readTown_10 (by decide) (fun q2 => ?_) (fun q2 => ?_)
  · replace h := h.1 q2
    refine J_aload_n cx 0 dX5_readTown_26 rfl rfl ?_
    refine J_cV cx dX5_readTown_27 V_X5_111 (by decide) (by decide) rfl (ct_X5_nextToken    _ _ h) rfl rfl (Nat.le_of_ble_eq_true rfl) (k_v (fun τ3 h => ?_))
    refine J_aload_n cx 0 dX5_readTown_30 rfl rfl ?_
    refine J_bipush cx dX5_readTown_31 (by decide : _ = ((nI 100) : Int32)) ?_
    refine J_cV cx dX5_readTown_33 V_X5_114 (by decide) (by decide) rfl (ct_X5_takes   _ _ _ h) rfl rfl (Nat.le_of_ble_eq_true rfl) (k_i (fun r5 τ4 h => ?_))
    refine J_if_eq cx (tgt := 65) dX5_readTown_36 (by decide) (fun q6 => ?_) (fun q6 => ?_)
    · replace h := h.1 q6
      refine J_iconst cx dX5_readTown_65 (by decide : _ = ((nI 0) : Int32)) ?_
      exact J_zret cx dX5_readTown_66 (Or.inl rfl) h
    · replace h := h.2 q6
      refine J_aload_n cx 0 dX5_readTown_39 rfl rfl ?_
      refine J_iconst cx dX5_readTown_40 (by decide : _ = ((nI 1) : Int32)) ?_
      refine J_bipush cx dX5_readTown_41 (by decide : _ = ((nI 9) : Int32)) ?_
      refine J_iconst cx dX5_readTown_43 (by decide : _ = ((nI 0) : Int32)) ?_
      refine J_bipush cx dX5_readTown_44 (by decide : _ = ((nI 44) : Int32)) ?_
      refine J_cV cx dX5_readTown_46 V_X5_117 (by decide) (by decide) rfl (ct_X5_takesNumber   _ _ _ _ _ _ h) rfl rfl (Nat.le_of_ble_eq_true rfl) (k_i (fun r8 τ7 h => ?_))
      refine J_if_eq cx (tgt := 65) dX5_readTown_49 (by decide) (fun q9 => ?_) (fun q9 => ?_)
      · replace h := h.1 q9
        refine J_iconst cx dX5_readTown_65 (by decide : _ = ((nI 0) : Int32)) ?_
        exact J_zret cx dX5_readTown_66 (Or.inl rfl) h
      · replace h := h.2 q9
        refine J_aload_n cx 0 dX5_readTown_52 rfl rfl ?_
        refine J_iconst cx dX5_readTown_53 (by decide : _ = ((nI 0) : Int32)) ?_
        refine J_bipush cx dX5_readTown_54 (by decide : _ = ((nI 9) : Int32)) ?_
        refine J_iconst cx dX5_readTown_56 (by decide : _ = ((nI 1) : Int32)) ?_
        refine J_bipush cx dX5_readTown_57 (by decide : _ = ((nI 59) : Int32)) ?_
        refine J_cV cx dX5_readTown_59 V_X5_117 (by decide) (by decide) rfl (ct_X5_takesNumber   _ _ _ _ _ _ h) rfl rfl (Nat.le_of_ble_eq_true rfl) (k_i (fun r11 τ10 h => ?_))
        refine J_if_ne cx (tgt := 67) dX5_readTown_62 (by decide) (fun q12 => ?_) (fun q12 => ?_)
        · replace h := h.1 q12
          refine J_iconst cx dX5_readTown_67 (by decide : _ = ((nI 1) : Int32)) ?_
          refine J_istore_n cx 1 dX5_readTown_68 rfl (by decide) rfl rfl ?_
          exact j_X5_readTown_69     cx   _ _ h
        · replace h := h.2 q12
          refine J_iconst cx dX5_readTown_65 (by decide : _ = ((nI 0) : Int32)) ?_
          exact J_zret cx dX5_readTown_66 (Or.inl rfl) h
  · replace h := h.2 q2
    refine J_aload_n cx 0 dX5_readTown_13 rfl rfl ?_
    refine J_getR cx (j := 283) dX5_readTown_14 F_X5_28 (by decide) rfl rfl rfl ?_
    refine J_iload_n cx 1 dX5_readTown_17 rfl rfl ?_
    refine J_iconst cx dX5_readTown_18 (by decide : _ = ((nI 0) : Int32)) ?_
    obtain ⟨s13, h⟩ := h
    refine J_iast cx dX5_readTown_19 (by decide) rfl s13 ?_
    refine J_nm (fun τ14 e_τ14 => ?_)
    replace h := h τ14 e_τ14
    refine J_iinc cx dX5_readTown_20 rfl (by decide : _ = ((nI 1) : Int32)) (by decide) rfl rfl ?_
    refine J_goto cx (tgt := 7) dX5_readTown_23 (by decide) ?_
    exact hK7   _ _ h
def wp_X5_readTown (σ : PI) (Q : Int32 → PI → Prop) : Prop := ∀ τ1 : PI, τ1 = up σ 276 11 (nI 0) → (w_X5_readTown_7   Q (nI 0) τ1)
set_option maxRecDepth 100000 in
set_option maxHeartbeats 4000000 in
theorem ct_X5_readTown {l : Launch} {X : XP} (σ : PI) (Q : Int32 → PI → Prop) (h : wp_X5_readTown   σ Q) : Ct l yX5_readTown cX5_readTown 3 (some .boolean) 5 X [.ref (X.1 276)] σ (qI Q) := by
  refine Ct_of (L := [some (.ref (X.1 276)), none, none]) (by decide) (Nat.le_of_ble_eq_true rfl) rfl (fun M hl cx => ?_)
  subst hl
  unfold wp_X5_readTown at h
  refine J_aload_n cx 0 dX5_readTown_0 rfl rfl ?_
  refine J_iconst cx dX5_readTown_1 (by decide : _ = ((nI 0) : Int32)) ?_
  refine J_putI cx dX5_readTown_2 (P_X5_82 _) (by decide) rfl rfl ?_
  refine J_nm (fun τ1 e_τ1 => ?_)
  replace h := h τ1 e_τ1
  refine J_iconst cx dX5_readTown_5 (by decide : _ = ((nI 0) : Int32)) ?_
  refine J_istore_n cx 1 dX5_readTown_6 rfl (by decide) rfl rfl ?_
  exact j_X5_readTown_7     cx   _ _ h
def B_X5_town_32 (K32 : (Int32 × PI → Prop)) (Q : Int32 → PI → Prop) (l2 : Int32) (σ : PI) : Prop := ((nI 70) ≤ l2 → ∀ τ7 : PI, τ7 = up σ 276 4 (nI 1) → (∀ τ8 : PI, τ8 = up τ7 276 19 (nI 0) → (Q (τ8 280 3) τ8))) ∧ (¬ (nI 70) ≤ l2 → vp_in l2 70 ∧ (vp_in l2 70 ∧ (∀ τ11 : PI, τ11 = up σ 280 (l2 : Int32).toNatClampNeg (σ 283 (l2 : Int32).toNatClampNeg) → (K32 ((l2 + (nI 1)), τ11)))))
def w_X5_town_32 (Q : Int32 → PI → Prop) (l2 : Int32) (σ : PI) : Prop := ∃ n, Lp (fun K a => B_X5_town_32   K Q a.1 a.2) n (l2, σ)
set_option maxRecDepth 100000 in
set_option maxHeartbeats 4000000 in
theorem j_X5_town_32 {M : MC} {X : XP} {Q : Int32 → PI → Prop} (cx : Cx M X RX5 cX5_town 3 (some .int) 6) (l2 : Int32) (σ : PI) (h : w_X5_town_32   Q l2 σ) : J M X (QF M X (qI Q)) σ 32 [some (.ref (X.1 276)), none, some (.int l2)] [] := by
  refine Lp_J (P := fun (a : Int32 × PI) => J M X (QF M X (qI Q)) (a.2) 32 [some (.ref (X.1 276)), none, some (.int a.1)] []) (fun K32 hK a h => ?_) h
  obtain ⟨l2, σ⟩ := a
  have hK32 : ∀ (l2 : Int32) (σ : PI), K32 (l2, σ) → J M X (QF M X (qI Q)) σ 32 [some (.ref (X.1 276)), none, some (.int l2)] [] := fun l2 σ q => hK _ q
  replace h : B_X5_town_32   K32 Q l2 σ := h
  show J M X (QF M X (qI Q)) σ 32 [some (.ref (X.1 276)), none, some (.int l2)] []
  unfold B_X5_town_32 at h
  refine J_iload_n cx 2 dX5_town_32 rfl rfl ?_
  refine J_bipush cx dX5_town_33 (by decide : _ = ((nI 70) : Int32)) ?_
  refine J_icmp_ge cx (tgt := 56) dX5_town_35 (by decide) (fun q6 => ?_) (fun q6 => ?_)
  · replace h := h.1 q6
    refine J_aload_n cx 0 dX5_town_56 rfl rfl ?_
    refine J_iconst cx dX5_town_57 (by decide : _ = ((nI 1) : Int32)) ?_
    refine J_putI cx dX5_town_58 P_X5_135_1 (by decide) rfl rfl ?_
    refine J_nm (fun τ7 e_τ7 => ?_)
    replace h := h τ7 e_τ7
    refine J_aload_n cx 0 dX5_town_61 rfl rfl ?_
    refine J_iconst cx dX5_town_62 (by decide : _ = ((nI 0) : Int32)) ?_
    refine J_putI cx dX5_town_63 (P_X5_139 _) (by decide) rfl rfl ?_
    refine J_nm (fun τ8 e_τ8 => ?_)
    replace h := h τ8 e_τ8
    refine J_aload_n cx 0 dX5_town_66 rfl rfl ?_
    refine J_getR cx (j := 280) dX5_town_67 F_X5_19 (by decide) rfl rfl rfl ?_
    refine J_iconst cx dX5_town_70 (by decide : _ = ((nI 3) : Int32)) ?_
    refine J_iald cx dX5_town_71 (by decide) rfl (vpl (by decide)) ?_
    exact J_iret cx dX5_town_72 h
  · replace h := h.2 q6
    refine J_aload_n cx 0 dX5_town_38 rfl rfl ?_
    refine J_getR cx (j := 280) dX5_town_39 F_X5_19 (by decide) rfl rfl rfl ?_
    refine J_iload_n cx 2 dX5_town_42 rfl rfl ?_
    refine J_aload_n cx 0 dX5_town_43 rfl rfl ?_
    refine J_getR cx (j := 283) dX5_town_44 F_X5_28 (by decide) rfl rfl rfl ?_
    refine J_iload_n cx 2 dX5_town_47 rfl rfl ?_
    obtain ⟨s9, h⟩ := h
    refine J_iald cx dX5_town_48 (by decide) rfl s9 ?_
    obtain ⟨s10, h⟩ := h
    refine J_iast cx dX5_town_49 (by decide) rfl s10 ?_
    refine J_nm (fun τ11 e_τ11 => ?_)
    replace h := h τ11 e_τ11
    refine J_iinc cx dX5_town_50 rfl (by decide : _ = ((nI 1) : Int32)) (by decide) rfl rfl ?_
    refine J_goto cx (tgt := 32) dX5_town_53 (by decide) ?_
    exact hK32   _ _ h
def wp_X5_town (σ : PI) (Q : Int32 → PI → Prop) : Prop := wp_X5_readTown  σ (fun r2 τ1 => (∀ τ3 : PI, τ3 = up τ1 276 9 (nI 0) → ((¬ r2 = (nI 0) → w_X5_town_32   Q (nI 0) τ3) ∧ (r2 = (nI 0) → ∀ τ5 : PI, τ5 = up τ3 276 10 (τ3 276 15) → (Q ((-1000100) - (τ5 276 14)) τ5)))))
set_option maxRecDepth 100000 in
set_option maxHeartbeats 4000000 in
theorem ct_X5_town {l : Launch} {X : XP} (σ : PI) (Q : Int32 → PI → Prop) (h : wp_X5_town   σ Q) : Ct l yX5_town cX5_town 3 (some .int) 6 X [.ref (X.1 276)] σ (qI Q) := by
  refine Ct_of (L := [some (.ref (X.1 276)), none, none]) (by decide) (Nat.le_of_ble_eq_true rfl) rfl (fun M hl cx => ?_)
  subst hl
  unfold wp_X5_town at h
  refine J_aload_n cx 0 dX5_town_0 rfl rfl ?_
  refine J_cV cx dX5_town_1 V_X5_128 (by decide) (by decide) rfl (ct_X5_readTown    _ _ h) rfl rfl (Nat.le_of_ble_eq_true rfl) (k_i (fun r2 τ1 h => ?_))
  refine J_istore_n cx 1 dX5_town_4 rfl (by decide) rfl rfl ?_
  refine J_aload_n cx 0 dX5_town_5 rfl rfl ?_
  refine J_iconst cx dX5_town_6 (by decide : _ = ((nI 0) : Int32)) ?_
  refine J_putI cx dX5_town_7 (P_X5_78 _) (by decide) rfl rfl ?_
  refine J_nm (fun τ3 e_τ3 => ?_)
  replace h := h τ3 e_τ3
  refine J_iload_n cx 1 dX5_town_10 rfl rfl ?_
  refine J_if_ne cx (tgt := 30) dX5_town_11 (by decide) (fun q4 => ?_) (fun q4 => ?_)
  · replace h := h.1 q4
    refine J_iconst cx dX5_town_30 (by decide : _ = ((nI 0) : Int32)) ?_
    refine J_istore_n cx 2 dX5_town_31 rfl (by decide) rfl rfl ?_
    refine J_fg 1 rfl ?_
    exact j_X5_town_32     cx   _ _ h
  · replace h := h.2 q4
    refine J_aload_n cx 0 dX5_town_14 rfl rfl ?_
    refine J_aload_n cx 0 dX5_town_15 rfl rfl ?_
    refine J_getI cx dX5_town_16 F_X5_102 (by decide) rfl rfl ?_
    refine J_putI cx dX5_town_19 (P_X5_131 _) (by decide) rfl rfl ?_
    refine J_nm (fun τ5 e_τ5 => ?_)
    replace h := h τ5 e_τ5
    refine J_ldc cx (v := (-1000100)) dX5_town_22 gw_813 ?_
    refine J_aload_n cx 0 dX5_town_24 rfl rfl ?_
    refine J_getI cx dX5_town_25 F_X5_85 (by decide) rfl rfl ?_
    refine J_isub cx dX5_town_28 ?_
    exact J_iret cx dX5_town_29 h
def wp_X5_fault (σ : PI) (Q : Int32 → PI → Prop) : Prop := Q (σ 276 10) σ
set_option maxRecDepth 100000 in
set_option maxHeartbeats 4000000 in
theorem ct_X5_fault {l : Launch} {X : XP} (σ : PI) (Q : Int32 → PI → Prop) (h : wp_X5_fault   σ Q) : Ct l yX5_fault cX5_fault 1 (some .int) 0 X [.ref (X.1 276)] σ (qI Q) := by
  refine Ct_of (L := [some (.ref (X.1 276))]) (by decide) (Nat.le_of_ble_eq_true rfl) rfl (fun M hl cx => ?_)
  subst hl
  unfold wp_X5_fault at h
  refine J_aload_n cx 0 dX5_fault_0 rfl rfl ?_
  refine J_getI cx dX5_fault_1 F_X5_131 (by decide) rfl rfl ?_
  exact J_iret cx dX5_fault_4 h
def wp_X5_isMan (a0 : Int32) (σ : PI) (Q : Int32 → PI → Prop) : Prop := wp_X5_in (a0 : Int32).toInt64 (lN 0) (((σ 280 2) - (nI 1)) : Int32).toInt64 σ (fun r2 τ1 => (bz r2 ∧ Q r2 τ1))
set_option maxRecDepth 100000 in
set_option maxHeartbeats 4000000 in
theorem ct_X5_isMan {l : Launch} {X : XP} (a0 : Int32) (σ : PI) (Q : Int32 → PI → Prop) (h : wp_X5_isMan  a0 σ Q) : Ct l yX5_isMan cX5_isMan 2 (some .boolean) 1 X [.ref (X.1 276), .int a0] σ (qI Q) := by
  refine Ct_of (L := [some (.ref (X.1 276)), some (.int a0)]) (by decide) (Nat.le_of_ble_eq_true rfl) rfl (fun M hl cx => ?_)
  subst hl
  unfold wp_X5_isMan at h
  refine J_iload_n cx 1 dX5_isMan_0 rfl rfl ?_
  refine J_i2l cx dX5_isMan_1 ?_
  refine J_lconst cx dX5_isMan_2 (by decide : _ = ((lN 0) : Int64)) ?_
  refine J_aload_n cx 0 dX5_isMan_3 rfl rfl ?_
  refine J_getR cx (j := 280) dX5_isMan_4 F_X5_19 (by decide) rfl rfl rfl ?_
  refine J_iconst cx dX5_isMan_7 (by decide : _ = ((nI 2) : Int32)) ?_
  refine J_iald cx dX5_isMan_8 (by decide) rfl (vpl (by decide)) ?_
  refine J_iconst cx dX5_isMan_9 (by decide : _ = ((nI 1) : Int32)) ?_
  refine J_isub cx dX5_isMan_10 ?_
  refine J_i2l cx dX5_isMan_11 ?_
  refine J_cS cx dX5_isMan_12 S_X5_54 (by decide) (ct_X5_in   _ _ _ _ _ h) rfl rfl (Nat.le_of_ble_eq_true rfl) (k_i (fun r2 τ1 h => ?_))
  exact J_zret cx dX5_isMan_15 h.1 h.2
def wp_X5_isLeaver (a0 : Int32) (σ : PI) (Q : Int32 → PI → Prop) : Prop := wp_X5_in (a0 : Int32).toInt64 (lN 0) (((σ 280 3) - (nI 1)) : Int32).toInt64 σ (fun r2 τ1 => (bz r2 ∧ Q r2 τ1))
set_option maxRecDepth 100000 in
set_option maxHeartbeats 4000000 in
theorem ct_X5_isLeaver {l : Launch} {X : XP} (a0 : Int32) (σ : PI) (Q : Int32 → PI → Prop) (h : wp_X5_isLeaver  a0 σ Q) : Ct l yX5_isLeaver cX5_isLeaver 2 (some .boolean) 1 X [.ref (X.1 276), .int a0] σ (qI Q) := by
  refine Ct_of (L := [some (.ref (X.1 276)), some (.int a0)]) (by decide) (Nat.le_of_ble_eq_true rfl) rfl (fun M hl cx => ?_)
  subst hl
  unfold wp_X5_isLeaver at h
  refine J_iload_n cx 1 dX5_isLeaver_0 rfl rfl ?_
  refine J_i2l cx dX5_isLeaver_1 ?_
  refine J_lconst cx dX5_isLeaver_2 (by decide : _ = ((lN 0) : Int64)) ?_
  refine J_aload_n cx 0 dX5_isLeaver_3 rfl rfl ?_
  refine J_getR cx (j := 280) dX5_isLeaver_4 F_X5_19 (by decide) rfl rfl rfl ?_
  refine J_iconst cx dX5_isLeaver_7 (by decide : _ = ((nI 3) : Int32)) ?_
  refine J_iald cx dX5_isLeaver_8 (by decide) rfl (vpl (by decide)) ?_
  refine J_iconst cx dX5_isLeaver_9 (by decide : _ = ((nI 1) : Int32)) ?_
  refine J_isub cx dX5_isLeaver_10 ?_
  refine J_i2l cx dX5_isLeaver_11 ?_
  refine J_cS cx dX5_isLeaver_12 S_X5_54 (by decide) (ct_X5_in   _ _ _ _ _ h) rfl rfl (Nat.le_of_ble_eq_true rfl) (k_i (fun r2 τ1 h => ?_))
  exact J_zret cx dX5_isLeaver_15 h.1 h.2
def wp_X5_houseOf (a0 : Int32) (σ : PI) (Q : Int32 → PI → Prop) : Prop := vp_in ((nI 22) + a0) 70 ∧ (vp_in ((nI 34) + a0) 70 ∧ (¬ (σ 280 2) = (nI 0) ∧ (Q (((σ 280 (((nI 22) + a0) : Int32).toNatClampNeg) + ((σ 280 (((nI 34) + a0) : Int32).toNatClampNeg) * (σ 280 4))) - ((σ 280 (((nI 22) + a0) : Int32).toNatClampNeg) + ((σ 280 (((nI 34) + a0) : Int32).toNatClampNeg) * (σ 280 4))) / (σ 280 2) * (σ 280 2)) σ)))
set_option maxRecDepth 100000 in
set_option maxHeartbeats 4000000 in
theorem ct_X5_houseOf {l : Launch} {X : XP} (a0 : Int32) (σ : PI) (Q : Int32 → PI → Prop) (h : wp_X5_houseOf  a0 σ Q) : Ct l yX5_houseOf cX5_houseOf 2 (some .int) 0 X [.ref (X.1 276), .int a0] σ (qI Q) := by
  refine Ct_of (L := [some (.ref (X.1 276)), some (.int a0)]) (by decide) (Nat.le_of_ble_eq_true rfl) rfl (fun M hl cx => ?_)
  subst hl
  unfold wp_X5_houseOf at h
  refine J_aload_n cx 0 dX5_houseOf_0 rfl rfl ?_
  refine J_getR cx (j := 280) dX5_houseOf_1 F_X5_19 (by decide) rfl rfl rfl ?_
  refine J_bipush cx dX5_houseOf_4 (by decide : _ = ((nI 22) : Int32)) ?_
  refine J_iload_n cx 1 dX5_houseOf_6 rfl rfl ?_
  refine J_iadd cx dX5_houseOf_7 ?_
  obtain ⟨s1, h⟩ := h
  refine J_iald cx dX5_houseOf_8 (by decide) rfl s1 ?_
  refine J_aload_n cx 0 dX5_houseOf_9 rfl rfl ?_
  refine J_getR cx (j := 280) dX5_houseOf_10 F_X5_19 (by decide) rfl rfl rfl ?_
  refine J_bipush cx dX5_houseOf_13 (by decide : _ = ((nI 34) : Int32)) ?_
  refine J_iload_n cx 1 dX5_houseOf_15 rfl rfl ?_
  refine J_iadd cx dX5_houseOf_16 ?_
  obtain ⟨s2, h⟩ := h
  refine J_iald cx dX5_houseOf_17 (by decide) rfl s2 ?_
  refine J_aload_n cx 0 dX5_houseOf_18 rfl rfl ?_
  refine J_getR cx (j := 280) dX5_houseOf_19 F_X5_19 (by decide) rfl rfl rfl ?_
  refine J_iconst cx dX5_houseOf_22 (by decide : _ = ((nI 4) : Int32)) ?_
  refine J_iald cx dX5_houseOf_23 (by decide) rfl (vpl (by decide)) ?_
  refine J_imul cx dX5_houseOf_24 ?_
  refine J_iadd cx dX5_houseOf_25 ?_
  refine J_aload_n cx 0 dX5_houseOf_26 rfl rfl ?_
  refine J_getR cx (j := 280) dX5_houseOf_27 F_X5_19 (by decide) rfl rfl rfl ?_
  refine J_iconst cx dX5_houseOf_30 (by decide : _ = ((nI 2) : Int32)) ?_
  refine J_iald cx dX5_houseOf_31 (by decide) rfl (vpl (by decide)) ?_
  obtain ⟨s3, h⟩ := h
  refine J_irem cx dX5_houseOf_32 s3 ?_
  exact J_iret cx dX5_houseOf_33 h
def wp_X5_timesOf (a0 : Int32) (σ : PI) (Q : Int32 → PI → Prop) : Prop := wp_X5_houseOf a0 σ (fun r2 τ1 => (vp_in (((nI 40) + ((nI 5) * a0)) + r2) 70 ∧ (Q (τ1 280 ((((nI 40) + ((nI 5) * a0)) + r2) : Int32).toNatClampNeg) τ1)))
set_option maxRecDepth 100000 in
set_option maxHeartbeats 4000000 in
theorem ct_X5_timesOf {l : Launch} {X : XP} (a0 : Int32) (σ : PI) (Q : Int32 → PI → Prop) (h : wp_X5_timesOf  a0 σ Q) : Ct l yX5_timesOf cX5_timesOf 2 (some .int) 1 X [.ref (X.1 276), .int a0] σ (qI Q) := by
  refine Ct_of (L := [some (.ref (X.1 276)), some (.int a0)]) (by decide) (Nat.le_of_ble_eq_true rfl) rfl (fun M hl cx => ?_)
  subst hl
  unfold wp_X5_timesOf at h
  refine J_aload_n cx 0 dX5_timesOf_0 rfl rfl ?_
  refine J_getR cx (j := 280) dX5_timesOf_1 F_X5_19 (by decide) rfl rfl rfl ?_
  refine J_bipush cx dX5_timesOf_4 (by decide : _ = ((nI 40) : Int32)) ?_
  refine J_iconst cx dX5_timesOf_6 (by decide : _ = ((nI 5) : Int32)) ?_
  refine J_iload_n cx 1 dX5_timesOf_7 rfl rfl ?_
  refine J_imul cx dX5_timesOf_8 ?_
  refine J_iadd cx dX5_timesOf_9 ?_
  refine J_aload_n cx 0 dX5_timesOf_10 rfl rfl ?_
  refine J_iload_n cx 1 dX5_timesOf_11 rfl rfl ?_
  refine J_cV cx dX5_timesOf_12 V_X5_142 (by decide) (by decide) rfl (ct_X5_houseOf   _ _ _ h) rfl rfl (Nat.le_of_ble_eq_true rfl) (k_i (fun r2 τ1 h => ?_))
  refine J_iadd cx dX5_timesOf_15 ?_
  obtain ⟨s3, h⟩ := h
  refine J_iald cx dX5_timesOf_16 (by decide) rfl s3 ?_
  exact J_iret cx dX5_timesOf_17 h
def w_X5_makes_26 (Q : Int32 → PI → Prop) (l1 : Int32) (l2 : Int32) (s0 : Int32) (σ : PI) : Prop := vp_in ((nI 16) + l1) 70 ∧ (((σ 280 (((nI 16) + l1) : Int32).toNatClampNeg) = (nI 2) → wp_X5_timesOf l1 σ (fun r7 τ6 => (((nI 9) ≤ r7 → Q (l2 + (nI 9)) τ6) ∧ (¬ (nI 9) ≤ r7 → wp_X5_timesOf l1 τ6 (fun r10 τ9 => (Q (l2 + r10) τ9)))))) ∧ ((σ 280 (((nI 16) + l1) : Int32).toNatClampNeg) = (nI 3) → Q (l2 / (nI 2)) σ) ∧ ((σ 280 (((nI 16) + l1) : Int32).toNatClampNeg) = (nI 4) → Q s0 σ) ∧ ((σ 280 (((nI 16) + l1) : Int32).toNatClampNeg) = (nI 5) → ((σ 280 1) ≤ (((nI 7) * (σ 280 4)) - ((nI 7) * (σ 280 4)) / (nI 10) * (nI 10)) → Q s0 σ) ∧ (¬ (σ 280 1) ≤ (((nI 7) * (σ 280 4)) - ((nI 7) * (σ 280 4)) / (nI 10) * (nI 10)) → Q ((nI 2) * l2) σ)) ∧ (((σ 280 (((nI 16) + l1) : Int32).toNatClampNeg) : Int32).toInt < 2 ∨ 5 < ((σ 280 (((nI 16) + l1) : Int32).toNatClampNeg) : Int32).toInt → Q l2 σ))
set_option maxRecDepth 100000 in
set_option maxHeartbeats 4000000 in
theorem j_X5_makes_26 {M : MC} {X : XP} {Q : Int32 → PI → Prop} (cx : Cx M X RX5 cX5_makes 4 (some .int) 2) (l1 : Int32) (l2 : Int32) (s0 : Int32) (σ : PI) (h : w_X5_makes_26   Q l1 l2 s0 σ) : J M X (QF M X (qI Q)) σ 26 [some (.ref (X.1 276)), some (.int l1), some (.int l2), none] [.int s0] := by
  unfold w_X5_makes_26 at h
  refine J_istore_n cx 3 dX5_makes_26 rfl (by decide) rfl rfl ?_
  refine J_aload_n cx 0 dX5_makes_27 rfl rfl ?_
  refine J_getR cx (j := 280) dX5_makes_28 F_X5_19 (by decide) rfl rfl rfl ?_
  refine J_bipush cx dX5_makes_31 (by decide : _ = ((nI 16) : Int32)) ?_
  refine J_iload_n cx 1 dX5_makes_33 rfl rfl ?_
  refine J_iadd cx dX5_makes_34 ?_
  obtain ⟨s4, h⟩ := h
  refine J_iald cx dX5_makes_35 (by decide) rfl s4 ?_
  by_cases q5 : (σ 280 (((nI 16) + l1) : Int32).toNatClampNeg) = (nI 2)
  · refine J_tsI cx (tgt := 68) (nI 2) q5 dX5_makes_36 (by decide) (by decide) rfl (by decide) ?_
    replace h := h.1 q5
    refine J_iload_n cx 2 dX5_makes_68 rfl rfl ?_
    refine J_aload_n cx 0 dX5_makes_69 rfl rfl ?_
    refine J_iload_n cx 1 dX5_makes_70 rfl rfl ?_
    refine J_cV cx dX5_makes_71 V_X5_145 (by decide) (by decide) rfl (ct_X5_timesOf   _ _ _ h) rfl rfl (Nat.le_of_ble_eq_true rfl) (k_i (fun r7 τ6 h => ?_))
    refine J_bipush cx dX5_makes_74 (by decide : _ = ((nI 9) : Int32)) ?_
    refine J_icmp_ge cx (tgt := 87) dX5_makes_76 (by decide) (fun q8 => ?_) (fun q8 => ?_)
    · replace h := h.1 q8
      refine J_bipush cx dX5_makes_87 (by decide : _ = ((nI 9) : Int32)) ?_
      refine J_iadd cx dX5_makes_89 ?_
      exact J_iret cx dX5_makes_90 h
    · replace h := h.2 q8
      refine J_aload_n cx 0 dX5_makes_79 rfl rfl ?_
      refine J_iload_n cx 1 dX5_makes_80 rfl rfl ?_
      refine J_cV cx dX5_makes_81 V_X5_145 (by decide) (by decide) rfl (ct_X5_timesOf   _ _ _ h) rfl rfl (Nat.le_of_ble_eq_true rfl) (k_i (fun r10 τ9 h => ?_))
      refine J_goto cx (tgt := 89) dX5_makes_84 (by decide) ?_
      refine J_iadd cx dX5_makes_89 ?_
      exact J_iret cx dX5_makes_90 h
  by_cases q11 : (σ 280 (((nI 16) + l1) : Int32).toNatClampNeg) = (nI 3)
  · refine J_tsI cx (tgt := 91) (nI 3) q11 dX5_makes_36 (by decide) (by decide) rfl (by decide) ?_
    replace h := h.2.1 q11
    refine J_iload_n cx 2 dX5_makes_91 rfl rfl ?_
    refine J_iconst cx dX5_makes_92 (by decide : _ = ((nI 2) : Int32)) ?_
    refine J_idiv cx dX5_makes_93 (by decide) ?_
    exact J_iret cx dX5_makes_94 h
  by_cases q12 : (σ 280 (((nI 16) + l1) : Int32).toNatClampNeg) = (nI 4)
  · refine J_tsI cx (tgt := 95) (nI 4) q12 dX5_makes_36 (by decide) (by decide) rfl (by decide) ?_
    replace h := h.2.2.1 q12
    refine J_iload_n cx 3 dX5_makes_95 rfl rfl ?_
    exact J_iret cx dX5_makes_96 h
  by_cases q13 : (σ 280 (((nI 16) + l1) : Int32).toNatClampNeg) = (nI 5)
  · refine J_tsI cx (tgt := 97) (nI 5) q13 dX5_makes_36 (by decide) (by decide) rfl (by decide) ?_
    replace h := h.2.2.2.1 q13
    refine J_bipush cx dX5_makes_97 (by decide : _ = ((nI 7) : Int32)) ?_
    refine J_aload_n cx 0 dX5_makes_99 rfl rfl ?_
    refine J_getR cx (j := 280) dX5_makes_100 F_X5_19 (by decide) rfl rfl rfl ?_
    refine J_iconst cx dX5_makes_103 (by decide : _ = ((nI 4) : Int32)) ?_
    refine J_iald cx dX5_makes_104 (by decide) rfl (vpl (by decide)) ?_
    refine J_imul cx dX5_makes_105 ?_
    refine J_bipush cx dX5_makes_106 (by decide : _ = ((nI 10) : Int32)) ?_
    refine J_irem cx dX5_makes_108 (by decide) ?_
    refine J_aload_n cx 0 dX5_makes_109 rfl rfl ?_
    refine J_getR cx (j := 280) dX5_makes_110 F_X5_19 (by decide) rfl rfl rfl ?_
    refine J_iconst cx dX5_makes_113 (by decide : _ = ((nI 1) : Int32)) ?_
    refine J_iald cx dX5_makes_114 (by decide) rfl (vpl (by decide)) ?_
    refine J_icmp_ge cx (tgt := 124) dX5_makes_115 (by decide) (fun q14 => ?_) (fun q14 => ?_)
    · replace h := h.1 q14
      refine J_iload_n cx 3 dX5_makes_124 rfl rfl ?_
      exact J_iret cx dX5_makes_125 h
    · replace h := h.2 q14
      refine J_iconst cx dX5_makes_118 (by decide : _ = ((nI 2) : Int32)) ?_
      refine J_iload_n cx 2 dX5_makes_119 rfl rfl ?_
      refine J_imul cx dX5_makes_120 ?_
      refine J_goto cx (tgt := 125) dX5_makes_121 (by decide) ?_
      exact J_iret cx dX5_makes_125 h
  have n_q5 := lv_neT (a := 2) q5 rfl
  have n_q11 := lv_neT (a := 3) q11 rfl
  have n_q12 := lv_neT (a := 4) q12 rfl
  have n_q13 := lv_neT (a := 5) q13 rfl
  have q15 : ((σ 280 (((nI 16) + l1) : Int32).toNatClampNeg) : Int32).toInt < 2 ∨ 5 < ((σ 280 (((nI 16) + l1) : Int32).toNatClampNeg) : Int32).toInt := by omega
  refine J_tsO cx (tgt := 126) dX5_makes_36 q15 (by decide) ?_
  replace h := h.2.2.2.2 q15
  refine J_iload_n cx 2 dX5_makes_126 rfl rfl ?_
  exact J_iret cx dX5_makes_127 h
def wp_X5_makes (a0 : Int32) (σ : PI) (Q : Int32 → PI → Prop) : Prop := vp_in ((nI 28) + a0) 70 ∧ (∀ x2 : Int32, x2 = (σ 280 (((nI 28) + a0) : Int32).toNatClampNeg) → ((¬ ((σ 280 4) - (σ 280 4) / (nI 3) * (nI 3)) = (nI 0) → w_X5_makes_26   Q a0 x2 (nI 0) σ) ∧ (((σ 280 4) - (σ 280 4) / (nI 3) * (nI 3)) = (nI 0) → w_X5_makes_26   Q a0 x2 x2 σ)))
set_option maxRecDepth 100000 in
set_option maxHeartbeats 4000000 in
theorem ct_X5_makes {l : Launch} {X : XP} (a0 : Int32) (σ : PI) (Q : Int32 → PI → Prop) (h : wp_X5_makes  a0 σ Q) : Ct l yX5_makes cX5_makes 4 (some .int) 2 X [.ref (X.1 276), .int a0] σ (qI Q) := by
  refine Ct_of (L := [some (.ref (X.1 276)), some (.int a0), none, none]) (by decide) (Nat.le_of_ble_eq_true rfl) rfl (fun M hl cx => ?_)
  subst hl
  unfold wp_X5_makes at h
  refine J_aload_n cx 0 dX5_makes_0 rfl rfl ?_
  refine J_getR cx (j := 280) dX5_makes_1 F_X5_19 (by decide) rfl rfl rfl ?_
  refine J_bipush cx dX5_makes_4 (by decide : _ = ((nI 28) : Int32)) ?_
  refine J_iload_n cx 1 dX5_makes_6 rfl rfl ?_
  refine J_iadd cx dX5_makes_7 ?_
  obtain ⟨s1, h⟩ := h
  refine J_iald cx dX5_makes_8 (by decide) rfl s1 ?_
  refine J_topi (fun x2 e_x2 => ?_)
  replace h := h x2 e_x2
  refine J_istore_n cx 2 dX5_makes_9 rfl (by decide) rfl rfl ?_
  refine J_aload_n cx 0 dX5_makes_10 rfl rfl ?_
  refine J_getR cx (j := 280) dX5_makes_11 F_X5_19 (by decide) rfl rfl rfl ?_
  refine J_iconst cx dX5_makes_14 (by decide : _ = ((nI 4) : Int32)) ?_
  refine J_iald cx dX5_makes_15 (by decide) rfl (vpl (by decide)) ?_
  refine J_iconst cx dX5_makes_16 (by decide : _ = ((nI 3) : Int32)) ?_
  refine J_irem cx dX5_makes_17 (by decide) ?_
  refine J_if_ne cx (tgt := 25) dX5_makes_18 (by decide) (fun q3 => ?_) (fun q3 => ?_)
  · replace h := h.1 q3
    refine J_iconst cx dX5_makes_25 (by decide : _ = ((nI 0) : Int32)) ?_
    exact j_X5_makes_26     cx   _ _ _ _ h
  · replace h := h.2 q3
    refine J_iload_n cx 2 dX5_makes_21 rfl rfl ?_
    refine J_goto cx (tgt := 26) dX5_makes_22 (by decide) ?_
    exact j_X5_makes_26     cx   _ _ _ _ h
def w_X5_awayFrom_42 (K4 : (Int32 × Int32 × Int32 × PI → Prop)) (Q : Int32 → PI → Prop) (l1 : Int32) (l3 : Int32) (s0 : Int32) (s1 : Int32) (σ : PI) : Prop := ∀ x8 : Int32, x8 = (s1 ||| s0) → (K4 (l1, x8, (l3 + (nI 1)), σ))
set_option maxRecDepth 100000 in
set_option maxHeartbeats 4000000 in
theorem j_X5_awayFrom_42 {M : MC} {X : XP} {Q : Int32 → PI → Prop} (K4 : (Int32 × Int32 × Int32 × PI → Prop)) (hK4 : ∀ (l1 : Int32) (l2 : Int32) (l3 : Int32) (σ : PI), K4 (l1, l2, l3, σ) → J M X (QF M X (qI Q)) σ 4 [some (.ref (X.1 276)), some (.int l1), some (.int l2), some (.int l3)] []) (cx : Cx M X RX5 cX5_awayFrom 4 (some .int) 1) (l1 : Int32) (l3 : Int32) (s0 : Int32) (s1 : Int32) (σ : PI) (h : w_X5_awayFrom_42  K4 Q l1 l3 s0 s1 σ) : J M X (QF M X (qI Q)) σ 42 [some (.ref (X.1 276)), some (.int l1), none, some (.int l3)] [.int s0, .int s1] := by
  unfold w_X5_awayFrom_42 at h
  refine J_ior cx dX5_awayFrom_42 ?_
  refine J_topi (fun x8 e_x8 => ?_)
  replace h := h x8 e_x8
  refine J_istore_n cx 2 dX5_awayFrom_43 rfl (by decide) rfl rfl ?_
  refine J_iinc cx dX5_awayFrom_44 rfl (by decide : _ = ((nI 1) : Int32)) (by decide) rfl rfl ?_
  refine J_goto cx (tgt := 4) dX5_awayFrom_47 (by decide) ?_
  exact hK4   _ _ _ _ h
def w_X5_awayFrom_41 (K4 : (Int32 × Int32 × Int32 × PI → Prop)) (Q : Int32 → PI → Prop) (l1 : Int32) (l3 : Int32) (s0 : Int32) (σ : PI) : Prop := w_X5_awayFrom_42  K4 Q l1 l3 (nI 0) s0 σ
set_option maxRecDepth 100000 in
set_option maxHeartbeats 4000000 in
theorem j_X5_awayFrom_41 {M : MC} {X : XP} {Q : Int32 → PI → Prop} (K4 : (Int32 × Int32 × Int32 × PI → Prop)) (hK4 : ∀ (l1 : Int32) (l2 : Int32) (l3 : Int32) (σ : PI), K4 (l1, l2, l3, σ) → J M X (QF M X (qI Q)) σ 4 [some (.ref (X.1 276)), some (.int l1), some (.int l2), some (.int l3)] []) (cx : Cx M X RX5 cX5_awayFrom 4 (some .int) 1) (l1 : Int32) (l3 : Int32) (s0 : Int32) (σ : PI) (h : w_X5_awayFrom_41  K4 Q l1 l3 s0 σ) : J M X (QF M X (qI Q)) σ 41 [some (.ref (X.1 276)), some (.int l1), none, some (.int l3)] [.int s0] := by
  unfold w_X5_awayFrom_41 at h
  refine J_iconst cx dX5_awayFrom_41 (by decide : _ = ((nI 0) : Int32)) ?_
  exact j_X5_awayFrom_42   K4 hK4 cx   _ _ _ _ _ h
def B_X5_awayFrom_4 (K4 : (Int32 × Int32 × Int32 × PI → Prop)) (Q : Int32 → PI → Prop) (l1 : Int32) (l2 : Int32) (l3 : Int32) (σ : PI) : Prop := ((σ 280 3) ≤ l3 → Q l2 σ) ∧ (¬ (σ 280 3) ≤ l3 → wp_X5_has (σ 276 6) l3 σ (fun r3 τ2 => ((¬ r3 = (nI 0) → w_X5_awayFrom_41  K4 Q l1 l3 l2 τ2) ∧ (r3 = (nI 0) → wp_X5_houseOf l3 τ2 (fun r6 τ5 => ((¬ r6 = l1 → w_X5_awayFrom_41  K4 Q l1 l3 l2 τ5) ∧ (r6 = l1 → w_X5_awayFrom_42  K4 Q l1 l3 ((nI 1) <<< (l3 &&& 31)) l2 τ5)))))))
def w_X5_awayFrom_4 (Q : Int32 → PI → Prop) (l1 : Int32) (l2 : Int32) (l3 : Int32) (σ : PI) : Prop := ∃ n, Lp (fun K a => B_X5_awayFrom_4   K Q a.1 a.2.1 a.2.2.1 a.2.2.2) n (l1, l2, l3, σ)
set_option maxRecDepth 100000 in
set_option maxHeartbeats 4000000 in
theorem j_X5_awayFrom_4 {M : MC} {X : XP} {Q : Int32 → PI → Prop} (cx : Cx M X RX5 cX5_awayFrom 4 (some .int) 1) (l1 : Int32) (l2 : Int32) (l3 : Int32) (σ : PI) (h : w_X5_awayFrom_4   Q l1 l2 l3 σ) : J M X (QF M X (qI Q)) σ 4 [some (.ref (X.1 276)), some (.int l1), some (.int l2), some (.int l3)] [] := by
  refine Lp_J (P := fun (a : Int32 × Int32 × Int32 × PI) => J M X (QF M X (qI Q)) (a.2.2.2) 4 [some (.ref (X.1 276)), some (.int a.1), some (.int a.2.1), some (.int a.2.2.1)] []) (fun K4 hK a h => ?_) h
  obtain ⟨l1, l2, l3, σ⟩ := a
  have hK4 : ∀ (l1 : Int32) (l2 : Int32) (l3 : Int32) (σ : PI), K4 (l1, l2, l3, σ) → J M X (QF M X (qI Q)) σ 4 [some (.ref (X.1 276)), some (.int l1), some (.int l2), some (.int l3)] [] := fun l1 l2 l3 σ q => hK _ q
  replace h : B_X5_awayFrom_4   K4 Q l1 l2 l3 σ := h
  show J M X (QF M X (qI Q)) σ 4 [some (.ref (X.1 276)), some (.int l1), some (.int l2), some (.int l3)] []
  unfold B_X5_awayFrom_4 at h
  refine J_iload_n cx 3 dX5_awayFrom_4 rfl rfl ?_
  refine J_aload_n cx 0 dX5_awayFrom_5 rfl rfl ?_
  refine J_getR cx (j := 280) dX5_awayFrom_6 F_X5_19 (by decide) rfl rfl rfl ?_
  refine J_iconst cx dX5_awayFrom_9 (by decide : _ = ((nI 3) : Int32)) ?_
  refine J_iald cx dX5_awayFrom_10 (by decide) rfl (vpl (by decide)) ?_
  refine J_icmp_ge cx (tgt := 50) dX5_awayFrom_11 (by decide) (fun q1 => ?_) (fun q1 => ?_)
  · replace h := h.1 q1
    refine J_iload_n cx 2 dX5_awayFrom_50 rfl rfl ?_
    exact J_iret cx dX5_awayFrom_51 h
  · replace h := h.2 q1
    refine J_iload_n cx 2 dX5_awayFrom_14 rfl rfl ?_
    refine J_aload_n cx 0 dX5_awayFrom_15 rfl rfl ?_
    refine J_getI cx dX5_awayFrom_16 F_X5_148 (by decide) rfl rfl ?_
    refine J_iload_n cx 3 dX5_awayFrom_19 rfl rfl ?_
    refine J_cS cx dX5_awayFrom_20 S_X5_151 (by decide) (ct_X5_has   _ _ _ _ h) rfl rfl (Nat.le_of_ble_eq_true rfl) (k_i (fun r3 τ2 h => ?_))
    refine J_if_ne cx (tgt := 41) dX5_awayFrom_23 (by decide) (fun q4 => ?_) (fun q4 => ?_)
    · replace h := h.1 q4
      refine J_fg 2 rfl ?_
      exact j_X5_awayFrom_41   K4 hK4 cx   _ _ _ _ h
    · replace h := h.2 q4
      refine J_aload_n cx 0 dX5_awayFrom_26 rfl rfl ?_
      refine J_iload_n cx 3 dX5_awayFrom_27 rfl rfl ?_
      refine J_cV cx dX5_awayFrom_28 V_X5_142 (by decide) (by decide) rfl (ct_X5_houseOf   _ _ _ h) rfl rfl (Nat.le_of_ble_eq_true rfl) (k_i (fun r6 τ5 h => ?_))
      refine J_iload_n cx 1 dX5_awayFrom_31 rfl rfl ?_
      refine J_icmp_ne cx (tgt := 41) dX5_awayFrom_32 (by decide) (fun q7 => ?_) (fun q7 => ?_)
      · replace h := h.1 q7
        refine J_fg 2 rfl ?_
        exact j_X5_awayFrom_41   K4 hK4 cx   _ _ _ _ h
      · replace h := h.2 q7
        refine J_iconst cx dX5_awayFrom_35 (by decide : _ = ((nI 1) : Int32)) ?_
        refine J_iload_n cx 3 dX5_awayFrom_36 rfl rfl ?_
        refine J_ishl cx dX5_awayFrom_37 ?_
        refine J_goto cx (tgt := 42) dX5_awayFrom_38 (by decide) ?_
        refine J_fg 2 rfl ?_
        exact j_X5_awayFrom_42   K4 hK4 cx   _ _ _ _ _ h
def wp_X5_awayFrom (a0 : Int32) (σ : PI) (Q : Int32 → PI → Prop) : Prop := w_X5_awayFrom_4   Q a0 (nI 0) (nI 0) σ
set_option maxRecDepth 100000 in
set_option maxHeartbeats 4000000 in
theorem ct_X5_awayFrom {l : Launch} {X : XP} (a0 : Int32) (σ : PI) (Q : Int32 → PI → Prop) (h : wp_X5_awayFrom  a0 σ Q) : Ct l yX5_awayFrom cX5_awayFrom 4 (some .int) 1 X [.ref (X.1 276), .int a0] σ (qI Q) := by
  refine Ct_of (L := [some (.ref (X.1 276)), some (.int a0), none, none]) (by decide) (Nat.le_of_ble_eq_true rfl) rfl (fun M hl cx => ?_)
  subst hl
  unfold wp_X5_awayFrom at h
  refine J_iconst cx dX5_awayFrom_0 (by decide : _ = ((nI 0) : Int32)) ?_
  refine J_istore_n cx 2 dX5_awayFrom_1 rfl (by decide) rfl rfl ?_
  refine J_iconst cx dX5_awayFrom_2 (by decide : _ = ((nI 0) : Int32)) ?_
  refine J_istore_n cx 3 dX5_awayFrom_3 rfl (by decide) rfl rfl ?_
  exact j_X5_awayFrom_4     cx   _ _ _ _ h
def w_X5_madeAt_42 (K11 : (Int32 × Int32 × Int32 × PI → Prop)) (Q : Int32 → PI → Prop) (l2 : Int32) (l4 : Int32) (s0 : Int32) (s1 : Int32) (σ : PI) : Prop := ∀ x9 : Int32, x9 = (s1 + s0) → (K11 (l2, x9, (l4 + (nI 1)), σ))
set_option maxRecDepth 100000 in
set_option maxHeartbeats 4000000 in
theorem j_X5_madeAt_42 {M : MC} {X : XP} {Q : Int32 → PI → Prop} (K11 : (Int32 × Int32 × Int32 × PI → Prop)) (hK11 : ∀ (l2 : Int32) (l3 : Int32) (l4 : Int32) (σ : PI), K11 (l2, l3, l4, σ) → J M X (QF M X (qI Q)) σ 11 [some (.ref (X.1 276)), none, some (.int l2), some (.int l3), some (.int l4)] []) (cx : Cx M X RX5 cX5_madeAt 5 (some .int) 3) (l2 : Int32) (l4 : Int32) (s0 : Int32) (s1 : Int32) (σ : PI) (h : w_X5_madeAt_42  K11 Q l2 l4 s0 s1 σ) : J M X (QF M X (qI Q)) σ 42 [some (.ref (X.1 276)), none, some (.int l2), none, some (.int l4)] [.int s0, .int s1] := by
  unfold w_X5_madeAt_42 at h
  refine J_iadd cx dX5_madeAt_42 ?_
  refine J_topi (fun x9 e_x9 => ?_)
  replace h := h x9 e_x9
  refine J_istore_n cx 3 dX5_madeAt_43 rfl (by decide) rfl rfl ?_
  refine J_iinc cx dX5_madeAt_44 rfl (by decide : _ = ((nI 1) : Int32)) (by decide) rfl rfl ?_
  refine J_goto cx (tgt := 11) dX5_madeAt_47 (by decide) ?_
  exact hK11   _ _ _ _ h
def B_X5_madeAt_11 (K11 : (Int32 × Int32 × Int32 × PI → Prop)) (Q : Int32 → PI → Prop) (l2 : Int32) (l3 : Int32) (l4 : Int32) (σ : PI) : Prop := ((σ 280 3) ≤ l4 → Q l3 σ) ∧ (¬ (σ 280 3) ≤ l4 → wp_X5_has l2 l4 σ (fun r5 τ4 => ((r5 = (nI 0) → w_X5_madeAt_42  K11 Q l2 l4 (nI 0) l3 τ4) ∧ (¬ r5 = (nI 0) → wp_X5_makes l4 τ4 (fun r8 τ7 => (w_X5_madeAt_42  K11 Q l2 l4 r8 l3 τ7))))))
def w_X5_madeAt_11 (Q : Int32 → PI → Prop) (l2 : Int32) (l3 : Int32) (l4 : Int32) (σ : PI) : Prop := ∃ n, Lp (fun K a => B_X5_madeAt_11   K Q a.1 a.2.1 a.2.2.1 a.2.2.2) n (l2, l3, l4, σ)
set_option maxRecDepth 100000 in
set_option maxHeartbeats 4000000 in
theorem j_X5_madeAt_11 {M : MC} {X : XP} {Q : Int32 → PI → Prop} (cx : Cx M X RX5 cX5_madeAt 5 (some .int) 3) (l2 : Int32) (l3 : Int32) (l4 : Int32) (σ : PI) (h : w_X5_madeAt_11   Q l2 l3 l4 σ) : J M X (QF M X (qI Q)) σ 11 [some (.ref (X.1 276)), none, some (.int l2), some (.int l3), some (.int l4)] [] := by
  refine Lp_J (P := fun (a : Int32 × Int32 × Int32 × PI) => J M X (QF M X (qI Q)) (a.2.2.2) 11 [some (.ref (X.1 276)), none, some (.int a.1), some (.int a.2.1), some (.int a.2.2.1)] []) (fun K11 hK a h => ?_) h
  obtain ⟨l2, l3, l4, σ⟩ := a
  have hK11 : ∀ (l2 : Int32) (l3 : Int32) (l4 : Int32) (σ : PI), K11 (l2, l3, l4, σ) → J M X (QF M X (qI Q)) σ 11 [some (.ref (X.1 276)), none, some (.int l2), some (.int l3), some (.int l4)] [] := fun l2 l3 l4 σ q => hK _ q
  replace h : B_X5_madeAt_11   K11 Q l2 l3 l4 σ := h
  show J M X (QF M X (qI Q)) σ 11 [some (.ref (X.1 276)), none, some (.int l2), some (.int l3), some (.int l4)] []
  unfold B_X5_madeAt_11 at h
  refine J_iload cx dX5_madeAt_11 rfl ?_
  refine J_aload_n cx 0 dX5_madeAt_13 rfl rfl ?_
  refine J_getR cx (j := 280) dX5_madeAt_14 F_X5_19 (by decide) rfl rfl rfl ?_
  refine J_iconst cx dX5_madeAt_17 (by decide : _ = ((nI 3) : Int32)) ?_
  refine J_iald cx dX5_madeAt_18 (by decide) rfl (vpl (by decide)) ?_
  refine J_icmp_ge cx (tgt := 50) dX5_madeAt_19 (by decide) (fun q3 => ?_) (fun q3 => ?_)
  · replace h := h.1 q3
    refine J_iload_n cx 3 dX5_madeAt_50 rfl rfl ?_
    exact J_iret cx dX5_madeAt_51 h
  · replace h := h.2 q3
    refine J_iload_n cx 3 dX5_madeAt_22 rfl rfl ?_
    refine J_iload_n cx 2 dX5_madeAt_23 rfl rfl ?_
    refine J_iload cx dX5_madeAt_24 rfl ?_
    refine J_cS cx dX5_madeAt_26 S_X5_151 (by decide) (ct_X5_has   _ _ _ _ h) rfl rfl (Nat.le_of_ble_eq_true rfl) (k_i (fun r5 τ4 h => ?_))
    refine J_if_eq cx (tgt := 41) dX5_madeAt_29 (by decide) (fun q6 => ?_) (fun q6 => ?_)
    · replace h := h.1 q6
      refine J_iconst cx dX5_madeAt_41 (by decide : _ = ((nI 0) : Int32)) ?_
      refine J_fg 3 rfl ?_
      exact j_X5_madeAt_42   K11 hK11 cx   _ _ _ _ _ h
    · replace h := h.2 q6
      refine J_aload_n cx 0 dX5_madeAt_32 rfl rfl ?_
      refine J_iload cx dX5_madeAt_33 rfl ?_
      refine J_cV cx dX5_madeAt_35 V_X5_158 (by decide) (by decide) rfl (ct_X5_makes   _ _ _ h) rfl rfl (Nat.le_of_ble_eq_true rfl) (k_i (fun r8 τ7 h => ?_))
      refine J_goto cx (tgt := 42) dX5_madeAt_38 (by decide) ?_
      refine J_fg 3 rfl ?_
      exact j_X5_madeAt_42   K11 hK11 cx   _ _ _ _ _ h
def wp_X5_madeAt (a0 : Int32) (σ : PI) (Q : Int32 → PI → Prop) : Prop := wp_X5_awayFrom a0 σ (fun r2 τ1 => (w_X5_madeAt_11   Q r2 (nI 0) (nI 0) τ1))
set_option maxRecDepth 100000 in
set_option maxHeartbeats 4000000 in
theorem ct_X5_madeAt {l : Launch} {X : XP} (a0 : Int32) (σ : PI) (Q : Int32 → PI → Prop) (h : wp_X5_madeAt  a0 σ Q) : Ct l yX5_madeAt cX5_madeAt 5 (some .int) 3 X [.ref (X.1 276), .int a0] σ (qI Q) := by
  refine Ct_of (L := [some (.ref (X.1 276)), some (.int a0), none, none, none]) (by decide) (Nat.le_of_ble_eq_true rfl) rfl (fun M hl cx => ?_)
  subst hl
  unfold wp_X5_madeAt at h
  refine J_aload_n cx 0 dX5_madeAt_0 rfl rfl ?_
  refine J_iload_n cx 1 dX5_madeAt_1 rfl rfl ?_
  refine J_cV cx dX5_madeAt_2 V_X5_155 (by decide) (by decide) rfl (ct_X5_awayFrom   _ _ _ h) rfl rfl (Nat.le_of_ble_eq_true rfl) (k_i (fun r2 τ1 h => ?_))
  refine J_istore_n cx 2 dX5_madeAt_5 rfl (by decide) rfl rfl ?_
  refine J_iconst cx dX5_madeAt_6 (by decide : _ = ((nI 0) : Int32)) ?_
  refine J_istore_n cx 3 dX5_madeAt_7 rfl (by decide) rfl rfl ?_
  refine J_iconst cx dX5_madeAt_8 (by decide : _ = ((nI 0) : Int32)) ?_
  refine J_istore cx dX5_madeAt_9 (by decide) rfl rfl ?_
  refine J_fg 1 rfl ?_
  exact j_X5_madeAt_11     cx   _ _ _ _ h
def B_X5_allFeel_4 (K4 : (Int32 × Int32 × PI → Prop)) (Q : Int32 → PI → Prop) (l1 : Int32) (l2 : Int32) (σ : PI) : Prop := ((σ 280 2) ≤ l2 → Q l1 σ) ∧ (¬ (σ 280 2) ≤ l2 → vp_in ((nI 6) + l2) 70 ∧ (∀ x3 : Int32, x3 = (l1 + (σ 280 (((nI 6) + l2) : Int32).toNatClampNeg)) → (K4 (x3, (l2 + (nI 1)), σ))))
def w_X5_allFeel_4 (Q : Int32 → PI → Prop) (l1 : Int32) (l2 : Int32) (σ : PI) : Prop := ∃ n, Lp (fun K a => B_X5_allFeel_4   K Q a.1 a.2.1 a.2.2) n (l1, l2, σ)
set_option maxRecDepth 100000 in
set_option maxHeartbeats 4000000 in
theorem j_X5_allFeel_4 {M : MC} {X : XP} {Q : Int32 → PI → Prop} (cx : Cx M X RX5 cX5_allFeel 3 (some .int) 0) (l1 : Int32) (l2 : Int32) (σ : PI) (h : w_X5_allFeel_4   Q l1 l2 σ) : J M X (QF M X (qI Q)) σ 4 [some (.ref (X.1 276)), some (.int l1), some (.int l2)] [] := by
  refine Lp_J (P := fun (a : Int32 × Int32 × PI) => J M X (QF M X (qI Q)) (a.2.2) 4 [some (.ref (X.1 276)), some (.int a.1), some (.int a.2.1)] []) (fun K4 hK a h => ?_) h
  obtain ⟨l1, l2, σ⟩ := a
  have hK4 : ∀ (l1 : Int32) (l2 : Int32) (σ : PI), K4 (l1, l2, σ) → J M X (QF M X (qI Q)) σ 4 [some (.ref (X.1 276)), some (.int l1), some (.int l2)] [] := fun l1 l2 σ q => hK _ q
  replace h : B_X5_allFeel_4   K4 Q l1 l2 σ := h
  show J M X (QF M X (qI Q)) σ 4 [some (.ref (X.1 276)), some (.int l1), some (.int l2)] []
  unfold B_X5_allFeel_4 at h
  refine J_iload_n cx 2 dX5_allFeel_4 rfl rfl ?_
  refine J_aload_n cx 0 dX5_allFeel_5 rfl rfl ?_
  refine J_getR cx (j := 280) dX5_allFeel_6 F_X5_19 (by decide) rfl rfl rfl ?_
  refine J_iconst cx dX5_allFeel_9 (by decide : _ = ((nI 2) : Int32)) ?_
  refine J_iald cx dX5_allFeel_10 (by decide) rfl (vpl (by decide)) ?_
  refine J_icmp_ge cx (tgt := 32) dX5_allFeel_11 (by decide) (fun q1 => ?_) (fun q1 => ?_)
  · replace h := h.1 q1
    refine J_iload_n cx 1 dX5_allFeel_32 rfl rfl ?_
    exact J_iret cx dX5_allFeel_33 h
  · replace h := h.2 q1
    refine J_iload_n cx 1 dX5_allFeel_14 rfl rfl ?_
    refine J_aload_n cx 0 dX5_allFeel_15 rfl rfl ?_
    refine J_getR cx (j := 280) dX5_allFeel_16 F_X5_19 (by decide) rfl rfl rfl ?_
    refine J_bipush cx dX5_allFeel_19 (by decide : _ = ((nI 6) : Int32)) ?_
    refine J_iload_n cx 2 dX5_allFeel_21 rfl rfl ?_
    refine J_iadd cx dX5_allFeel_22 ?_
    obtain ⟨s2, h⟩ := h
    refine J_iald cx dX5_allFeel_23 (by decide) rfl s2 ?_
    refine J_iadd cx dX5_allFeel_24 ?_
    refine J_topi (fun x3 e_x3 => ?_)
    replace h := h x3 e_x3
    refine J_istore_n cx 1 dX5_allFeel_25 rfl (by decide) rfl rfl ?_
    refine J_iinc cx dX5_allFeel_26 rfl (by decide : _ = ((nI 1) : Int32)) (by decide) rfl rfl ?_
    refine J_goto cx (tgt := 4) dX5_allFeel_29 (by decide) ?_
    exact hK4   _ _ _ h
def wp_X5_allFeel (σ : PI) (Q : Int32 → PI → Prop) : Prop := w_X5_allFeel_4   Q (nI 0) (nI 0) σ
set_option maxRecDepth 100000 in
set_option maxHeartbeats 4000000 in
theorem ct_X5_allFeel {l : Launch} {X : XP} (σ : PI) (Q : Int32 → PI → Prop) (h : wp_X5_allFeel   σ Q) : Ct l yX5_allFeel cX5_allFeel 3 (some .int) 0 X [.ref (X.1 276)] σ (qI Q) := by
  refine Ct_of (L := [some (.ref (X.1 276)), none, none]) (by decide) (Nat.le_of_ble_eq_true rfl) rfl (fun M hl cx => ?_)
  subst hl
  unfold wp_X5_allFeel at h
  refine J_iconst cx dX5_allFeel_0 (by decide : _ = ((nI 0) : Int32)) ?_
  refine J_istore_n cx 1 dX5_allFeel_1 rfl (by decide) rfl rfl ?_
  refine J_iconst cx dX5_allFeel_2 (by decide : _ = ((nI 0) : Int32)) ?_
  refine J_istore_n cx 2 dX5_allFeel_3 rfl (by decide) rfl rfl ?_
  exact j_X5_allFeel_4     cx   _ _ _ h
def w_X5_oneDay_202 (K158 : (Int32 × PI → Prop)) (Q : PI → Prop) (l1 : Int32) (s0 : Int32) (s1 : Int32) (s2 : Int32) (σ : PI) : Prop := vp_in s2 70 ∧ (∀ τ20 : PI, τ20 = up σ 280 (s2 : Int32).toNatClampNeg (s1 + s0) → (K158 ((l1 + (nI 1)), τ20)))
set_option maxRecDepth 100000 in
set_option maxHeartbeats 4000000 in
theorem j_X5_oneDay_202 {M : MC} {X : XP} {Q : PI → Prop} (K158 : (Int32 × PI → Prop)) (hK158 : ∀ (l1 : Int32) (σ : PI), K158 (l1, σ) → J M X (QF M X (qV Q)) σ 158 [some (.ref (X.1 276)), some (.int l1), none, none, none, none] []) (cx : Cx M X RX5 cX5_oneDay 6 none 4) (l1 : Int32) (s0 : Int32) (s1 : Int32) (s2 : Int32) (σ : PI) (h : w_X5_oneDay_202  K158 Q l1 s0 s1 s2 σ) : J M X (QF M X (qV Q)) σ 202 [some (.ref (X.1 276)), some (.int l1), none, none, none, none] [.int s0, .int s1, .int s2, .ref (X.1 280)] := by
  unfold w_X5_oneDay_202 at h
  refine J_iadd cx dX5_oneDay_202 ?_
  obtain ⟨s19, h⟩ := h
  refine J_iast cx dX5_oneDay_203 (by decide) rfl s19 ?_
  refine J_nm (fun τ20 e_τ20 => ?_)
  replace h := h τ20 e_τ20
  refine J_iinc cx dX5_oneDay_204 rfl (by decide : _ = ((nI 1) : Int32)) (by decide) rfl rfl ?_
  refine J_goto cx (tgt := 158) dX5_oneDay_207 (by decide) ?_
  exact hK158   _ _ h
def B_X5_oneDay_158 (K158 : (Int32 × PI → Prop)) (Q : PI → Prop) (l1 : Int32) (σ : PI) : Prop := ((σ 280 3) ≤ l1 → ∀ τ9 : PI, τ9 = up σ 280 4 ((σ 280 4) + (nI 1)) → (Q τ9)) ∧ (¬ (σ 280 3) ≤ l1 → wp_X5_houseOf l1 σ (fun r11 τ10 => (vp_in (((nI 40) + ((nI 5) * l1)) + r11) 70 ∧ (wp_X5_has (τ10 276 6) l1 τ10 (fun r14 τ13 => ((r14 = (nI 0) → w_X5_oneDay_202  K158 Q l1 (nI 1) (τ10 280 ((((nI 40) + ((nI 5) * l1)) + r11) : Int32).toNatClampNeg) (((nI 40) + ((nI 5) * l1)) + r11) τ13) ∧ (¬ r14 = (nI 0) → w_X5_oneDay_202  K158 Q l1 (nI 0) (τ10 280 ((((nI 40) + ((nI 5) * l1)) + r11) : Int32).toNatClampNeg) (((nI 40) + ((nI 5) * l1)) + r11) τ13)))))))
def w_X5_oneDay_158 (Q : PI → Prop) (l1 : Int32) (σ : PI) : Prop := ∃ n, Lp (fun K a => B_X5_oneDay_158   K Q a.1 a.2) n (l1, σ)
set_option maxRecDepth 100000 in
set_option maxHeartbeats 4000000 in
theorem j_X5_oneDay_158 {M : MC} {X : XP} {Q : PI → Prop} (cx : Cx M X RX5 cX5_oneDay 6 none 4) (l1 : Int32) (σ : PI) (h : w_X5_oneDay_158   Q l1 σ) : J M X (QF M X (qV Q)) σ 158 [some (.ref (X.1 276)), some (.int l1), none, none, none, none] [] := by
  refine Lp_J (P := fun (a : Int32 × PI) => J M X (QF M X (qV Q)) (a.2) 158 [some (.ref (X.1 276)), some (.int a.1), none, none, none, none] []) (fun K158 hK a h => ?_) h
  obtain ⟨l1, σ⟩ := a
  have hK158 : ∀ (l1 : Int32) (σ : PI), K158 (l1, σ) → J M X (QF M X (qV Q)) σ 158 [some (.ref (X.1 276)), some (.int l1), none, none, none, none] [] := fun l1 σ q => hK _ q
  replace h : B_X5_oneDay_158   K158 Q l1 σ := h
  show J M X (QF M X (qV Q)) σ 158 [some (.ref (X.1 276)), some (.int l1), none, none, none, none] []
  unfold B_X5_oneDay_158 at h
  refine J_iload_n cx 1 dX5_oneDay_158 rfl rfl ?_
  refine J_aload_n cx 0 dX5_oneDay_159 rfl rfl ?_
  refine J_getR cx (j := 280) dX5_oneDay_160 F_X5_19 (by decide) rfl rfl rfl ?_
  refine J_iconst cx dX5_oneDay_163 (by decide : _ = ((nI 3) : Int32)) ?_
  refine J_iald cx dX5_oneDay_164 (by decide) rfl (vpl (by decide)) ?_
  refine J_icmp_ge cx (tgt := 210) dX5_oneDay_165 (by decide) (fun q8 => ?_) (fun q8 => ?_)
  · replace h := h.1 q8
    refine J_aload_n cx 0 dX5_oneDay_210 rfl rfl ?_
    refine J_getR cx (j := 280) dX5_oneDay_211 F_X5_19 (by decide) rfl rfl rfl ?_
    refine J_iconst cx dX5_oneDay_214 (by decide : _ = ((nI 4) : Int32)) ?_
    refine J_dup2 cx dX5_oneDay_215 rfl rfl ?_
    refine J_iald cx dX5_oneDay_216 (by decide) rfl (vpl (by decide)) ?_
    refine J_iconst cx dX5_oneDay_217 (by decide : _ = ((nI 1) : Int32)) ?_
    refine J_iadd cx dX5_oneDay_218 ?_
    refine J_iast cx dX5_oneDay_219 (by decide) rfl (vpl (by decide)) ?_
    refine J_nm (fun τ9 e_τ9 => ?_)
    replace h := h τ9 e_τ9
    exact J_vret cx dX5_oneDay_220 h
  · replace h := h.2 q8
    refine J_aload_n cx 0 dX5_oneDay_168 rfl rfl ?_
    refine J_getR cx (j := 280) dX5_oneDay_169 F_X5_19 (by decide) rfl rfl rfl ?_
    refine J_bipush cx dX5_oneDay_172 (by decide : _ = ((nI 40) : Int32)) ?_
    refine J_iconst cx dX5_oneDay_174 (by decide : _ = ((nI 5) : Int32)) ?_
    refine J_iload_n cx 1 dX5_oneDay_175 rfl rfl ?_
    refine J_imul cx dX5_oneDay_176 ?_
    refine J_iadd cx dX5_oneDay_177 ?_
    refine J_aload_n cx 0 dX5_oneDay_178 rfl rfl ?_
    refine J_iload_n cx 1 dX5_oneDay_179 rfl rfl ?_
    refine J_cV cx dX5_oneDay_180 V_X5_142 (by decide) (by decide) rfl (ct_X5_houseOf   _ _ _ h) rfl rfl (Nat.le_of_ble_eq_true rfl) (k_i (fun r11 τ10 h => ?_))
    refine J_iadd cx dX5_oneDay_183 ?_
    refine J_dup2 cx dX5_oneDay_184 rfl rfl ?_
    obtain ⟨s12, h⟩ := h
    refine J_iald cx dX5_oneDay_185 (by decide) rfl s12 ?_
    refine J_aload_n cx 0 dX5_oneDay_186 rfl rfl ?_
    refine J_getI cx dX5_oneDay_187 F_X5_148 (by decide) rfl rfl ?_
    refine J_iload_n cx 1 dX5_oneDay_190 rfl rfl ?_
    refine J_cS cx dX5_oneDay_191 S_X5_151 (by decide) (ct_X5_has   _ _ _ _ h) rfl rfl (Nat.le_of_ble_eq_true rfl) (k_i (fun r14 τ13 h => ?_))
    refine J_if_eq cx (tgt := 201) dX5_oneDay_194 (by decide) (fun q15 => ?_) (fun q15 => ?_)
    · replace h := h.1 q15
      refine J_iconst cx dX5_oneDay_201 (by decide : _ = ((nI 1) : Int32)) ?_
      exact j_X5_oneDay_202   K158 hK158 cx   _ _ _ _ _ h
    · replace h := h.2 q15
      refine J_iconst cx dX5_oneDay_197 (by decide : _ = ((nI 0) : Int32)) ?_
      refine J_goto cx (tgt := 202) dX5_oneDay_198 (by decide) ?_
      exact j_X5_oneDay_202   K158 hK158 cx   _ _ _ _ _ h
def w_X5_oneDay_149 (K7 : (Int32 × PI → Prop)) (Q : PI → Prop) (l1 : Int32) (s0 : Int32) (s1 : Int32) (σ : PI) : Prop := vp_in s1 70 ∧ (∀ τ30 : PI, τ30 = up σ 280 (s1 : Int32).toNatClampNeg s0 → (K7 ((l1 + (nI 1)), τ30)))
set_option maxRecDepth 100000 in
set_option maxHeartbeats 4000000 in
theorem j_X5_oneDay_149 {M : MC} {X : XP} {Q : PI → Prop} (K7 : (Int32 × PI → Prop)) (hK7 : ∀ (l1 : Int32) (σ : PI), K7 (l1, σ) → J M X (QF M X (qV Q)) σ 7 [some (.ref (X.1 276)), some (.int l1), none, none, none, none] []) (cx : Cx M X RX5 cX5_oneDay 6 none 4) (l1 : Int32) (s0 : Int32) (s1 : Int32) (σ : PI) (h : w_X5_oneDay_149  K7 Q l1 s0 s1 σ) : J M X (QF M X (qV Q)) σ 149 [some (.ref (X.1 276)), some (.int l1), none, none, none, none] [.int s0, .int s1, .ref (X.1 280)] := by
  unfold w_X5_oneDay_149 at h
  obtain ⟨s29, h⟩ := h
  refine J_iast cx dX5_oneDay_149 (by decide) rfl s29 ?_
  refine J_nm (fun τ30 e_τ30 => ?_)
  replace h := h τ30 e_τ30
  refine J_iinc cx dX5_oneDay_150 rfl (by decide : _ = ((nI 1) : Int32)) (by decide) rfl rfl ?_
  refine J_goto cx (tgt := 7) dX5_oneDay_153 (by decide) ?_
  exact hK7   _ _ h
def w_X5_oneDay_114 (K7 : (Int32 × PI → Prop)) (Q : PI → Prop) (l1 : Int32) (l5 : Int32) (s0 : Int32) (s1 : Int32) (σ : PI) : Prop := ∀ τ26 : PI, τ26 = up σ 276 17 (s1 ||| s0) → (((nI 0) ≤ l5 → (l5 ≤ (nI 99) → w_X5_oneDay_149  K7 Q l1 l5 ((nI 6) + l1) τ26) ∧ (¬ l5 ≤ (nI 99) → w_X5_oneDay_149  K7 Q l1 (nI 99) ((nI 6) + l1) τ26)) ∧ (¬ (nI 0) ≤ l5 → w_X5_oneDay_149  K7 Q l1 (nI 0) ((nI 6) + l1) τ26))
set_option maxRecDepth 100000 in
set_option maxHeartbeats 4000000 in
theorem j_X5_oneDay_114 {M : MC} {X : XP} {Q : PI → Prop} (K7 : (Int32 × PI → Prop)) (hK7 : ∀ (l1 : Int32) (σ : PI), K7 (l1, σ) → J M X (QF M X (qV Q)) σ 7 [some (.ref (X.1 276)), some (.int l1), none, none, none, none] []) (cx : Cx M X RX5 cX5_oneDay 6 none 4) (l1 : Int32) (l5 : Int32) (s0 : Int32) (s1 : Int32) (σ : PI) (h : w_X5_oneDay_114  K7 Q l1 l5 s0 s1 σ) : J M X (QF M X (qV Q)) σ 114 [some (.ref (X.1 276)), some (.int l1), none, none, none, some (.int l5)] [.int s0, .int s1, .ref (X.1 276)] := by
  unfold w_X5_oneDay_114 at h
  refine J_ior cx dX5_oneDay_114 ?_
  refine J_putI cx dX5_oneDay_115 (P_X5_161 _) (by decide) rfl rfl ?_
  refine J_nm (fun τ26 e_τ26 => ?_)
  replace h := h τ26 e_τ26
  refine J_aload_n cx 0 dX5_oneDay_118 rfl rfl ?_
  refine J_getR cx (j := 280) dX5_oneDay_119 F_X5_19 (by decide) rfl rfl rfl ?_
  refine J_bipush cx dX5_oneDay_122 (by decide : _ = ((nI 6) : Int32)) ?_
  refine J_iload_n cx 1 dX5_oneDay_124 rfl rfl ?_
  refine J_iadd cx dX5_oneDay_125 ?_
  refine J_iload cx dX5_oneDay_126 rfl ?_
  refine J_if_ge cx (tgt := 135) dX5_oneDay_128 (by decide) (fun q27 => ?_) (fun q27 => ?_)
  · replace h := h.1 q27
    refine J_iload cx dX5_oneDay_135 rfl ?_
    refine J_bipush cx dX5_oneDay_137 (by decide : _ = ((nI 99) : Int32)) ?_
    refine J_icmp_le cx (tgt := 147) dX5_oneDay_139 (by decide) (fun q28 => ?_) (fun q28 => ?_)
    · replace h := h.1 q28
      refine J_iload cx dX5_oneDay_147 rfl ?_
      refine J_fg 5 rfl ?_
      exact j_X5_oneDay_149   K7 hK7 cx   _ _ _ _ h
    · replace h := h.2 q28
      refine J_bipush cx dX5_oneDay_142 (by decide : _ = ((nI 99) : Int32)) ?_
      refine J_goto cx (tgt := 149) dX5_oneDay_144 (by decide) ?_
      refine J_fg 5 rfl ?_
      exact j_X5_oneDay_149   K7 hK7 cx   _ _ _ _ h
  · replace h := h.2 q27
    refine J_iconst cx dX5_oneDay_131 (by decide : _ = ((nI 0) : Int32)) ?_
    refine J_goto cx (tgt := 149) dX5_oneDay_132 (by decide) ?_
    refine J_fg 5 rfl ?_
    exact j_X5_oneDay_149   K7 hK7 cx   _ _ _ _ h
def w_X5_oneDay_94 (K7 : (Int32 × PI → Prop)) (Q : PI → Prop) (l1 : Int32) (l4 : Int32) (s0 : Int32) (s1 : Int32) (σ : PI) : Prop := ∀ x24 : Int32, x24 = (s1 + s0) → ((l4 = (nI 0) → w_X5_oneDay_114  K7 Q l1 x24 (nI 0) (σ 276 17) σ) ∧ (¬ l4 = (nI 0) → w_X5_oneDay_114  K7 Q l1 x24 ((nI 1) <<< (l1 &&& 31)) (σ 276 17) σ))
set_option maxRecDepth 100000 in
set_option maxHeartbeats 4000000 in
theorem j_X5_oneDay_94 {M : MC} {X : XP} {Q : PI → Prop} (K7 : (Int32 × PI → Prop)) (hK7 : ∀ (l1 : Int32) (σ : PI), K7 (l1, σ) → J M X (QF M X (qV Q)) σ 7 [some (.ref (X.1 276)), some (.int l1), none, none, none, none] []) (cx : Cx M X RX5 cX5_oneDay 6 none 4) (l1 : Int32) (l4 : Int32) (s0 : Int32) (s1 : Int32) (σ : PI) (h : w_X5_oneDay_94  K7 Q l1 l4 s0 s1 σ) : J M X (QF M X (qV Q)) σ 94 [some (.ref (X.1 276)), some (.int l1), none, none, some (.int l4), none] [.int s0, .int s1] := by
  unfold w_X5_oneDay_94 at h
  refine J_iadd cx dX5_oneDay_94 ?_
  refine J_topi (fun x24 e_x24 => ?_)
  replace h := h x24 e_x24
  refine J_istore cx dX5_oneDay_95 (by decide) rfl rfl ?_
  refine J_aload_n cx 0 dX5_oneDay_97 rfl rfl ?_
  refine J_dup cx dX5_oneDay_98 rfl ?_
  refine J_getI cx dX5_oneDay_99 F_X5_161 (by decide) rfl rfl ?_
  refine J_iload cx dX5_oneDay_102 rfl ?_
  refine J_if_eq cx (tgt := 113) dX5_oneDay_104 (by decide) (fun q25 => ?_) (fun q25 => ?_)
  · replace h := h.1 q25
    refine J_iconst cx dX5_oneDay_113 (by decide : _ = ((nI 0) : Int32)) ?_
    refine J_fg 4 rfl ?_
    exact j_X5_oneDay_114   K7 hK7 cx   _ _ _ _ _ h
  · replace h := h.2 q25
    refine J_iconst cx dX5_oneDay_107 (by decide : _ = ((nI 1) : Int32)) ?_
    refine J_iload_n cx 1 dX5_oneDay_108 rfl rfl ?_
    refine J_ishl cx dX5_oneDay_109 ?_
    refine J_goto cx (tgt := 114) dX5_oneDay_110 (by decide) ?_
    refine J_fg 4 rfl ?_
    exact j_X5_oneDay_114   K7 hK7 cx   _ _ _ _ _ h
def w_X5_oneDay_59 (K7 : (Int32 × PI → Prop)) (Q : PI → Prop) (l1 : Int32) (l2 : Int32) (l3 : Int32) (s0 : Int32) (σ : PI) : Prop := vp_in ((nI 6) + l1) 70 ∧ ((l3 = (nI 0) → (s0 = (nI 0) → w_X5_oneDay_94  K7 Q l1 s0 l2 (σ 280 (((nI 6) + l1) : Int32).toNatClampNeg) σ) ∧ (¬ s0 = (nI 0) → w_X5_oneDay_94  K7 Q l1 s0 (-(σ 280 0)) (σ 280 (((nI 6) + l1) : Int32).toNatClampNeg) σ)) ∧ (¬ l3 = (nI 0) → w_X5_oneDay_94  K7 Q l1 s0 (-1) (σ 280 (((nI 6) + l1) : Int32).toNatClampNeg) σ))
set_option maxRecDepth 100000 in
set_option maxHeartbeats 4000000 in
theorem j_X5_oneDay_59 {M : MC} {X : XP} {Q : PI → Prop} (K7 : (Int32 × PI → Prop)) (hK7 : ∀ (l1 : Int32) (σ : PI), K7 (l1, σ) → J M X (QF M X (qV Q)) σ 7 [some (.ref (X.1 276)), some (.int l1), none, none, none, none] []) (cx : Cx M X RX5 cX5_oneDay 6 none 4) (l1 : Int32) (l2 : Int32) (l3 : Int32) (s0 : Int32) (σ : PI) (h : w_X5_oneDay_59  K7 Q l1 l2 l3 s0 σ) : J M X (QF M X (qV Q)) σ 59 [some (.ref (X.1 276)), some (.int l1), some (.int l2), some (.int l3), none, none] [.int s0] := by
  unfold w_X5_oneDay_59 at h
  refine J_istore cx dX5_oneDay_59 (by decide) rfl rfl ?_
  refine J_aload_n cx 0 dX5_oneDay_61 rfl rfl ?_
  refine J_getR cx (j := 280) dX5_oneDay_62 F_X5_19 (by decide) rfl rfl rfl ?_
  refine J_bipush cx dX5_oneDay_65 (by decide : _ = ((nI 6) : Int32)) ?_
  refine J_iload_n cx 1 dX5_oneDay_67 rfl rfl ?_
  refine J_iadd cx dX5_oneDay_68 ?_
  obtain ⟨s21, h⟩ := h
  refine J_iald cx dX5_oneDay_69 (by decide) rfl s21 ?_
  refine J_iload_n cx 3 dX5_oneDay_70 rfl rfl ?_
  refine J_if_eq cx (tgt := 78) dX5_oneDay_71 (by decide) (fun q22 => ?_) (fun q22 => ?_)
  · replace h := h.1 q22
    refine J_iload cx dX5_oneDay_78 rfl ?_
    refine J_if_eq cx (tgt := 93) dX5_oneDay_80 (by decide) (fun q23 => ?_) (fun q23 => ?_)
    · replace h := h.1 q23
      refine J_iload_n cx 2 dX5_oneDay_93 rfl rfl ?_
      refine J_fg 2 rfl ?_
      refine J_fg 3 rfl ?_
      exact j_X5_oneDay_94   K7 hK7 cx   _ _ _ _ _ h
    · replace h := h.2 q23
      refine J_aload_n cx 0 dX5_oneDay_83 rfl rfl ?_
      refine J_getR cx (j := 280) dX5_oneDay_84 F_X5_19 (by decide) rfl rfl rfl ?_
      refine J_iconst cx dX5_oneDay_87 (by decide : _ = ((nI 0) : Int32)) ?_
      refine J_iald cx dX5_oneDay_88 (by decide) rfl (vpl (by decide)) ?_
      refine J_ineg cx dX5_oneDay_89 ?_
      refine J_goto cx (tgt := 94) dX5_oneDay_90 (by decide) ?_
      refine J_fg 2 rfl ?_
      refine J_fg 3 rfl ?_
      exact j_X5_oneDay_94   K7 hK7 cx   _ _ _ _ _ h
  · replace h := h.2 q22
    refine J_iconst cx dX5_oneDay_74 (by decide : _ = ((-1) : Int32)) ?_
    refine J_goto cx (tgt := 94) dX5_oneDay_75 (by decide) ?_
    refine J_fg 2 rfl ?_
    refine J_fg 3 rfl ?_
    exact j_X5_oneDay_94   K7 hK7 cx   _ _ _ _ _ h
def w_X5_oneDay_58 (K7 : (Int32 × PI → Prop)) (Q : PI → Prop) (l1 : Int32) (l2 : Int32) (l3 : Int32) (σ : PI) : Prop := w_X5_oneDay_59  K7 Q l1 l2 l3 (nI 0) σ
set_option maxRecDepth 100000 in
set_option maxHeartbeats 4000000 in
theorem j_X5_oneDay_58 {M : MC} {X : XP} {Q : PI → Prop} (K7 : (Int32 × PI → Prop)) (hK7 : ∀ (l1 : Int32) (σ : PI), K7 (l1, σ) → J M X (QF M X (qV Q)) σ 7 [some (.ref (X.1 276)), some (.int l1), none, none, none, none] []) (cx : Cx M X RX5 cX5_oneDay 6 none 4) (l1 : Int32) (l2 : Int32) (l3 : Int32) (σ : PI) (h : w_X5_oneDay_58  K7 Q l1 l2 l3 σ) : J M X (QF M X (qV Q)) σ 58 [some (.ref (X.1 276)), some (.int l1), some (.int l2), some (.int l3), none, none] [] := by
  unfold w_X5_oneDay_58 at h
  refine J_iconst cx dX5_oneDay_58 (by decide : _ = ((nI 0) : Int32)) ?_
  exact j_X5_oneDay_59   K7 hK7 cx   _ _ _ _ _ h
def w_X5_oneDay_36 (K7 : (Int32 × PI → Prop)) (Q : PI → Prop) (l1 : Int32) (l2 : Int32) (s0 : Int32) (σ : PI) : Prop := (¬ s0 = (nI 0) → w_X5_oneDay_58  K7 Q l1 l2 s0 σ) ∧ (s0 = (nI 0) → vp_in ((nI 11) + l1) 70 ∧ (((σ 280 (((nI 11) + l1) : Int32).toNatClampNeg) < l2 → w_X5_oneDay_58  K7 Q l1 l2 s0 σ) ∧ (¬ (σ 280 (((nI 11) + l1) : Int32).toNatClampNeg) < l2 → w_X5_oneDay_59  K7 Q l1 l2 s0 (nI 1) σ)))
set_option maxRecDepth 100000 in
set_option maxHeartbeats 4000000 in
theorem j_X5_oneDay_36 {M : MC} {X : XP} {Q : PI → Prop} (K7 : (Int32 × PI → Prop)) (hK7 : ∀ (l1 : Int32) (σ : PI), K7 (l1, σ) → J M X (QF M X (qV Q)) σ 7 [some (.ref (X.1 276)), some (.int l1), none, none, none, none] []) (cx : Cx M X RX5 cX5_oneDay 6 none 4) (l1 : Int32) (l2 : Int32) (s0 : Int32) (σ : PI) (h : w_X5_oneDay_36  K7 Q l1 l2 s0 σ) : J M X (QF M X (qV Q)) σ 36 [some (.ref (X.1 276)), some (.int l1), some (.int l2), none, none, none] [.int s0] := by
  unfold w_X5_oneDay_36 at h
  refine J_istore_n cx 3 dX5_oneDay_36 rfl (by decide) rfl rfl ?_
  refine J_iload_n cx 3 dX5_oneDay_37 rfl rfl ?_
  refine J_if_ne cx (tgt := 58) dX5_oneDay_38 (by decide) (fun q16 => ?_) (fun q16 => ?_)
  · replace h := h.1 q16
    exact j_X5_oneDay_58   K7 hK7 cx   _ _ _ _ h
  · replace h := h.2 q16
    refine J_iload_n cx 2 dX5_oneDay_41 rfl rfl ?_
    refine J_aload_n cx 0 dX5_oneDay_42 rfl rfl ?_
    refine J_getR cx (j := 280) dX5_oneDay_43 F_X5_19 (by decide) rfl rfl rfl ?_
    refine J_bipush cx dX5_oneDay_46 (by decide : _ = ((nI 11) : Int32)) ?_
    refine J_iload_n cx 1 dX5_oneDay_48 rfl rfl ?_
    refine J_iadd cx dX5_oneDay_49 ?_
    obtain ⟨s17, h⟩ := h
    refine J_iald cx dX5_oneDay_50 (by decide) rfl s17 ?_
    refine J_icmp_gt cx (tgt := 58) dX5_oneDay_51 (by decide) (fun q18 => ?_) (fun q18 => ?_)
    · replace h := h.1 q18
      exact j_X5_oneDay_58   K7 hK7 cx   _ _ _ _ h
    · replace h := h.2 q18
      refine J_iconst cx dX5_oneDay_54 (by decide : _ = ((nI 1) : Int32)) ?_
      refine J_goto cx (tgt := 59) dX5_oneDay_55 (by decide) ?_
      exact j_X5_oneDay_59   K7 hK7 cx   _ _ _ _ _ h
def B_X5_oneDay_7 (K7 : (Int32 × PI → Prop)) (Q : PI → Prop) (l1 : Int32) (σ : PI) : Prop := ((σ 280 2) ≤ l1 → w_X5_oneDay_158   Q (nI 0) σ) ∧ (¬ (σ 280 2) ≤ l1 → wp_X5_madeAt l1 σ (fun r4 τ3 => (wp_X5_awayFrom l1 τ3 (fun r6 τ5 => ((¬ r6 = (nI 0) → w_X5_oneDay_36  K7 Q l1 r4 (nI 0) τ5) ∧ (r6 = (nI 0) → w_X5_oneDay_36  K7 Q l1 r4 (nI 1) τ5))))))
def w_X5_oneDay_7 (Q : PI → Prop) (l1 : Int32) (σ : PI) : Prop := ∃ n, Lp (fun K a => B_X5_oneDay_7   K Q a.1 a.2) n (l1, σ)
set_option maxRecDepth 100000 in
set_option maxHeartbeats 4000000 in
theorem j_X5_oneDay_7 {M : MC} {X : XP} {Q : PI → Prop} (cx : Cx M X RX5 cX5_oneDay 6 none 4) (l1 : Int32) (σ : PI) (h : w_X5_oneDay_7   Q l1 σ) : J M X (QF M X (qV Q)) σ 7 [some (.ref (X.1 276)), some (.int l1), none, none, none, none] [] := by
  refine Lp_J (P := fun (a : Int32 × PI) => J M X (QF M X (qV Q)) (a.2) 7 [some (.ref (X.1 276)), some (.int a.1), none, none, none, none] []) (fun K7 hK a h => ?_) h
  obtain ⟨l1, σ⟩ := a
  have hK7 : ∀ (l1 : Int32) (σ : PI), K7 (l1, σ) → J M X (QF M X (qV Q)) σ 7 [some (.ref (X.1 276)), some (.int l1), none, none, none, none] [] := fun l1 σ q => hK _ q
  replace h : B_X5_oneDay_7   K7 Q l1 σ := h
  show J M X (QF M X (qV Q)) σ 7 [some (.ref (X.1 276)), some (.int l1), none, none, none, none] []
  unfold B_X5_oneDay_7 at h
  refine J_iload_n cx 1 dX5_oneDay_7 rfl rfl ?_
  refine J_aload_n cx 0 dX5_oneDay_8 rfl rfl ?_
  refine J_getR cx (j := 280) dX5_oneDay_9 F_X5_19 (by decide) rfl rfl rfl ?_
  refine J_iconst cx dX5_oneDay_12 (by decide : _ = ((nI 2) : Int32)) ?_
  refine J_iald cx dX5_oneDay_13 (by decide) rfl (vpl (by decide)) ?_
  refine J_icmp_ge cx (tgt := 156) dX5_oneDay_14 (by decide) (fun q2 => ?_) (fun q2 => ?_)
  · replace h := h.1 q2
    refine J_iconst cx dX5_oneDay_156 (by decide : _ = ((nI 0) : Int32)) ?_
    refine J_istore_n cx 1 dX5_oneDay_157 rfl (by decide) rfl rfl ?_
    exact j_X5_oneDay_158     cx   _ _ h
  · replace h := h.2 q2
    refine J_aload_n cx 0 dX5_oneDay_17 rfl rfl ?_
    refine J_iload_n cx 1 dX5_oneDay_18 rfl rfl ?_
    refine J_cV cx dX5_oneDay_19 V_X5_164 (by decide) (by decide) rfl (ct_X5_madeAt   _ _ _ h) rfl rfl (Nat.le_of_ble_eq_true rfl) (k_i (fun r4 τ3 h => ?_))
    refine J_istore_n cx 2 dX5_oneDay_22 rfl (by decide) rfl rfl ?_
    refine J_aload_n cx 0 dX5_oneDay_23 rfl rfl ?_
    refine J_iload_n cx 1 dX5_oneDay_24 rfl rfl ?_
    refine J_cV cx dX5_oneDay_25 V_X5_155 (by decide) (by decide) rfl (ct_X5_awayFrom   _ _ _ h) rfl rfl (Nat.le_of_ble_eq_true rfl) (k_i (fun r6 τ5 h => ?_))
    refine J_if_ne cx (tgt := 35) dX5_oneDay_28 (by decide) (fun q7 => ?_) (fun q7 => ?_)
    · replace h := h.1 q7
      refine J_iconst cx dX5_oneDay_35 (by decide : _ = ((nI 0) : Int32)) ?_
      exact j_X5_oneDay_36   K7 hK7 cx   _ _ _ _ h
    · replace h := h.2 q7
      refine J_iconst cx dX5_oneDay_31 (by decide : _ = ((nI 1) : Int32)) ?_
      refine J_goto cx (tgt := 36) dX5_oneDay_32 (by decide) ?_
      exact j_X5_oneDay_36   K7 hK7 cx   _ _ _ _ h
def wp_X5_oneDay (σ : PI) (Q : PI → Prop) : Prop := ∀ τ1 : PI, τ1 = up σ 276 17 (nI 0) → (w_X5_oneDay_7   Q (nI 0) τ1)
set_option maxRecDepth 100000 in
set_option maxHeartbeats 4000000 in
theorem ct_X5_oneDay {l : Launch} {X : XP} (σ : PI) (Q : PI → Prop) (h : wp_X5_oneDay   σ Q) : Ct l yX5_oneDay cX5_oneDay 6 none 4 X [.ref (X.1 276)] σ (qV Q) := by
  refine Ct_of (L := [some (.ref (X.1 276)), none, none, none, none, none]) (by decide) (Nat.le_of_ble_eq_true rfl) rfl (fun M hl cx => ?_)
  subst hl
  unfold wp_X5_oneDay at h
  refine J_aload_n cx 0 dX5_oneDay_0 rfl rfl ?_
  refine J_iconst cx dX5_oneDay_1 (by decide : _ = ((nI 0) : Int32)) ?_
  refine J_putI cx dX5_oneDay_2 (P_X5_161 _) (by decide) rfl rfl ?_
  refine J_nm (fun τ1 e_τ1 => ?_)
  replace h := h τ1 e_τ1
  refine J_iconst cx dX5_oneDay_5 (by decide : _ = ((nI 0) : Int32)) ?_
  refine J_istore_n cx 1 dX5_oneDay_6 rfl (by decide) rfl rfl ?_
  exact j_X5_oneDay_7     cx   _ _ h
def B_X5_sendTo_12 (K12 : (Int32 × Int32 × PI → Prop)) (Q : PI → Prop) (l1 : Int32) (l3 : Int32) (σ : PI) : Prop := ((nI 5) ≤ l3 → Q σ) ∧ (¬ (nI 5) ≤ l3 → vp_in (((nI 40) + ((nI 5) * l1)) + l3) 70 ∧ (∀ τ5 : PI, τ5 = up σ 280 ((((nI 40) + ((nI 5) * l1)) + l3) : Int32).toNatClampNeg (nI 0) → (K12 (l1, (l3 + (nI 1)), τ5))))
def w_X5_sendTo_12 (Q : PI → Prop) (l1 : Int32) (l3 : Int32) (σ : PI) : Prop := ∃ n, Lp (fun K a => B_X5_sendTo_12   K Q a.1 a.2.1 a.2.2) n (l1, l3, σ)
set_option maxRecDepth 100000 in
set_option maxHeartbeats 4000000 in
theorem j_X5_sendTo_12 {M : MC} {X : XP} {Q : PI → Prop} (cx : Cx M X RX5 cX5_sendTo 4 none 0) (l1 : Int32) (l3 : Int32) (σ : PI) (h : w_X5_sendTo_12   Q l1 l3 σ) : J M X (QF M X (qV Q)) σ 12 [some (.ref (X.1 276)), some (.int l1), none, some (.int l3)] [] := by
  refine Lp_J (P := fun (a : Int32 × Int32 × PI) => J M X (QF M X (qV Q)) (a.2.2) 12 [some (.ref (X.1 276)), some (.int a.1), none, some (.int a.2.1)] []) (fun K12 hK a h => ?_) h
  obtain ⟨l1, l3, σ⟩ := a
  have hK12 : ∀ (l1 : Int32) (l3 : Int32) (σ : PI), K12 (l1, l3, σ) → J M X (QF M X (qV Q)) σ 12 [some (.ref (X.1 276)), some (.int l1), none, some (.int l3)] [] := fun l1 l3 σ q => hK _ q
  replace h : B_X5_sendTo_12   K12 Q l1 l3 σ := h
  show J M X (QF M X (qV Q)) σ 12 [some (.ref (X.1 276)), some (.int l1), none, some (.int l3)] []
  unfold B_X5_sendTo_12 at h
  refine J_iload_n cx 3 dX5_sendTo_12 rfl rfl ?_
  refine J_iconst cx dX5_sendTo_13 (by decide : _ = ((nI 5) : Int32)) ?_
  refine J_icmp_ge cx (tgt := 37) dX5_sendTo_14 (by decide) (fun q3 => ?_) (fun q3 => ?_)
  · replace h := h.1 q3
    exact J_vret cx dX5_sendTo_37 h
  · replace h := h.2 q3
    refine J_aload_n cx 0 dX5_sendTo_17 rfl rfl ?_
    refine J_getR cx (j := 280) dX5_sendTo_18 F_X5_19 (by decide) rfl rfl rfl ?_
    refine J_bipush cx dX5_sendTo_21 (by decide : _ = ((nI 40) : Int32)) ?_
    refine J_iconst cx dX5_sendTo_23 (by decide : _ = ((nI 5) : Int32)) ?_
    refine J_iload_n cx 1 dX5_sendTo_24 rfl rfl ?_
    refine J_imul cx dX5_sendTo_25 ?_
    refine J_iadd cx dX5_sendTo_26 ?_
    refine J_iload_n cx 3 dX5_sendTo_27 rfl rfl ?_
    refine J_iadd cx dX5_sendTo_28 ?_
    refine J_iconst cx dX5_sendTo_29 (by decide : _ = ((nI 0) : Int32)) ?_
    obtain ⟨s4, h⟩ := h
    refine J_iast cx dX5_sendTo_30 (by decide) rfl s4 ?_
    refine J_nm (fun τ5 e_τ5 => ?_)
    replace h := h τ5 e_τ5
    refine J_iinc cx dX5_sendTo_31 rfl (by decide : _ = ((nI 1) : Int32)) (by decide) rfl rfl ?_
    refine J_goto cx (tgt := 12) dX5_sendTo_34 (by decide) ?_
    exact hK12   _ _ _ h
def wp_X5_sendTo (a0 : Int32) (a1 : Int32) (σ : PI) (Q : PI → Prop) : Prop := vp_in ((nI 22) + a0) 70 ∧ (∀ τ2 : PI, τ2 = up σ 280 (((nI 22) + a0) : Int32).toNatClampNeg a1 → (w_X5_sendTo_12   Q a0 (nI 0) τ2))
set_option maxRecDepth 100000 in
set_option maxHeartbeats 4000000 in
theorem ct_X5_sendTo {l : Launch} {X : XP} (a0 : Int32) (a1 : Int32) (σ : PI) (Q : PI → Prop) (h : wp_X5_sendTo  a0 a1 σ Q) : Ct l yX5_sendTo cX5_sendTo 4 none 0 X [.ref (X.1 276), .int a0, .int a1] σ (qV Q) := by
  refine Ct_of (L := [some (.ref (X.1 276)), some (.int a0), some (.int a1), none]) (by decide) (Nat.le_of_ble_eq_true rfl) rfl (fun M hl cx => ?_)
  subst hl
  unfold wp_X5_sendTo at h
  refine J_aload_n cx 0 dX5_sendTo_0 rfl rfl ?_
  refine J_getR cx (j := 280) dX5_sendTo_1 F_X5_19 (by decide) rfl rfl rfl ?_
  refine J_bipush cx dX5_sendTo_4 (by decide : _ = ((nI 22) : Int32)) ?_
  refine J_iload_n cx 1 dX5_sendTo_6 rfl rfl ?_
  refine J_iadd cx dX5_sendTo_7 ?_
  refine J_iload_n cx 2 dX5_sendTo_8 rfl rfl ?_
  obtain ⟨s1, h⟩ := h
  refine J_iast cx dX5_sendTo_9 (by decide) rfl s1 ?_
  refine J_nm (fun τ2 e_τ2 => ?_)
  replace h := h τ2 e_τ2
  refine J_iconst cx dX5_sendTo_10 (by decide : _ = ((nI 0) : Int32)) ?_
  refine J_istore_n cx 3 dX5_sendTo_11 rfl (by decide) rfl rfl ?_
  refine J_fg 2 rfl ?_
  exact j_X5_sendTo_12     cx   _ _ _ h
def B_X5_note_51 (K51 : (Int32 × PI → Prop)) (Q : PI → Prop) (l1 : Int32) (σ : PI) : Prop := ((nI 70) ≤ l1 → ∀ τ8 : PI, τ8 = up σ 276 19 ((σ 276 19) + (nI 1)) → (Q τ8)) ∧ (¬ (nI 70) ≤ l1 → vp_in l1 70 ∧ (vp_in (((nI 70) * (σ 276 19)) + l1) 1680 ∧ (∀ τ11 : PI, τ11 = up σ 284 ((((nI 70) * (σ 276 19)) + l1) : Int32).toNatClampNeg (σ 280 (l1 : Int32).toNatClampNeg) → (K51 ((l1 + (nI 1)), τ11)))))
def w_X5_note_51 (Q : PI → Prop) (l1 : Int32) (σ : PI) : Prop := ∃ n, Lp (fun K a => B_X5_note_51   K Q a.1 a.2) n (l1, σ)
set_option maxRecDepth 100000 in
set_option maxHeartbeats 4000000 in
theorem j_X5_note_51 {M : MC} {X : XP} {Q : PI → Prop} (cx : Cx M X RX5 cX5_note 2 none 0) (l1 : Int32) (σ : PI) (h : w_X5_note_51   Q l1 σ) : J M X (QF M X (qV Q)) σ 51 [some (.ref (X.1 276)), some (.int l1)] [] := by
  refine Lp_J (P := fun (a : Int32 × PI) => J M X (QF M X (qV Q)) (a.2) 51 [some (.ref (X.1 276)), some (.int a.1)] []) (fun K51 hK a h => ?_) h
  obtain ⟨l1, σ⟩ := a
  have hK51 : ∀ (l1 : Int32) (σ : PI), K51 (l1, σ) → J M X (QF M X (qV Q)) σ 51 [some (.ref (X.1 276)), some (.int l1)] [] := fun l1 σ q => hK _ q
  replace h : B_X5_note_51   K51 Q l1 σ := h
  show J M X (QF M X (qV Q)) σ 51 [some (.ref (X.1 276)), some (.int l1)] []
  unfold B_X5_note_51 at h
  refine J_iload_n cx 1 dX5_note_51 rfl rfl ?_
  refine J_bipush cx dX5_note_52 (by decide : _ = ((nI 70) : Int32)) ?_
  refine J_icmp_ge cx (tgt := 83) dX5_note_54 (by decide) (fun q7 => ?_) (fun q7 => ?_)
  · replace h := h.1 q7
    refine J_aload_n cx 0 dX5_note_83 rfl rfl ?_
    refine J_dup cx dX5_note_84 rfl ?_
    refine J_getI cx dX5_note_85 F_X5_139 (by decide) rfl rfl ?_
    refine J_iconst cx dX5_note_88 (by decide : _ = ((nI 1) : Int32)) ?_
    refine J_iadd cx dX5_note_89 ?_
    refine J_putI cx dX5_note_90 (P_X5_139 _) (by decide) rfl rfl ?_
    refine J_nm (fun τ8 e_τ8 => ?_)
    replace h := h τ8 e_τ8
    exact J_vret cx dX5_note_93 h
  · replace h := h.2 q7
    refine J_aload_n cx 0 dX5_note_57 rfl rfl ?_
    refine J_getR cx (j := 284) dX5_note_58 F_X5_31 (by decide) rfl rfl rfl ?_
    refine J_bipush cx dX5_note_61 (by decide : _ = ((nI 70) : Int32)) ?_
    refine J_aload_n cx 0 dX5_note_63 rfl rfl ?_
    refine J_getI cx dX5_note_64 F_X5_139 (by decide) rfl rfl ?_
    refine J_imul cx dX5_note_67 ?_
    refine J_iload_n cx 1 dX5_note_68 rfl rfl ?_
    refine J_iadd cx dX5_note_69 ?_
    refine J_aload_n cx 0 dX5_note_70 rfl rfl ?_
    refine J_getR cx (j := 280) dX5_note_71 F_X5_19 (by decide) rfl rfl rfl ?_
    refine J_iload_n cx 1 dX5_note_74 rfl rfl ?_
    obtain ⟨s9, h⟩ := h
    refine J_iald cx dX5_note_75 (by decide) rfl s9 ?_
    obtain ⟨s10, h⟩ := h
    refine J_iast cx dX5_note_76 (by decide) rfl s10 ?_
    refine J_nm (fun τ11 e_τ11 => ?_)
    replace h := h τ11 e_τ11
    refine J_iinc cx dX5_note_77 rfl (by decide : _ = ((nI 1) : Int32)) (by decide) rfl rfl ?_
    refine J_goto cx (tgt := 51) dX5_note_80 (by decide) ?_
    exact hK51   _ _ h
def w_X5_note_49 (Q : PI → Prop) (σ : PI) : Prop := w_X5_note_51   Q (nI 0) σ
set_option maxRecDepth 100000 in
set_option maxHeartbeats 4000000 in
theorem j_X5_note_49 {M : MC} {X : XP} {Q : PI → Prop} (cx : Cx M X RX5 cX5_note 2 none 0) (σ : PI) (h : w_X5_note_49   Q  σ) : J M X (QF M X (qV Q)) σ 49 [some (.ref (X.1 276)), none] [] := by
  unfold w_X5_note_49 at h
  refine J_iconst cx dX5_note_49 (by decide : _ = ((nI 0) : Int32)) ?_
  refine J_istore_n cx 1 dX5_note_50 rfl (by decide) rfl rfl ?_
  exact j_X5_note_51     cx   _ _ h
def B_X5_note_11 (K11 : (Int32 × PI → Prop)) (Q : PI → Prop) (l1 : Int32) (σ : PI) : Prop := ((nI 1610) ≤ l1 → ∀ τ3 : PI, τ3 = up σ 276 19 ((σ 276 19) - (nI 1)) → (w_X5_note_49   Q  τ3)) ∧ (¬ (nI 1610) ≤ l1 → vp_in (l1 + (nI 70)) 1680 ∧ (vp_in l1 1680 ∧ (∀ τ6 : PI, τ6 = up σ 284 (l1 : Int32).toNatClampNeg (σ 284 ((l1 + (nI 70)) : Int32).toNatClampNeg) → (K11 ((l1 + (nI 1)), τ6)))))
def w_X5_note_11 (Q : PI → Prop) (l1 : Int32) (σ : PI) : Prop := ∃ n, Lp (fun K a => B_X5_note_11   K Q a.1 a.2) n (l1, σ)
set_option maxRecDepth 100000 in
set_option maxHeartbeats 4000000 in
theorem j_X5_note_11 {M : MC} {X : XP} {Q : PI → Prop} (cx : Cx M X RX5 cX5_note 2 none 0) (l1 : Int32) (σ : PI) (h : w_X5_note_11   Q l1 σ) : J M X (QF M X (qV Q)) σ 11 [some (.ref (X.1 276)), some (.int l1)] [] := by
  refine Lp_J (P := fun (a : Int32 × PI) => J M X (QF M X (qV Q)) (a.2) 11 [some (.ref (X.1 276)), some (.int a.1)] []) (fun K11 hK a h => ?_) h
  obtain ⟨l1, σ⟩ := a
  have hK11 : ∀ (l1 : Int32) (σ : PI), K11 (l1, σ) → J M X (QF M X (qV Q)) σ 11 [some (.ref (X.1 276)), some (.int l1)] [] := fun l1 σ q => hK _ q
  replace h : B_X5_note_11   K11 Q l1 σ := h
  show J M X (QF M X (qV Q)) σ 11 [some (.ref (X.1 276)), some (.int l1)] []
  unfold B_X5_note_11 at h
  refine J_iload_n cx 1 dX5_note_11 rfl rfl ?_
  refine J_sipush cx dX5_note_12 (by decide : _ = ((nI 1610) : Int32)) ?_
  refine J_icmp_ge cx (tgt := 39) dX5_note_15 (by decide) (fun q2 => ?_) (fun q2 => ?_)
  · replace h := h.1 q2
    refine J_aload_n cx 0 dX5_note_39 rfl rfl ?_
    refine J_dup cx dX5_note_40 rfl ?_
    refine J_getI cx dX5_note_41 F_X5_139 (by decide) rfl rfl ?_
    refine J_iconst cx dX5_note_44 (by decide : _ = ((nI 1) : Int32)) ?_
    refine J_isub cx dX5_note_45 ?_
    refine J_putI cx dX5_note_46 (P_X5_139 _) (by decide) rfl rfl ?_
    refine J_nm (fun τ3 e_τ3 => ?_)
    replace h := h τ3 e_τ3
    refine J_fg 1 rfl ?_
    exact j_X5_note_49     cx   _ h
  · replace h := h.2 q2
    refine J_aload_n cx 0 dX5_note_18 rfl rfl ?_
    refine J_getR cx (j := 284) dX5_note_19 F_X5_31 (by decide) rfl rfl rfl ?_
    refine J_iload_n cx 1 dX5_note_22 rfl rfl ?_
    refine J_aload_n cx 0 dX5_note_23 rfl rfl ?_
    refine J_getR cx (j := 284) dX5_note_24 F_X5_31 (by decide) rfl rfl rfl ?_
    refine J_iload_n cx 1 dX5_note_27 rfl rfl ?_
    refine J_bipush cx dX5_note_28 (by decide : _ = ((nI 70) : Int32)) ?_
    refine J_iadd cx dX5_note_30 ?_
    obtain ⟨s4, h⟩ := h
    refine J_iald cx dX5_note_31 (by decide) rfl s4 ?_
    obtain ⟨s5, h⟩ := h
    refine J_iast cx dX5_note_32 (by decide) rfl s5 ?_
    refine J_nm (fun τ6 e_τ6 => ?_)
    replace h := h τ6 e_τ6
    refine J_iinc cx dX5_note_33 rfl (by decide : _ = ((nI 1) : Int32)) (by decide) rfl rfl ?_
    refine J_goto cx (tgt := 11) dX5_note_36 (by decide) ?_
    exact hK11   _ _ h
def wp_X5_note (σ : PI) (Q : PI → Prop) : Prop := (¬ (σ 276 19) = (nI 24) → w_X5_note_49   Q  σ) ∧ ((σ 276 19) = (nI 24) → w_X5_note_11   Q (nI 0) σ)
set_option maxRecDepth 100000 in
set_option maxHeartbeats 4000000 in
theorem ct_X5_note {l : Launch} {X : XP} (σ : PI) (Q : PI → Prop) (h : wp_X5_note   σ Q) : Ct l yX5_note cX5_note 2 none 0 X [.ref (X.1 276)] σ (qV Q) := by
  refine Ct_of (L := [some (.ref (X.1 276)), none]) (by decide) (Nat.le_of_ble_eq_true rfl) rfl (fun M hl cx => ?_)
  subst hl
  unfold wp_X5_note at h
  refine J_aload_n cx 0 dX5_note_0 rfl rfl ?_
  refine J_getI cx dX5_note_1 F_X5_139 (by decide) rfl rfl ?_
  refine J_bipush cx dX5_note_4 (by decide : _ = ((nI 24) : Int32)) ?_
  refine J_icmp_ne cx (tgt := 49) dX5_note_6 (by decide) (fun q1 => ?_) (fun q1 => ?_)
  · replace h := h.1 q1
    exact j_X5_note_49     cx   _ h
  · replace h := h.2 q1
    refine J_iconst cx dX5_note_9 (by decide : _ = ((nI 0) : Int32)) ?_
    refine J_istore_n cx 1 dX5_note_10 rfl (by decide) rfl rfl ?_
    exact j_X5_note_11     cx   _ _ h
def B_X5_undo_22 (K22 : (Int32 × PI → Prop)) (Q : Int32 → PI → Prop) (l1 : Int32) (σ : PI) : Prop := ((nI 70) ≤ l1 → Q (σ 276 19) σ) ∧ (¬ (nI 70) ≤ l1 → vp_in (((nI 70) * (σ 276 19)) + l1) 1680 ∧ (vp_in l1 70 ∧ (∀ τ6 : PI, τ6 = up σ 280 (l1 : Int32).toNatClampNeg (σ 284 ((((nI 70) * (σ 276 19)) + l1) : Int32).toNatClampNeg) → (K22 ((l1 + (nI 1)), τ6)))))
def w_X5_undo_22 (Q : Int32 → PI → Prop) (l1 : Int32) (σ : PI) : Prop := ∃ n, Lp (fun K a => B_X5_undo_22   K Q a.1 a.2) n (l1, σ)
set_option maxRecDepth 100000 in
set_option maxHeartbeats 4000000 in
theorem j_X5_undo_22 {M : MC} {X : XP} {Q : Int32 → PI → Prop} (cx : Cx M X RX5 cX5_undo 2 (some .int) 0) (l1 : Int32) (σ : PI) (h : w_X5_undo_22   Q l1 σ) : J M X (QF M X (qI Q)) σ 22 [some (.ref (X.1 276)), some (.int l1)] [] := by
  refine Lp_J (P := fun (a : Int32 × PI) => J M X (QF M X (qI Q)) (a.2) 22 [some (.ref (X.1 276)), some (.int a.1)] []) (fun K22 hK a h => ?_) h
  obtain ⟨l1, σ⟩ := a
  have hK22 : ∀ (l1 : Int32) (σ : PI), K22 (l1, σ) → J M X (QF M X (qI Q)) σ 22 [some (.ref (X.1 276)), some (.int l1)] [] := fun l1 σ q => hK _ q
  replace h : B_X5_undo_22   K22 Q l1 σ := h
  show J M X (QF M X (qI Q)) σ 22 [some (.ref (X.1 276)), some (.int l1)] []
  unfold B_X5_undo_22 at h
  refine J_iload_n cx 1 dX5_undo_22 rfl rfl ?_
  refine J_bipush cx dX5_undo_23 (by decide : _ = ((nI 70) : Int32)) ?_
  refine J_icmp_ge cx (tgt := 54) dX5_undo_25 (by decide) (fun q3 => ?_) (fun q3 => ?_)
  · replace h := h.1 q3
    refine J_aload_n cx 0 dX5_undo_54 rfl rfl ?_
    refine J_getI cx dX5_undo_55 F_X5_139 (by decide) rfl rfl ?_
    exact J_iret cx dX5_undo_58 h
  · replace h := h.2 q3
    refine J_aload_n cx 0 dX5_undo_28 rfl rfl ?_
    refine J_getR cx (j := 280) dX5_undo_29 F_X5_19 (by decide) rfl rfl rfl ?_
    refine J_iload_n cx 1 dX5_undo_32 rfl rfl ?_
    refine J_aload_n cx 0 dX5_undo_33 rfl rfl ?_
    refine J_getR cx (j := 284) dX5_undo_34 F_X5_31 (by decide) rfl rfl rfl ?_
    refine J_bipush cx dX5_undo_37 (by decide : _ = ((nI 70) : Int32)) ?_
    refine J_aload_n cx 0 dX5_undo_39 rfl rfl ?_
    refine J_getI cx dX5_undo_40 F_X5_139 (by decide) rfl rfl ?_
    refine J_imul cx dX5_undo_43 ?_
    refine J_iload_n cx 1 dX5_undo_44 rfl rfl ?_
    refine J_iadd cx dX5_undo_45 ?_
    obtain ⟨s4, h⟩ := h
    refine J_iald cx dX5_undo_46 (by decide) rfl s4 ?_
    obtain ⟨s5, h⟩ := h
    refine J_iast cx dX5_undo_47 (by decide) rfl s5 ?_
    refine J_nm (fun τ6 e_τ6 => ?_)
    replace h := h τ6 e_τ6
    refine J_iinc cx dX5_undo_48 rfl (by decide : _ = ((nI 1) : Int32)) (by decide) rfl rfl ?_
    refine J_goto cx (tgt := 22) dX5_undo_51 (by decide) ?_
    exact hK22   _ _ h
def wp_X5_undo (σ : PI) (Q : Int32 → PI → Prop) : Prop := (¬ (σ 276 19) = (nI 0) → ∀ τ2 : PI, τ2 = up σ 276 19 ((σ 276 19) - (nI 1)) → (w_X5_undo_22   Q (nI 0) τ2)) ∧ ((σ 276 19) = (nI 0) → Q (-1000002) σ)
set_option maxRecDepth 100000 in
set_option maxHeartbeats 4000000 in
theorem ct_X5_undo {l : Launch} {X : XP} (σ : PI) (Q : Int32 → PI → Prop) (h : wp_X5_undo   σ Q) : Ct l yX5_undo cX5_undo 2 (some .int) 0 X [.ref (X.1 276)] σ (qI Q) := by
  refine Ct_of (L := [some (.ref (X.1 276)), none]) (by decide) (Nat.le_of_ble_eq_true rfl) rfl (fun M hl cx => ?_)
  subst hl
  unfold wp_X5_undo at h
  refine J_aload_n cx 0 dX5_undo_0 rfl rfl ?_
  refine J_getI cx dX5_undo_1 F_X5_139 (by decide) rfl rfl ?_
  refine J_if_ne cx (tgt := 10) dX5_undo_4 (by decide) (fun q1 => ?_) (fun q1 => ?_)
  · replace h := h.1 q1
    refine J_aload_n cx 0 dX5_undo_10 rfl rfl ?_
    refine J_dup cx dX5_undo_11 rfl ?_
    refine J_getI cx dX5_undo_12 F_X5_139 (by decide) rfl rfl ?_
    refine J_iconst cx dX5_undo_15 (by decide : _ = ((nI 1) : Int32)) ?_
    refine J_isub cx dX5_undo_16 ?_
    refine J_putI cx dX5_undo_17 (P_X5_139 _) (by decide) rfl rfl ?_
    refine J_nm (fun τ2 e_τ2 => ?_)
    replace h := h τ2 e_τ2
    refine J_iconst cx dX5_undo_20 (by decide : _ = ((nI 0) : Int32)) ?_
    refine J_istore_n cx 1 dX5_undo_21 rfl (by decide) rfl rfl ?_
    exact j_X5_undo_22     cx   _ _ h
  · replace h := h.2 q1
    refine J_ldc cx (v := (-1000002)) dX5_undo_7 gw_822 ?_
    exact J_iret cx dX5_undo_9 h
def B_X5_days_44 (K44 : (Int32 × Int32 × PI → Prop)) (Q : Int32 → PI → Prop) (l1 : Int32) (l2 : Int32) (σ : PI) : Prop := (l1 ≤ l2 → wp_X5_allFeel  σ (fun r8 τ7 => (Q r8 τ7))) ∧ (¬ l1 ≤ l2 → wp_X5_note  σ (fun τ9 => (wp_X5_oneDay  τ9 (fun τ10 => (K44 (l1, (l2 + (nI 1)), τ10))))))
def w_X5_days_44 (Q : Int32 → PI → Prop) (l1 : Int32) (l2 : Int32) (σ : PI) : Prop := ∃ n, Lp (fun K a => B_X5_days_44   K Q a.1 a.2.1 a.2.2) n (l1, l2, σ)
set_option maxRecDepth 100000 in
set_option maxHeartbeats 4000000 in
theorem j_X5_days_44 {M : MC} {X : XP} {Q : Int32 → PI → Prop} (cx : Cx M X RX5 cX5_days 3 (some .int) 5) (l1 : Int32) (l2 : Int32) (σ : PI) (h : w_X5_days_44   Q l1 l2 σ) : J M X (QF M X (qI Q)) σ 44 [some (.ref (X.1 276)), some (.int l1), some (.int l2)] [] := by
  refine Lp_J (P := fun (a : Int32 × Int32 × PI) => J M X (QF M X (qI Q)) (a.2.2) 44 [some (.ref (X.1 276)), some (.int a.1), some (.int a.2.1)] []) (fun K44 hK a h => ?_) h
  obtain ⟨l1, l2, σ⟩ := a
  have hK44 : ∀ (l1 : Int32) (l2 : Int32) (σ : PI), K44 (l1, l2, σ) → J M X (QF M X (qI Q)) σ 44 [some (.ref (X.1 276)), some (.int l1), some (.int l2)] [] := fun l1 l2 σ q => hK _ q
  replace h : B_X5_days_44   K44 Q l1 l2 σ := h
  show J M X (QF M X (qI Q)) σ 44 [some (.ref (X.1 276)), some (.int l1), some (.int l2)] []
  unfold B_X5_days_44 at h
  refine J_iload_n cx 2 dX5_days_44 rfl rfl ?_
  refine J_iload_n cx 1 dX5_days_45 rfl rfl ?_
  refine J_icmp_ge cx (tgt := 63) dX5_days_46 (by decide) (fun q6 => ?_) (fun q6 => ?_)
  · replace h := h.1 q6
    refine J_aload_n cx 0 dX5_days_63 rfl rfl ?_
    refine J_cV cx dX5_days_64 V_X5_176 (by decide) (by decide) rfl (ct_X5_allFeel    _ _ h) rfl rfl (Nat.le_of_ble_eq_true rfl) (k_i (fun r8 τ7 h => ?_))
    exact J_iret cx dX5_days_67 h
  · replace h := h.2 q6
    refine J_aload_n cx 0 dX5_days_49 rfl rfl ?_
    refine J_cV cx dX5_days_50 V_X5_170 (by decide) (by decide) rfl (ct_X5_note    _ _ h) rfl rfl (Nat.le_of_ble_eq_true rfl) (k_v (fun τ9 h => ?_))
    refine J_aload_n cx 0 dX5_days_53 rfl rfl ?_
    refine J_cV cx dX5_days_54 V_X5_173 (by decide) (by decide) rfl (ct_X5_oneDay    _ _ h) rfl rfl (Nat.le_of_ble_eq_true rfl) (k_v (fun τ10 h => ?_))
    refine J_iinc cx dX5_days_57 rfl (by decide : _ = ((nI 1) : Int32)) (by decide) rfl rfl ?_
    refine J_goto cx (tgt := 44) dX5_days_60 (by decide) ?_
    exact hK44   _ _ _ h
def wp_X5_days (a0 : Int32) (σ : PI) (Q : Int32 → PI → Prop) : Prop := (¬ (σ 276 4) = (nI 0) → wp_X5_in (a0 : Int32).toInt64 (lN 1) (lN 24) σ (fun r3 τ2 => ((¬ r3 = (nI 0) → (((τ2 280 4) + a0) ≤ (nI 999) → w_X5_days_44   Q a0 (nI 0) τ2) ∧ (¬ ((τ2 280 4) + a0) ≤ (nI 999) → Q (-1000003) τ2)) ∧ (r3 = (nI 0) → Q (-1000001) τ2)))) ∧ ((σ 276 4) = (nI 0) → Q (-1000002) σ)
set_option maxRecDepth 100000 in
set_option maxHeartbeats 4000000 in
theorem ct_X5_days {l : Launch} {X : XP} (a0 : Int32) (σ : PI) (Q : Int32 → PI → Prop) (h : wp_X5_days  a0 σ Q) : Ct l yX5_days cX5_days 3 (some .int) 5 X [.ref (X.1 276), .int a0] σ (qI Q) := by
  refine Ct_of (L := [some (.ref (X.1 276)), some (.int a0), none]) (by decide) (Nat.le_of_ble_eq_true rfl) rfl (fun M hl cx => ?_)
  subst hl
  unfold wp_X5_days at h
  refine J_aload_n cx 0 dX5_days_0 rfl rfl ?_
  refine J_getI cx dX5_days_1 F_X5_135 (by decide) rfl rfl ?_
  refine J_if_ne cx (tgt := 10) dX5_days_4 (by decide) (fun q1 => ?_) (fun q1 => ?_)
  · replace h := h.1 q1
    refine J_iload_n cx 1 dX5_days_10 rfl rfl ?_
    refine J_i2l cx dX5_days_11 ?_
    refine J_lconst cx dX5_days_12 (by decide : _ = ((lN 1) : Int64)) ?_
    refine J_ldc2 cx (v := (lN 24)) dX5_days_13 gw_827 ?_
    refine J_cS cx dX5_days_16 S_X5_54 (by decide) (ct_X5_in   _ _ _ _ _ h) rfl rfl (Nat.le_of_ble_eq_true rfl) (k_i (fun r3 τ2 h => ?_))
    refine J_if_ne cx (tgt := 25) dX5_days_19 (by decide) (fun q4 => ?_) (fun q4 => ?_)
    · replace h := h.1 q4
      refine J_aload_n cx 0 dX5_days_25 rfl rfl ?_
      refine J_getR cx (j := 280) dX5_days_26 F_X5_19 (by decide) rfl rfl rfl ?_
      refine J_iconst cx dX5_days_29 (by decide : _ = ((nI 4) : Int32)) ?_
      refine J_iald cx dX5_days_30 (by decide) rfl (vpl (by decide)) ?_
      refine J_iload_n cx 1 dX5_days_31 rfl rfl ?_
      refine J_iadd cx dX5_days_32 ?_
      refine J_sipush cx dX5_days_33 (by decide : _ = ((nI 999) : Int32)) ?_
      refine J_icmp_le cx (tgt := 42) dX5_days_36 (by decide) (fun q5 => ?_) (fun q5 => ?_)
      · replace h := h.1 q5
        refine J_iconst cx dX5_days_42 (by decide : _ = ((nI 0) : Int32)) ?_
        refine J_istore_n cx 2 dX5_days_43 rfl (by decide) rfl rfl ?_
        exact j_X5_days_44     cx   _ _ _ h
      · replace h := h.2 q5
        refine J_ldc cx (v := (-1000003)) dX5_days_39 gw_772 ?_
        exact J_iret cx dX5_days_41 h
    · replace h := h.2 q4
      refine J_ldc cx (v := (-1000001)) dX5_days_22 gw_742 ?_
      exact J_iret cx dX5_days_24 h
  · replace h := h.2 q1
    refine J_ldc cx (v := (-1000002)) dX5_days_7 gw_822 ?_
    exact J_iret cx dX5_days_9 h
def wp_X5_send (a0 : Int32) (a1 : Int32) (σ : PI) (Q : Int32 → PI → Prop) : Prop := wp_X5_isLeaver a0 σ (fun r2 τ1 => ((r2 = (nI 0) → Q (-1000001) τ1) ∧ (¬ r2 = (nI 0) → wp_X5_isMan a1 τ1 (fun r5 τ4 => ((¬ r5 = (nI 0) → wp_X5_note  τ4 (fun τ7 => (vp_in ((nI 22) + a0) 70 ∧ (∀ x9 : Int32, x9 = (τ7 280 (((nI 22) + a0) : Int32).toNatClampNeg) → (wp_X5_sendTo a0 a1 τ7 (fun τ10 => (Q x9 τ10))))))) ∧ (r5 = (nI 0) → Q (-1000001) τ4))))))
set_option maxRecDepth 100000 in
set_option maxHeartbeats 4000000 in
theorem ct_X5_send {l : Launch} {X : XP} (a0 : Int32) (a1 : Int32) (σ : PI) (Q : Int32 → PI → Prop) (h : wp_X5_send  a0 a1 σ Q) : Ct l yX5_send cX5_send 4 (some .int) 2 X [.ref (X.1 276), .int a0, .int a1] σ (qI Q) := by
  refine Ct_of (L := [some (.ref (X.1 276)), some (.int a0), some (.int a1), none]) (by decide) (Nat.le_of_ble_eq_true rfl) rfl (fun M hl cx => ?_)
  subst hl
  unfold wp_X5_send at h
  refine J_aload_n cx 0 dX5_send_0 rfl rfl ?_
  refine J_iload_n cx 1 dX5_send_1 rfl rfl ?_
  refine J_cV cx dX5_send_2 V_X5_180 (by decide) (by decide) rfl (ct_X5_isLeaver   _ _ _ h) rfl rfl (Nat.le_of_ble_eq_true rfl) (k_i (fun r2 τ1 h => ?_))
  refine J_if_eq cx (tgt := 16) dX5_send_5 (by decide) (fun q3 => ?_) (fun q3 => ?_)
  · replace h := h.1 q3
    refine J_ldc cx (v := (-1000001)) dX5_send_16 gw_742 ?_
    exact J_iret cx dX5_send_18 h
  · replace h := h.2 q3
    refine J_aload_n cx 0 dX5_send_8 rfl rfl ?_
    refine J_iload_n cx 2 dX5_send_9 rfl rfl ?_
    refine J_cV cx dX5_send_10 V_X5_183 (by decide) (by decide) rfl (ct_X5_isMan   _ _ _ h) rfl rfl (Nat.le_of_ble_eq_true rfl) (k_i (fun r5 τ4 h => ?_))
    refine J_if_ne cx (tgt := 19) dX5_send_13 (by decide) (fun q6 => ?_) (fun q6 => ?_)
    · replace h := h.1 q6
      refine J_aload_n cx 0 dX5_send_19 rfl rfl ?_
      refine J_cV cx dX5_send_20 V_X5_170 (by decide) (by decide) rfl (ct_X5_note    _ _ h) rfl rfl (Nat.le_of_ble_eq_true rfl) (k_v (fun τ7 h => ?_))
      refine J_aload_n cx 0 dX5_send_23 rfl rfl ?_
      refine J_getR cx (j := 280) dX5_send_24 F_X5_19 (by decide) rfl rfl rfl ?_
      refine J_bipush cx dX5_send_27 (by decide : _ = ((nI 22) : Int32)) ?_
      refine J_iload_n cx 1 dX5_send_29 rfl rfl ?_
      refine J_iadd cx dX5_send_30 ?_
      obtain ⟨s8, h⟩ := h
      refine J_iald cx dX5_send_31 (by decide) rfl s8 ?_
      refine J_topi (fun x9 e_x9 => ?_)
      replace h := h x9 e_x9
      refine J_istore_n cx 3 dX5_send_32 rfl (by decide) rfl rfl ?_
      refine J_aload_n cx 0 dX5_send_33 rfl rfl ?_
      refine J_iload_n cx 1 dX5_send_34 rfl rfl ?_
      refine J_iload_n cx 2 dX5_send_35 rfl rfl ?_
      refine J_cV cx dX5_send_36 V_X5_186 (by decide) (by decide) rfl (ct_X5_sendTo   _ _ _ _ h) rfl rfl (Nat.le_of_ble_eq_true rfl) (k_v (fun τ10 h => ?_))
      refine J_iload_n cx 3 dX5_send_39 rfl rfl ?_
      exact J_iret cx dX5_send_40 h
    · replace h := h.2 q6
      refine J_ldc cx (v := (-1000001)) dX5_send_16 gw_742 ?_
      exact J_iret cx dX5_send_18 h
def wp_X5_weight (a0 : Int32) (a1 : Int32) (σ : PI) (Q : Int32 → PI → Prop) : Prop := wp_X5_isLeaver a0 σ (fun r2 τ1 => ((r2 = (nI 0) → Q (-1000001) τ1) ∧ (¬ r2 = (nI 0) → wp_X5_in (a1 : Int32).toInt64 (lN 1) (lN 9) τ1 (fun r5 τ4 => ((¬ r5 = (nI 0) → wp_X5_note  τ4 (fun τ7 => (vp_in ((nI 28) + a0) 70 ∧ (∀ x9 : Int32, x9 = (τ7 280 (((nI 28) + a0) : Int32).toNatClampNeg) → (vp_in ((nI 28) + a0) 70 ∧ (∀ τ11 : PI, τ11 = up τ7 280 (((nI 28) + a0) : Int32).toNatClampNeg a1 → (Q x9 τ11))))))) ∧ (r5 = (nI 0) → Q (-1000001) τ4))))))
set_option maxRecDepth 100000 in
set_option maxHeartbeats 4000000 in
theorem ct_X5_weight {l : Launch} {X : XP} (a0 : Int32) (a1 : Int32) (σ : PI) (Q : Int32 → PI → Prop) (h : wp_X5_weight  a0 a1 σ Q) : Ct l yX5_weight cX5_weight 4 (some .int) 2 X [.ref (X.1 276), .int a0, .int a1] σ (qI Q) := by
  refine Ct_of (L := [some (.ref (X.1 276)), some (.int a0), some (.int a1), none]) (by decide) (Nat.le_of_ble_eq_true rfl) rfl (fun M hl cx => ?_)
  subst hl
  unfold wp_X5_weight at h
  refine J_aload_n cx 0 dX5_weight_0 rfl rfl ?_
  refine J_iload_n cx 1 dX5_weight_1 rfl rfl ?_
  refine J_cV cx dX5_weight_2 V_X5_180 (by decide) (by decide) rfl (ct_X5_isLeaver   _ _ _ h) rfl rfl (Nat.le_of_ble_eq_true rfl) (k_i (fun r2 τ1 h => ?_))
  refine J_if_eq cx (tgt := 20) dX5_weight_5 (by decide) (fun q3 => ?_) (fun q3 => ?_)
  · replace h := h.1 q3
    refine J_ldc cx (v := (-1000001)) dX5_weight_20 gw_742 ?_
    exact J_iret cx dX5_weight_22 h
  · replace h := h.2 q3
    refine J_iload_n cx 2 dX5_weight_8 rfl rfl ?_
    refine J_i2l cx dX5_weight_9 ?_
    refine J_lconst cx dX5_weight_10 (by decide : _ = ((lN 1) : Int64)) ?_
    refine J_ldc2 cx (v := (lN 9)) dX5_weight_11 gw_883 ?_
    refine J_cS cx dX5_weight_14 S_X5_54 (by decide) (ct_X5_in   _ _ _ _ _ h) rfl rfl (Nat.le_of_ble_eq_true rfl) (k_i (fun r5 τ4 h => ?_))
    refine J_if_ne cx (tgt := 23) dX5_weight_17 (by decide) (fun q6 => ?_) (fun q6 => ?_)
    · replace h := h.1 q6
      refine J_aload_n cx 0 dX5_weight_23 rfl rfl ?_
      refine J_cV cx dX5_weight_24 V_X5_170 (by decide) (by decide) rfl (ct_X5_note    _ _ h) rfl rfl (Nat.le_of_ble_eq_true rfl) (k_v (fun τ7 h => ?_))
      refine J_aload_n cx 0 dX5_weight_27 rfl rfl ?_
      refine J_getR cx (j := 280) dX5_weight_28 F_X5_19 (by decide) rfl rfl rfl ?_
      refine J_bipush cx dX5_weight_31 (by decide : _ = ((nI 28) : Int32)) ?_
      refine J_iload_n cx 1 dX5_weight_33 rfl rfl ?_
      refine J_iadd cx dX5_weight_34 ?_
      obtain ⟨s8, h⟩ := h
      refine J_iald cx dX5_weight_35 (by decide) rfl s8 ?_
      refine J_topi (fun x9 e_x9 => ?_)
      replace h := h x9 e_x9
      refine J_istore_n cx 3 dX5_weight_36 rfl (by decide) rfl rfl ?_
      refine J_aload_n cx 0 dX5_weight_37 rfl rfl ?_
      refine J_getR cx (j := 280) dX5_weight_38 F_X5_19 (by decide) rfl rfl rfl ?_
      refine J_bipush cx dX5_weight_41 (by decide : _ = ((nI 28) : Int32)) ?_
      refine J_iload_n cx 1 dX5_weight_43 rfl rfl ?_
      refine J_iadd cx dX5_weight_44 ?_
      refine J_iload_n cx 2 dX5_weight_45 rfl rfl ?_
      obtain ⟨s10, h⟩ := h
      refine J_iast cx dX5_weight_46 (by decide) rfl s10 ?_
      refine J_nm (fun τ11 e_τ11 => ?_)
      replace h := h τ11 e_τ11
      refine J_iload_n cx 3 dX5_weight_47 rfl rfl ?_
      exact J_iret cx dX5_weight_48 h
    · replace h := h.2 q6
      refine J_ldc cx (v := (-1000001)) dX5_weight_20 gw_742 ?_
      exact J_iret cx dX5_weight_22 h
def w_X5_bar_41 (Q : Int32 → PI → Prop) (l1 : Int32) (s0 : Int32) (s1 : Int32) (σ : PI) : Prop := (¬ s1 = s0 → wp_X5_note  σ (fun τ11 => (∀ τ12 : PI, τ12 = up τ11 280 5 ((τ11 280 5) ^^^ ((nI 1) <<< (l1 &&& 31))) → (Q (τ12 280 5) τ12)))) ∧ (s1 = s0 → Q (-1000002) σ)
set_option maxRecDepth 100000 in
set_option maxHeartbeats 4000000 in
theorem j_X5_bar_41 {M : MC} {X : XP} {Q : Int32 → PI → Prop} (cx : Cx M X RX5 cX5_bar 3 (some .int) 2) (l1 : Int32) (s0 : Int32) (s1 : Int32) (σ : PI) (h : w_X5_bar_41   Q l1 s0 s1 σ) : J M X (QF M X (qI Q)) σ 41 [some (.ref (X.1 276)), some (.int l1), none] [.int s0, .int s1] := by
  unfold w_X5_bar_41 at h
  refine J_icmp_ne cx (tgt := 47) dX5_bar_41 (by decide) (fun q10 => ?_) (fun q10 => ?_)
  · replace h := h.1 q10
    refine J_aload_n cx 0 dX5_bar_47 rfl rfl ?_
    refine J_cV cx dX5_bar_48 V_X5_170 (by decide) (by decide) rfl (ct_X5_note    _ _ h) rfl rfl (Nat.le_of_ble_eq_true rfl) (k_v (fun τ11 h => ?_))
    refine J_aload_n cx 0 dX5_bar_51 rfl rfl ?_
    refine J_getR cx (j := 280) dX5_bar_52 F_X5_19 (by decide) rfl rfl rfl ?_
    refine J_iconst cx dX5_bar_55 (by decide : _ = ((nI 5) : Int32)) ?_
    refine J_dup2 cx dX5_bar_56 rfl rfl ?_
    refine J_iald cx dX5_bar_57 (by decide) rfl (vpl (by decide)) ?_
    refine J_iconst cx dX5_bar_58 (by decide : _ = ((nI 1) : Int32)) ?_
    refine J_iload_n cx 1 dX5_bar_59 rfl rfl ?_
    refine J_ishl cx dX5_bar_60 ?_
    refine J_ixor cx dX5_bar_61 ?_
    refine J_iast cx dX5_bar_62 (by decide) rfl (vpl (by decide)) ?_
    refine J_nm (fun τ12 e_τ12 => ?_)
    replace h := h τ12 e_τ12
    refine J_aload_n cx 0 dX5_bar_63 rfl rfl ?_
    refine J_getR cx (j := 280) dX5_bar_64 F_X5_19 (by decide) rfl rfl rfl ?_
    refine J_iconst cx dX5_bar_67 (by decide : _ = ((nI 5) : Int32)) ?_
    refine J_iald cx dX5_bar_68 (by decide) rfl (vpl (by decide)) ?_
    exact J_iret cx dX5_bar_69 h
  · replace h := h.2 q10
    refine J_ldc cx (v := (-1000002)) dX5_bar_44 gw_822 ?_
    exact J_iret cx dX5_bar_46 h
def wp_X5_bar (a0 : Int32) (a1 : Int32) (σ : PI) (Q : Int32 → PI → Prop) : Prop := wp_X5_isMan a0 σ (fun r2 τ1 => ((r2 = (nI 0) → Q (-1000001) τ1) ∧ (¬ r2 = (nI 0) → wp_X5_in (a1 : Int32).toInt64 (lN 0) (lN 1) τ1 (fun r5 τ4 => ((¬ r5 = (nI 0) → wp_X5_has (τ4 280 5) a0 τ4 (fun r8 τ7 => ((¬ a1 = (nI 1) → w_X5_bar_41   Q a0 (nI 0) r8 τ7) ∧ (a1 = (nI 1) → w_X5_bar_41   Q a0 (nI 1) r8 τ7)))) ∧ (r5 = (nI 0) → Q (-1000001) τ4))))))
set_option maxRecDepth 100000 in
set_option maxHeartbeats 4000000 in
theorem ct_X5_bar {l : Launch} {X : XP} (a0 : Int32) (a1 : Int32) (σ : PI) (Q : Int32 → PI → Prop) (h : wp_X5_bar  a0 a1 σ Q) : Ct l yX5_bar cX5_bar 3 (some .int) 2 X [.ref (X.1 276), .int a0, .int a1] σ (qI Q) := by
  refine Ct_of (L := [some (.ref (X.1 276)), some (.int a0), some (.int a1)]) (by decide) (Nat.le_of_ble_eq_true rfl) rfl (fun M hl cx => ?_)
  subst hl
  unfold wp_X5_bar at h
  refine J_aload_n cx 0 dX5_bar_0 rfl rfl ?_
  refine J_iload_n cx 1 dX5_bar_1 rfl rfl ?_
  refine J_cV cx dX5_bar_2 V_X5_183 (by decide) (by decide) rfl (ct_X5_isMan   _ _ _ h) rfl rfl (Nat.le_of_ble_eq_true rfl) (k_i (fun r2 τ1 h => ?_))
  refine J_if_eq cx (tgt := 18) dX5_bar_5 (by decide) (fun q3 => ?_) (fun q3 => ?_)
  · replace h := h.1 q3
    refine J_ldc cx (v := (-1000001)) dX5_bar_18 gw_742 ?_
    exact J_iret cx dX5_bar_20 h
  · replace h := h.2 q3
    refine J_iload_n cx 2 dX5_bar_8 rfl rfl ?_
    refine J_i2l cx dX5_bar_9 ?_
    refine J_lconst cx dX5_bar_10 (by decide : _ = ((lN 0) : Int64)) ?_
    refine J_lconst cx dX5_bar_11 (by decide : _ = ((lN 1) : Int64)) ?_
    refine J_cS cx dX5_bar_12 S_X5_54 (by decide) (ct_X5_in   _ _ _ _ _ h) rfl rfl (Nat.le_of_ble_eq_true rfl) (k_i (fun r5 τ4 h => ?_))
    refine J_if_ne cx (tgt := 21) dX5_bar_15 (by decide) (fun q6 => ?_) (fun q6 => ?_)
    · replace h := h.1 q6
      refine J_aload_n cx 0 dX5_bar_21 rfl rfl ?_
      refine J_getR cx (j := 280) dX5_bar_22 F_X5_19 (by decide) rfl rfl rfl ?_
      refine J_iconst cx dX5_bar_25 (by decide : _ = ((nI 5) : Int32)) ?_
      refine J_iald cx dX5_bar_26 (by decide) rfl (vpl (by decide)) ?_
      refine J_iload_n cx 1 dX5_bar_27 rfl rfl ?_
      refine J_cS cx dX5_bar_28 S_X5_151 (by decide) (ct_X5_has   _ _ _ _ h) rfl rfl (Nat.le_of_ble_eq_true rfl) (k_i (fun r8 τ7 h => ?_))
      refine J_iload_n cx 2 dX5_bar_31 rfl rfl ?_
      refine J_iconst cx dX5_bar_32 (by decide : _ = ((nI 1) : Int32)) ?_
      refine J_icmp_ne cx (tgt := 40) dX5_bar_33 (by decide) (fun q9 => ?_) (fun q9 => ?_)
      · replace h := h.1 q9
        refine J_iconst cx dX5_bar_40 (by decide : _ = ((nI 0) : Int32)) ?_
        refine J_fg 2 rfl ?_
        exact j_X5_bar_41     cx   _ _ _ _ h
      · replace h := h.2 q9
        refine J_iconst cx dX5_bar_36 (by decide : _ = ((nI 1) : Int32)) ?_
        refine J_goto cx (tgt := 41) dX5_bar_37 (by decide) ?_
        refine J_fg 2 rfl ?_
        exact j_X5_bar_41     cx   _ _ _ _ h
    · replace h := h.2 q6
      refine J_ldc cx (v := (-1000001)) dX5_bar_18 gw_742 ?_
      exact J_iret cx dX5_bar_20 h
def wp_X5_patience (a0 : Int32) (a1 : Int32) (σ : PI) (Q : Int32 → PI → Prop) : Prop := wp_X5_isMan a0 σ (fun r2 τ1 => ((r2 = (nI 0) → Q (-1000001) τ1) ∧ (¬ r2 = (nI 0) → wp_X5_in (a1 : Int32).toInt64 (lN 0) (lN 9) τ1 (fun r5 τ4 => ((¬ r5 = (nI 0) → wp_X5_note  τ4 (fun τ7 => (vp_in ((nI 11) + a0) 70 ∧ (∀ x9 : Int32, x9 = (τ7 280 (((nI 11) + a0) : Int32).toNatClampNeg) → (vp_in ((nI 11) + a0) 70 ∧ (∀ τ11 : PI, τ11 = up τ7 280 (((nI 11) + a0) : Int32).toNatClampNeg a1 → (Q x9 τ11))))))) ∧ (r5 = (nI 0) → Q (-1000001) τ4))))))
set_option maxRecDepth 100000 in
set_option maxHeartbeats 4000000 in
theorem ct_X5_patience {l : Launch} {X : XP} (a0 : Int32) (a1 : Int32) (σ : PI) (Q : Int32 → PI → Prop) (h : wp_X5_patience  a0 a1 σ Q) : Ct l yX5_patience cX5_patience 4 (some .int) 2 X [.ref (X.1 276), .int a0, .int a1] σ (qI Q) := by
  refine Ct_of (L := [some (.ref (X.1 276)), some (.int a0), some (.int a1), none]) (by decide) (Nat.le_of_ble_eq_true rfl) rfl (fun M hl cx => ?_)
  subst hl
  unfold wp_X5_patience at h
  refine J_aload_n cx 0 dX5_patience_0 rfl rfl ?_
  refine J_iload_n cx 1 dX5_patience_1 rfl rfl ?_
  refine J_cV cx dX5_patience_2 V_X5_183 (by decide) (by decide) rfl (ct_X5_isMan   _ _ _ h) rfl rfl (Nat.le_of_ble_eq_true rfl) (k_i (fun r2 τ1 h => ?_))
  refine J_if_eq cx (tgt := 20) dX5_patience_5 (by decide) (fun q3 => ?_) (fun q3 => ?_)
  · replace h := h.1 q3
    refine J_ldc cx (v := (-1000001)) dX5_patience_20 gw_742 ?_
    exact J_iret cx dX5_patience_22 h
  · replace h := h.2 q3
    refine J_iload_n cx 2 dX5_patience_8 rfl rfl ?_
    refine J_i2l cx dX5_patience_9 ?_
    refine J_lconst cx dX5_patience_10 (by decide : _ = ((lN 0) : Int64)) ?_
    refine J_ldc2 cx (v := (lN 9)) dX5_patience_11 gw_883 ?_
    refine J_cS cx dX5_patience_14 S_X5_54 (by decide) (ct_X5_in   _ _ _ _ _ h) rfl rfl (Nat.le_of_ble_eq_true rfl) (k_i (fun r5 τ4 h => ?_))
    refine J_if_ne cx (tgt := 23) dX5_patience_17 (by decide) (fun q6 => ?_) (fun q6 => ?_)
    · replace h := h.1 q6
      refine J_aload_n cx 0 dX5_patience_23 rfl rfl ?_
      refine J_cV cx dX5_patience_24 V_X5_170 (by decide) (by decide) rfl (ct_X5_note    _ _ h) rfl rfl (Nat.le_of_ble_eq_true rfl) (k_v (fun τ7 h => ?_))
      refine J_aload_n cx 0 dX5_patience_27 rfl rfl ?_
      refine J_getR cx (j := 280) dX5_patience_28 F_X5_19 (by decide) rfl rfl rfl ?_
      refine J_bipush cx dX5_patience_31 (by decide : _ = ((nI 11) : Int32)) ?_
      refine J_iload_n cx 1 dX5_patience_33 rfl rfl ?_
      refine J_iadd cx dX5_patience_34 ?_
      obtain ⟨s8, h⟩ := h
      refine J_iald cx dX5_patience_35 (by decide) rfl s8 ?_
      refine J_topi (fun x9 e_x9 => ?_)
      replace h := h x9 e_x9
      refine J_istore_n cx 3 dX5_patience_36 rfl (by decide) rfl rfl ?_
      refine J_aload_n cx 0 dX5_patience_37 rfl rfl ?_
      refine J_getR cx (j := 280) dX5_patience_38 F_X5_19 (by decide) rfl rfl rfl ?_
      refine J_bipush cx dX5_patience_41 (by decide : _ = ((nI 11) : Int32)) ?_
      refine J_iload_n cx 1 dX5_patience_43 rfl rfl ?_
      refine J_iadd cx dX5_patience_44 ?_
      refine J_iload_n cx 2 dX5_patience_45 rfl rfl ?_
      obtain ⟨s10, h⟩ := h
      refine J_iast cx dX5_patience_46 (by decide) rfl s10 ?_
      refine J_nm (fun τ11 e_τ11 => ?_)
      replace h := h τ11 e_τ11
      refine J_iload_n cx 3 dX5_patience_47 rfl rfl ?_
      exact J_iret cx dX5_patience_48 h
    · replace h := h.2 q6
      refine J_ldc cx (v := (-1000001)) dX5_patience_20 gw_742 ?_
      exact J_iret cx dX5_patience_22 h
def wp_X5_leaver (a0 : Int32) (a1 : Int32) (σ : PI) (Q : Int32 → PI → Prop) : Prop := wp_X5_isLeaver a0 σ (fun r2 τ1 => ((¬ r2 = (nI 0) → (a1 = (nI 0) → vp_in ((nI 22) + a0) 70 ∧ (Q (τ1 280 (((nI 22) + a0) : Int32).toNatClampNeg) τ1)) ∧ (a1 = (nI 1) → vp_in ((nI 28) + a0) 70 ∧ (Q (τ1 280 (((nI 28) + a0) : Int32).toNatClampNeg) τ1)) ∧ (a1 = (nI 2) → vp_in ((nI 34) + a0) 70 ∧ (Q (τ1 280 (((nI 34) + a0) : Int32).toNatClampNeg) τ1)) ∧ (a1 = (nI 3) → wp_X5_houseOf a0 τ1 (fun r12 τ11 => (Q r12 τ11))) ∧ (a1 = (nI 4) → wp_X5_makes a0 τ1 (fun r15 τ14 => (Q r15 τ14))) ∧ (a1 = (nI 5) → wp_X5_timesOf a0 τ1 (fun r18 τ17 => (Q r18 τ17))) ∧ ((a1 : Int32).toInt < 0 ∨ 5 < (a1 : Int32).toInt → Q (-1000001) τ1)) ∧ (r2 = (nI 0) → Q (-1000001) τ1)))
set_option maxRecDepth 100000 in
set_option maxHeartbeats 4000000 in
theorem ct_X5_leaver {l : Launch} {X : XP} (a0 : Int32) (a1 : Int32) (σ : PI) (Q : Int32 → PI → Prop) (h : wp_X5_leaver  a0 a1 σ Q) : Ct l yX5_leaver cX5_leaver 3 (some .int) 3 X [.ref (X.1 276), .int a0, .int a1] σ (qI Q) := by
  refine Ct_of (L := [some (.ref (X.1 276)), some (.int a0), some (.int a1)]) (by decide) (Nat.le_of_ble_eq_true rfl) rfl (fun M hl cx => ?_)
  subst hl
  unfold wp_X5_leaver at h
  refine J_aload_n cx 0 dX5_leaver_0 rfl rfl ?_
  refine J_iload_n cx 1 dX5_leaver_1 rfl rfl ?_
  refine J_cV cx dX5_leaver_2 V_X5_180 (by decide) (by decide) rfl (ct_X5_isLeaver   _ _ _ h) rfl rfl (Nat.le_of_ble_eq_true rfl) (k_i (fun r2 τ1 h => ?_))
  refine J_if_ne cx (tgt := 11) dX5_leaver_5 (by decide) (fun q3 => ?_) (fun q3 => ?_)
  · replace h := h.1 q3
    refine J_iload_n cx 2 dX5_leaver_11 rfl rfl ?_
    by_cases q4 : a1 = (nI 0)
    · refine J_tsI cx (tgt := 52) (nI 0) q4 dX5_leaver_12 (by decide) (by decide) rfl (by decide) ?_
      replace h := h.1 q4
      refine J_aload_n cx 0 dX5_leaver_52 rfl rfl ?_
      refine J_getR cx (j := 280) dX5_leaver_53 F_X5_19 (by decide) rfl rfl rfl ?_
      refine J_bipush cx dX5_leaver_56 (by decide : _ = ((nI 22) : Int32)) ?_
      refine J_iload_n cx 1 dX5_leaver_58 rfl rfl ?_
      refine J_iadd cx dX5_leaver_59 ?_
      obtain ⟨s5, h⟩ := h
      refine J_iald cx dX5_leaver_60 (by decide) rfl s5 ?_
      exact J_iret cx dX5_leaver_61 h
    by_cases q6 : a1 = (nI 1)
    · refine J_tsI cx (tgt := 62) (nI 1) q6 dX5_leaver_12 (by decide) (by decide) rfl (by decide) ?_
      replace h := h.2.1 q6
      refine J_aload_n cx 0 dX5_leaver_62 rfl rfl ?_
      refine J_getR cx (j := 280) dX5_leaver_63 F_X5_19 (by decide) rfl rfl rfl ?_
      refine J_bipush cx dX5_leaver_66 (by decide : _ = ((nI 28) : Int32)) ?_
      refine J_iload_n cx 1 dX5_leaver_68 rfl rfl ?_
      refine J_iadd cx dX5_leaver_69 ?_
      obtain ⟨s7, h⟩ := h
      refine J_iald cx dX5_leaver_70 (by decide) rfl s7 ?_
      exact J_iret cx dX5_leaver_71 h
    by_cases q8 : a1 = (nI 2)
    · refine J_tsI cx (tgt := 72) (nI 2) q8 dX5_leaver_12 (by decide) (by decide) rfl (by decide) ?_
      replace h := h.2.2.1 q8
      refine J_aload_n cx 0 dX5_leaver_72 rfl rfl ?_
      refine J_getR cx (j := 280) dX5_leaver_73 F_X5_19 (by decide) rfl rfl rfl ?_
      refine J_bipush cx dX5_leaver_76 (by decide : _ = ((nI 34) : Int32)) ?_
      refine J_iload_n cx 1 dX5_leaver_78 rfl rfl ?_
      refine J_iadd cx dX5_leaver_79 ?_
      obtain ⟨s9, h⟩ := h
      refine J_iald cx dX5_leaver_80 (by decide) rfl s9 ?_
      exact J_iret cx dX5_leaver_81 h
    by_cases q10 : a1 = (nI 3)
    · refine J_tsI cx (tgt := 82) (nI 3) q10 dX5_leaver_12 (by decide) (by decide) rfl (by decide) ?_
      replace h := h.2.2.2.1 q10
      refine J_aload_n cx 0 dX5_leaver_82 rfl rfl ?_
      refine J_iload_n cx 1 dX5_leaver_83 rfl rfl ?_
      refine J_cV cx dX5_leaver_84 V_X5_142 (by decide) (by decide) rfl (ct_X5_houseOf   _ _ _ h) rfl rfl (Nat.le_of_ble_eq_true rfl) (k_i (fun r12 τ11 h => ?_))
      exact J_iret cx dX5_leaver_87 h
    by_cases q13 : a1 = (nI 4)
    · refine J_tsI cx (tgt := 88) (nI 4) q13 dX5_leaver_12 (by decide) (by decide) rfl (by decide) ?_
      replace h := h.2.2.2.2.1 q13
      refine J_aload_n cx 0 dX5_leaver_88 rfl rfl ?_
      refine J_iload_n cx 1 dX5_leaver_89 rfl rfl ?_
      refine J_cV cx dX5_leaver_90 V_X5_158 (by decide) (by decide) rfl (ct_X5_makes   _ _ _ h) rfl rfl (Nat.le_of_ble_eq_true rfl) (k_i (fun r15 τ14 h => ?_))
      exact J_iret cx dX5_leaver_93 h
    by_cases q16 : a1 = (nI 5)
    · refine J_tsI cx (tgt := 94) (nI 5) q16 dX5_leaver_12 (by decide) (by decide) rfl (by decide) ?_
      replace h := h.2.2.2.2.2.1 q16
      refine J_aload_n cx 0 dX5_leaver_94 rfl rfl ?_
      refine J_iload_n cx 1 dX5_leaver_95 rfl rfl ?_
      refine J_cV cx dX5_leaver_96 V_X5_145 (by decide) (by decide) rfl (ct_X5_timesOf   _ _ _ h) rfl rfl (Nat.le_of_ble_eq_true rfl) (k_i (fun r18 τ17 h => ?_))
      exact J_iret cx dX5_leaver_99 h
    have n_q4 := lv_neT (a := 0) q4 rfl
    have n_q6 := lv_neT (a := 1) q6 rfl
    have n_q8 := lv_neT (a := 2) q8 rfl
    have n_q10 := lv_neT (a := 3) q10 rfl
    have n_q13 := lv_neT (a := 4) q13 rfl
    have n_q16 := lv_neT (a := 5) q16 rfl
    have q19 : (a1 : Int32).toInt < 0 ∨ 5 < (a1 : Int32).toInt := by omega
    refine J_tsO cx (tgt := 100) dX5_leaver_12 q19 (by decide) ?_
    replace h := h.2.2.2.2.2.2 q19
    refine J_ldc cx (v := (-1000001)) dX5_leaver_100 gw_742 ?_
    exact J_iret cx dX5_leaver_102 h
  · replace h := h.2 q3
    refine J_ldc cx (v := (-1000001)) dX5_leaver_8 gw_742 ?_
    exact J_iret cx dX5_leaver_10 h
def wp_X5_man (a0 : Int32) (a1 : Int32) (σ : PI) (Q : Int32 → PI → Prop) : Prop := wp_X5_isMan a0 σ (fun r2 τ1 => ((¬ r2 = (nI 0) → (a1 = (nI 0) → vp_in ((nI 6) + a0) 70 ∧ (Q (τ1 280 (((nI 6) + a0) : Int32).toNatClampNeg) τ1)) ∧ (a1 = (nI 1) → vp_in ((nI 11) + a0) 70 ∧ (Q (τ1 280 (((nI 11) + a0) : Int32).toNatClampNeg) τ1)) ∧ (a1 = (nI 2) → wp_X5_has (τ1 280 5) a0 τ1 (fun r10 τ9 => ((r10 = (nI 0) → Q (nI 0) τ9) ∧ (¬ r10 = (nI 0) → Q (nI 1) τ9)))) ∧ (a1 = (nI 3) → wp_X5_awayFrom a0 τ1 (fun r14 τ13 => (Q r14 τ13))) ∧ (a1 = (nI 4) → wp_X5_madeAt a0 τ1 (fun r17 τ16 => (Q r17 τ16))) ∧ ((a1 : Int32).toInt < 0 ∨ 4 < (a1 : Int32).toInt → Q (-1000001) τ1)) ∧ (r2 = (nI 0) → Q (-1000001) τ1)))
set_option maxRecDepth 100000 in
set_option maxHeartbeats 4000000 in
theorem ct_X5_man {l : Launch} {X : XP} (a0 : Int32) (a1 : Int32) (σ : PI) (Q : Int32 → PI → Prop) (h : wp_X5_man  a0 a1 σ Q) : Ct l yX5_man cX5_man 3 (some .int) 4 X [.ref (X.1 276), .int a0, .int a1] σ (qI Q) := by
  refine Ct_of (L := [some (.ref (X.1 276)), some (.int a0), some (.int a1)]) (by decide) (Nat.le_of_ble_eq_true rfl) rfl (fun M hl cx => ?_)
  subst hl
  unfold wp_X5_man at h
  refine J_aload_n cx 0 dX5_man_0 rfl rfl ?_
  refine J_iload_n cx 1 dX5_man_1 rfl rfl ?_
  refine J_cV cx dX5_man_2 V_X5_183 (by decide) (by decide) rfl (ct_X5_isMan   _ _ _ h) rfl rfl (Nat.le_of_ble_eq_true rfl) (k_i (fun r2 τ1 h => ?_))
  refine J_if_ne cx (tgt := 11) dX5_man_5 (by decide) (fun q3 => ?_) (fun q3 => ?_)
  · replace h := h.1 q3
    refine J_iload_n cx 2 dX5_man_11 rfl rfl ?_
    by_cases q4 : a1 = (nI 0)
    · refine J_tsI cx (tgt := 48) (nI 0) q4 dX5_man_12 (by decide) (by decide) rfl (by decide) ?_
      replace h := h.1 q4
      refine J_aload_n cx 0 dX5_man_48 rfl rfl ?_
      refine J_getR cx (j := 280) dX5_man_49 F_X5_19 (by decide) rfl rfl rfl ?_
      refine J_bipush cx dX5_man_52 (by decide : _ = ((nI 6) : Int32)) ?_
      refine J_iload_n cx 1 dX5_man_54 rfl rfl ?_
      refine J_iadd cx dX5_man_55 ?_
      obtain ⟨s5, h⟩ := h
      refine J_iald cx dX5_man_56 (by decide) rfl s5 ?_
      exact J_iret cx dX5_man_57 h
    by_cases q6 : a1 = (nI 1)
    · refine J_tsI cx (tgt := 58) (nI 1) q6 dX5_man_12 (by decide) (by decide) rfl (by decide) ?_
      replace h := h.2.1 q6
      refine J_aload_n cx 0 dX5_man_58 rfl rfl ?_
      refine J_getR cx (j := 280) dX5_man_59 F_X5_19 (by decide) rfl rfl rfl ?_
      refine J_bipush cx dX5_man_62 (by decide : _ = ((nI 11) : Int32)) ?_
      refine J_iload_n cx 1 dX5_man_64 rfl rfl ?_
      refine J_iadd cx dX5_man_65 ?_
      obtain ⟨s7, h⟩ := h
      refine J_iald cx dX5_man_66 (by decide) rfl s7 ?_
      exact J_iret cx dX5_man_67 h
    by_cases q8 : a1 = (nI 2)
    · refine J_tsI cx (tgt := 68) (nI 2) q8 dX5_man_12 (by decide) (by decide) rfl (by decide) ?_
      replace h := h.2.2.1 q8
      refine J_aload_n cx 0 dX5_man_68 rfl rfl ?_
      refine J_getR cx (j := 280) dX5_man_69 F_X5_19 (by decide) rfl rfl rfl ?_
      refine J_iconst cx dX5_man_72 (by decide : _ = ((nI 5) : Int32)) ?_
      refine J_iald cx dX5_man_73 (by decide) rfl (vpl (by decide)) ?_
      refine J_iload_n cx 1 dX5_man_74 rfl rfl ?_
      refine J_cS cx dX5_man_75 S_X5_151 (by decide) (ct_X5_has   _ _ _ _ h) rfl rfl (Nat.le_of_ble_eq_true rfl) (k_i (fun r10 τ9 h => ?_))
      refine J_if_eq cx (tgt := 85) dX5_man_78 (by decide) (fun q11 => ?_) (fun q11 => ?_)
      · replace h := h.1 q11
        refine J_iconst cx dX5_man_85 (by decide : _ = ((nI 0) : Int32)) ?_
        exact J_iret cx dX5_man_86 h
      · replace h := h.2 q11
        refine J_iconst cx dX5_man_81 (by decide : _ = ((nI 1) : Int32)) ?_
        refine J_goto cx (tgt := 86) dX5_man_82 (by decide) ?_
        exact J_iret cx dX5_man_86 h
    by_cases q12 : a1 = (nI 3)
    · refine J_tsI cx (tgt := 87) (nI 3) q12 dX5_man_12 (by decide) (by decide) rfl (by decide) ?_
      replace h := h.2.2.2.1 q12
      refine J_aload_n cx 0 dX5_man_87 rfl rfl ?_
      refine J_iload_n cx 1 dX5_man_88 rfl rfl ?_
      refine J_cV cx dX5_man_89 V_X5_155 (by decide) (by decide) rfl (ct_X5_awayFrom   _ _ _ h) rfl rfl (Nat.le_of_ble_eq_true rfl) (k_i (fun r14 τ13 h => ?_))
      exact J_iret cx dX5_man_92 h
    by_cases q15 : a1 = (nI 4)
    · refine J_tsI cx (tgt := 93) (nI 4) q15 dX5_man_12 (by decide) (by decide) rfl (by decide) ?_
      replace h := h.2.2.2.2.1 q15
      refine J_aload_n cx 0 dX5_man_93 rfl rfl ?_
      refine J_iload_n cx 1 dX5_man_94 rfl rfl ?_
      refine J_cV cx dX5_man_95 V_X5_164 (by decide) (by decide) rfl (ct_X5_madeAt   _ _ _ h) rfl rfl (Nat.le_of_ble_eq_true rfl) (k_i (fun r17 τ16 h => ?_))
      exact J_iret cx dX5_man_98 h
    have n_q4 := lv_neT (a := 0) q4 rfl
    have n_q6 := lv_neT (a := 1) q6 rfl
    have n_q8 := lv_neT (a := 2) q8 rfl
    have n_q12 := lv_neT (a := 3) q12 rfl
    have n_q15 := lv_neT (a := 4) q15 rfl
    have q18 : (a1 : Int32).toInt < 0 ∨ 4 < (a1 : Int32).toInt := by omega
    refine J_tsO cx (tgt := 99) dX5_man_12 q18 (by decide) ?_
    replace h := h.2.2.2.2.2 q18
    refine J_ldc cx (v := (-1000001)) dX5_man_99 gw_742 ?_
    exact J_iret cx dX5_man_101 h
  · replace h := h.2 q3
    refine J_ldc cx (v := (-1000001)) dX5_man_8 gw_742 ?_
    exact J_iret cx dX5_man_10 h
def B_X5_putAside_2 (K2 : (Int32 × PI → Prop)) (Q : PI → Prop) (l1 : Int32) (σ : PI) : Prop := ((nI 70) ≤ l1 → Q σ) ∧ (¬ (nI 70) ≤ l1 → vp_in l1 70 ∧ (vp_in l1 70 ∧ (∀ τ4 : PI, τ4 = up σ 285 (l1 : Int32).toNatClampNeg (σ 280 (l1 : Int32).toNatClampNeg) → (K2 ((l1 + (nI 1)), τ4)))))
def w_X5_putAside_2 (Q : PI → Prop) (l1 : Int32) (σ : PI) : Prop := ∃ n, Lp (fun K a => B_X5_putAside_2   K Q a.1 a.2) n (l1, σ)
set_option maxRecDepth 100000 in
set_option maxHeartbeats 4000000 in
theorem j_X5_putAside_2 {M : MC} {X : XP} {Q : PI → Prop} (cx : Cx M X RX5 cX5_putAside 2 none 0) (l1 : Int32) (σ : PI) (h : w_X5_putAside_2   Q l1 σ) : J M X (QF M X (qV Q)) σ 2 [some (.ref (X.1 276)), some (.int l1)] [] := by
  refine Lp_J (P := fun (a : Int32 × PI) => J M X (QF M X (qV Q)) (a.2) 2 [some (.ref (X.1 276)), some (.int a.1)] []) (fun K2 hK a h => ?_) h
  obtain ⟨l1, σ⟩ := a
  have hK2 : ∀ (l1 : Int32) (σ : PI), K2 (l1, σ) → J M X (QF M X (qV Q)) σ 2 [some (.ref (X.1 276)), some (.int l1)] [] := fun l1 σ q => hK _ q
  replace h : B_X5_putAside_2   K2 Q l1 σ := h
  show J M X (QF M X (qV Q)) σ 2 [some (.ref (X.1 276)), some (.int l1)] []
  unfold B_X5_putAside_2 at h
  refine J_iload_n cx 1 dX5_putAside_2 rfl rfl ?_
  refine J_bipush cx dX5_putAside_3 (by decide : _ = ((nI 70) : Int32)) ?_
  refine J_icmp_ge cx (tgt := 26) dX5_putAside_5 (by decide) (fun q1 => ?_) (fun q1 => ?_)
  · replace h := h.1 q1
    exact J_vret cx dX5_putAside_26 h
  · replace h := h.2 q1
    refine J_aload_n cx 0 dX5_putAside_8 rfl rfl ?_
    refine J_getR cx (j := 285) dX5_putAside_9 F_X5_34 (by decide) rfl rfl rfl ?_
    refine J_iload_n cx 1 dX5_putAside_12 rfl rfl ?_
    refine J_aload_n cx 0 dX5_putAside_13 rfl rfl ?_
    refine J_getR cx (j := 280) dX5_putAside_14 F_X5_19 (by decide) rfl rfl rfl ?_
    refine J_iload_n cx 1 dX5_putAside_17 rfl rfl ?_
    obtain ⟨s2, h⟩ := h
    refine J_iald cx dX5_putAside_18 (by decide) rfl s2 ?_
    obtain ⟨s3, h⟩ := h
    refine J_iast cx dX5_putAside_19 (by decide) rfl s3 ?_
    refine J_nm (fun τ4 e_τ4 => ?_)
    replace h := h τ4 e_τ4
    refine J_iinc cx dX5_putAside_20 rfl (by decide : _ = ((nI 1) : Int32)) (by decide) rfl rfl ?_
    refine J_goto cx (tgt := 2) dX5_putAside_23 (by decide) ?_
    exact hK2   _ _ h
def wp_X5_putAside (σ : PI) (Q : PI → Prop) : Prop := w_X5_putAside_2   Q (nI 0) σ
set_option maxRecDepth 100000 in
set_option maxHeartbeats 4000000 in
theorem ct_X5_putAside {l : Launch} {X : XP} (σ : PI) (Q : PI → Prop) (h : wp_X5_putAside   σ Q) : Ct l yX5_putAside cX5_putAside 2 none 0 X [.ref (X.1 276)] σ (qV Q) := by
  refine Ct_of (L := [some (.ref (X.1 276)), none]) (by decide) (Nat.le_of_ble_eq_true rfl) rfl (fun M hl cx => ?_)
  subst hl
  unfold wp_X5_putAside at h
  refine J_iconst cx dX5_putAside_0 (by decide : _ = ((nI 0) : Int32)) ?_
  refine J_istore_n cx 1 dX5_putAside_1 rfl (by decide) rfl rfl ?_
  exact j_X5_putAside_2     cx   _ _ h
