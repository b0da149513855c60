def wp_X1_add (a0 : Int32) (σ : PI) (Q : Int32 → PI → Prop) : Prop := ((σ 257 1) < (nI 120) → vp_in (σ 257 1) 120 ∧ (∀ τ3 : PI, τ3 = up σ 258 ((σ 257 1) : Int32).toNatClampNeg a0 → (∀ τ4 : PI, τ4 = up τ3 257 1 ((τ3 257 1) + (nI 1)) → (Q (nI 1) τ4)))) ∧ (¬ (σ 257 1) < (nI 120) → Q (nI 0) σ)
set_option maxRecDepth 100000 in
set_option maxHeartbeats 4000000 in
theorem ct_X1_add {l : Launch} {X : XP} (a0 : Int32) (σ : PI) (Q : Int32 → PI → Prop) (h : wp_X1_add  a0 σ Q) : Ct l yX1_add cX1_add 2 (some .boolean) 0 X [.ref (X.1 257), .int a0] σ (qI Q) := by
  refine Ct_of (L := [some (.ref (X.1 257)), some (.int a0)]) (by decide) (Nat.le_of_ble_eq_true rfl) rfl (fun M hl cx => ?_)
  subst hl
  unfold wp_X1_add at h
  refine J_aload_n cx 0 dX1_add_0 rfl rfl ?_
  refine J_getI cx dX1_add_1 F_X1_15 (by decide) rfl rfl ?_
  refine J_bipush cx dX1_add_4 (by decide : _ = ((nI 120) : Int32)) ?_
  refine J_icmp_lt cx (tgt := 11) dX1_add_6 (by decide) (fun q1 => ?_) (fun q1 => ?_)
  · replace h := h.1 q1
    refine J_aload_n cx 0 dX1_add_11 rfl rfl ?_
    refine J_getR cx (j := 258) dX1_add_12 F_X1_9 (by decide) rfl rfl rfl ?_
    refine J_aload_n cx 0 dX1_add_15 rfl rfl ?_
    refine J_getI cx dX1_add_16 F_X1_15 (by decide) rfl rfl ?_
    refine J_iload_n cx 1 dX1_add_19 rfl rfl ?_
    obtain ⟨s2, h⟩ := h
    refine J_iast cx dX1_add_20 (by decide) rfl s2 ?_
    refine J_nm (fun τ3 e_τ3 => ?_)
    replace h := h τ3 e_τ3
    refine J_aload_n cx 0 dX1_add_21 rfl rfl ?_
    refine J_dup cx dX1_add_22 rfl ?_
    refine J_getI cx dX1_add_23 F_X1_15 (by decide) rfl rfl ?_
    refine J_iconst cx dX1_add_26 (by decide : _ = ((nI 1) : Int32)) ?_
    refine J_iadd cx dX1_add_27 ?_
    refine J_putI cx dX1_add_28 (P_X1_15 _) (by decide) rfl rfl ?_
    refine J_nm (fun τ4 e_τ4 => ?_)
    replace h := h τ4 e_τ4
    refine J_iconst cx dX1_add_31 (by decide : _ = ((nI 1) : Int32)) ?_
    exact J_zret cx dX1_add_32 (Or.inr rfl) h
  · replace h := h.2 q1
    refine J_iconst cx dX1_add_9 (by decide : _ = ((nI 0) : Int32)) ?_
    exact J_zret cx dX1_add_10 (Or.inl rfl) h
def wp_X1_isFigure (a0 : Int32) (σ : PI) (Q : Int32 → PI → Prop) : Prop := (a0 < (nI 48) → Q (nI 0) σ) ∧ (¬ a0 < (nI 48) → ((nI 57) < a0 → Q (nI 0) σ) ∧ (¬ (nI 57) < a0 → Q (nI 1) σ))
set_option maxRecDepth 100000 in
set_option maxHeartbeats 4000000 in
theorem ct_X1_isFigure {l : Launch} {X : XP} (a0 : Int32) (σ : PI) (Q : Int32 → PI → Prop) (h : wp_X1_isFigure  a0 σ Q) : Ct l yX1_isFigure cX1_isFigure 1 (some .boolean) 0 X [.int a0] σ (qI Q) := by
  refine Ct_of (L := [some (.int a0)]) (by decide) (Nat.le_of_ble_eq_true rfl) rfl (fun M hl cx => ?_)
  subst hl
  unfold wp_X1_isFigure at h
  refine J_iload_n cx 0 dX1_isFigure_0 rfl rfl ?_
  refine J_bipush cx dX1_isFigure_1 (by decide : _ = ((nI 48) : Int32)) ?_
  refine J_icmp_lt cx (tgt := 16) dX1_isFigure_3 (by decide) (fun q1 => ?_) (fun q1 => ?_)
  · replace h := h.1 q1
    refine J_iconst cx dX1_isFigure_16 (by decide : _ = ((nI 0) : Int32)) ?_
    exact J_zret cx dX1_isFigure_17 (Or.inl rfl) h
  · replace h := h.2 q1
    refine J_iload_n cx 0 dX1_isFigure_6 rfl rfl ?_
    refine J_bipush cx dX1_isFigure_7 (by decide : _ = ((nI 57) : Int32)) ?_
    refine J_icmp_gt cx (tgt := 16) dX1_isFigure_9 (by decide) (fun q2 => ?_) (fun q2 => ?_)
    · replace h := h.1 q2
      refine J_iconst cx dX1_isFigure_16 (by decide : _ = ((nI 0) : Int32)) ?_
      exact J_zret cx dX1_isFigure_17 (Or.inl rfl) h
    · replace h := h.2 q2
      refine J_iconst cx dX1_isFigure_12 (by decide : _ = ((nI 1) : Int32)) ?_
      refine J_goto cx (tgt := 17) dX1_isFigure_13 (by decide) ?_
      exact J_zret cx dX1_isFigure_17 (Or.inr rfl) h
def w_X1_advance_158 (Q : PI → Prop) (s0 : Int32) (σ : PI) : Prop := ∀ τ20 : PI, τ20 = up σ 257 4 s0 → (Q τ20)
set_option maxRecDepth 100000 in
set_option maxHeartbeats 4000000 in
theorem j_X1_advance_158 {M : MC} {X : XP} {Q : PI → Prop} (cx : Cx M X RX1 cX1_advance 1 none 1) (s0 : Int32) (σ : PI) (h : w_X1_advance_158   Q s0 σ) : J M X (QF M X (qV Q)) σ 158 [none] [.int s0, .ref (X.1 257)] := by
  unfold w_X1_advance_158 at h
  refine J_putI cx dX1_advance_158 (P_X1_54 _) (by decide) rfl rfl ?_
  refine J_nm (fun τ20 e_τ20 => ?_)
  replace h := h τ20 e_τ20
  exact J_vret cx dX1_advance_161 h
def w_X1_advance_137 (Q : PI → Prop) (σ : PI) : Prop := (((σ 257 7) - (σ 257 6)) ≤ (nI 2) → w_X1_advance_158   Q (-2) σ) ∧ (¬ ((σ 257 7) - (σ 257 6)) ≤ (nI 2) → w_X1_advance_158   Q (-3) σ)
set_option maxRecDepth 100000 in
set_option maxHeartbeats 4000000 in
theorem j_X1_advance_137 {M : MC} {X : XP} {Q : PI → Prop} (cx : Cx M X RX1 cX1_advance 1 none 1) (σ : PI) (h : w_X1_advance_137   Q  σ) : J M X (QF M X (qV Q)) σ 137 [some (.ref (X.1 257))] [] := by
  unfold w_X1_advance_137 at h
  refine J_aload_n cx 0 dX1_advance_137 rfl rfl ?_
  refine J_aload_n cx 0 dX1_advance_138 rfl rfl ?_
  refine J_getI cx dX1_advance_139 F_X1_24 (by decide) rfl rfl ?_
  refine J_aload_n cx 0 dX1_advance_142 rfl rfl ?_
  refine J_getI cx dX1_advance_143 F_X1_98 (by decide) rfl rfl ?_
  refine J_isub cx dX1_advance_146 ?_
  refine J_iconst cx dX1_advance_147 (by decide : _ = ((nI 2) : Int32)) ?_
  refine J_icmp_le cx (tgt := 156) dX1_advance_148 (by decide) (fun q19 => ?_) (fun q19 => ?_)
  · replace h := h.1 q19
    refine J_bipush cx dX1_advance_156 (by decide : _ = ((-2) : Int32)) ?_
    refine J_fg 0 rfl ?_
    exact j_X1_advance_158     cx   _ _ h
  · replace h := h.2 q19
    refine J_bipush cx dX1_advance_151 (by decide : _ = ((-3) : Int32)) ?_
    refine J_goto cx (tgt := 158) dX1_advance_153 (by decide) ?_
    refine J_fg 0 rfl ?_
    exact j_X1_advance_158     cx   _ _ h
def B_X1_advance_70 (K70 : (PI → Prop)) (Q : PI → Prop) (σ : PI) : Prop := ((σ 257 1) ≤ (σ 257 7) → w_X1_advance_137   Q  σ) ∧ (¬ (σ 257 1) ≤ (σ 257 7) → vp_in (σ 257 7) 120 ∧ (wp_X1_isFigure (σ 258 ((σ 257 7) : Int32).toNatClampNeg) σ (fun r14 τ13 => ((r14 = (nI 0) → w_X1_advance_137   Q  τ13) ∧ (¬ r14 = (nI 0) → vp_in (τ13 257 7) 120 ∧ (∀ τ17 : PI, τ17 = up τ13 257 5 (((((nI 10) * (τ13 257 5)) + (τ13 258 ((τ13 257 7) : Int32).toNatClampNeg)) - (nI 48)) - ((((nI 10) * (τ13 257 5)) + (τ13 258 ((τ13 257 7) : Int32).toNatClampNeg)) - (nI 48)) / (nI 1000) * (nI 1000)) → (∀ τ18 : PI, τ18 = up τ17 257 7 ((τ17 257 7) + (nI 1)) → (K70 τ18))))))))
def w_X1_advance_70 (Q : PI → Prop) (σ : PI) : Prop := ∃ n, Lp (fun K a => B_X1_advance_70   K Q a) n σ
set_option maxRecDepth 100000 in
set_option maxHeartbeats 4000000 in
theorem j_X1_advance_70 {M : MC} {X : XP} {Q : PI → Prop} (cx : Cx M X RX1 cX1_advance 1 none 1) (σ : PI) (h : w_X1_advance_70   Q  σ) : J M X (QF M X (qV Q)) σ 70 [some (.ref (X.1 257))] [] := by
  refine Lp_J (P := fun (a : PI) => J M X (QF M X (qV Q)) a 70 [some (.ref (X.1 257))] []) (fun K70 hK a h => ?_) h
  obtain ⟨σ, rfl⟩ : ∃ σ, σ = a := ⟨_, rfl⟩
  have hK70 : ∀ (σ : PI), K70 σ → J M X (QF M X (qV Q)) σ 70 [some (.ref (X.1 257))] [] := fun  σ q => hK _ q
  replace h : B_X1_advance_70   K70 Q  σ := h
  show J M X (QF M X (qV Q)) σ 70 [some (.ref (X.1 257))] []
  unfold B_X1_advance_70 at h
  refine J_aload_n cx 0 dX1_advance_70 rfl rfl ?_
  refine J_getI cx dX1_advance_71 F_X1_24 (by decide) rfl rfl ?_
  refine J_aload_n cx 0 dX1_advance_74 rfl rfl ?_
  refine J_getI cx dX1_advance_75 F_X1_15 (by decide) rfl rfl ?_
  refine J_icmp_ge cx (tgt := 137) dX1_advance_78 (by decide) (fun q11 => ?_) (fun q11 => ?_)
  · replace h := h.1 q11
    exact j_X1_advance_137     cx   _ h
  · replace h := h.2 q11
    refine J_aload_n cx 0 dX1_advance_81 rfl rfl ?_
    refine J_getR cx (j := 258) dX1_advance_82 F_X1_9 (by decide) rfl rfl rfl ?_
    refine J_aload_n cx 0 dX1_advance_85 rfl rfl ?_
    refine J_getI cx dX1_advance_86 F_X1_24 (by decide) rfl rfl ?_
    obtain ⟨s12, h⟩ := h
    refine J_iald cx dX1_advance_89 (by decide) rfl s12 ?_
    refine J_cS cx dX1_advance_90 S_X1_111 (by decide) (ct_X1_isFigure   _ _ _ h) rfl rfl (Nat.le_of_ble_eq_true rfl) (k_i (fun r14 τ13 h => ?_))
    refine J_if_eq cx (tgt := 137) dX1_advance_93 (by decide) (fun q15 => ?_) (fun q15 => ?_)
    · replace h := h.1 q15
      exact j_X1_advance_137     cx   _ h
    · replace h := h.2 q15
      refine J_aload_n cx 0 dX1_advance_96 rfl rfl ?_
      refine J_bipush cx dX1_advance_97 (by decide : _ = ((nI 10) : Int32)) ?_
      refine J_aload_n cx 0 dX1_advance_99 rfl rfl ?_
      refine J_getI cx dX1_advance_100 F_X1_104 (by decide) rfl rfl ?_
      refine J_imul cx dX1_advance_103 ?_
      refine J_aload_n cx 0 dX1_advance_104 rfl rfl ?_
      refine J_getR cx (j := 258) dX1_advance_105 F_X1_9 (by decide) rfl rfl rfl ?_
      refine J_aload_n cx 0 dX1_advance_108 rfl rfl ?_
      refine J_getI cx dX1_advance_109 F_X1_24 (by decide) rfl rfl ?_
      obtain ⟨s16, h⟩ := h
      refine J_iald cx dX1_advance_112 (by decide) rfl s16 ?_
      refine J_iadd cx dX1_advance_113 ?_
      refine J_bipush cx dX1_advance_114 (by decide : _ = ((nI 48) : Int32)) ?_
      refine J_isub cx dX1_advance_116 ?_
      refine J_sipush cx dX1_advance_117 (by decide : _ = ((nI 1000) : Int32)) ?_
      refine J_irem cx dX1_advance_120 (by decide) ?_
      refine J_putI cx dX1_advance_121 (P_X1_104 _) (by decide) rfl rfl ?_
      refine J_nm (fun τ17 e_τ17 => ?_)
      replace h := h τ17 e_τ17
      refine J_aload_n cx 0 dX1_advance_124 rfl rfl ?_
      refine J_dup cx dX1_advance_125 rfl ?_
      refine J_getI cx dX1_advance_126 F_X1_24 (by decide) rfl rfl ?_
      refine J_iconst cx dX1_advance_129 (by decide : _ = ((nI 1) : Int32)) ?_
      refine J_iadd cx dX1_advance_130 ?_
      refine J_putI cx dX1_advance_131 (P_X1_24 _) (by decide) rfl rfl ?_
      refine J_nm (fun τ18 e_τ18 => ?_)
      replace h := h τ18 e_τ18
      refine J_goto cx (tgt := 70) dX1_advance_134 (by decide) ?_
      exact hK70   _ h
def wp_X1_advance (σ : PI) (Q : PI → Prop) : Prop := ∀ τ1 : PI, τ1 = up σ 257 6 (σ 257 7) → (((τ1 257 6) < (τ1 257 1) → vp_in (τ1 257 6) 120 ∧ (∀ τ4 : PI, τ4 = up τ1 257 4 (τ1 258 ((τ1 257 6) : Int32).toNatClampNeg) → (∀ τ5 : PI, τ5 = up τ4 257 7 ((τ4 257 6) + (nI 1)) → (wp_X1_isFigure (τ5 257 4) τ5 (fun r7 τ6 => ((¬ r7 = (nI 0) → ∀ τ9 : PI, τ9 = up τ6 257 5 ((τ6 257 4) - (nI 48)) → (w_X1_advance_70   Q  τ9)) ∧ (r7 = (nI 0) → Q τ6))))))) ∧ (¬ (τ1 257 6) < (τ1 257 1) → ∀ τ10 : PI, τ10 = up τ1 257 4 (-1) → (Q τ10)))
set_option maxRecDepth 100000 in
set_option maxHeartbeats 4000000 in
theorem ct_X1_advance {l : Launch} {X : XP} (σ : PI) (Q : PI → Prop) (h : wp_X1_advance   σ Q) : Ct l yX1_advance cX1_advance 1 none 1 X [.ref (X.1 257)] σ (qV Q) := by
  refine Ct_of (L := [some (.ref (X.1 257))]) (by decide) (Nat.le_of_ble_eq_true rfl) rfl (fun M hl cx => ?_)
  subst hl
  unfold wp_X1_advance at h
  refine J_aload_n cx 0 dX1_advance_0 rfl rfl ?_
  refine J_aload_n cx 0 dX1_advance_1 rfl rfl ?_
  refine J_getI cx dX1_advance_2 F_X1_24 (by decide) rfl rfl ?_
  refine J_putI cx dX1_advance_5 (P_X1_98 _) (by decide) rfl rfl ?_
  refine J_nm (fun τ1 e_τ1 => ?_)
  replace h := h τ1 e_τ1
  refine J_aload_n cx 0 dX1_advance_8 rfl rfl ?_
  refine J_getI cx dX1_advance_9 F_X1_98 (by decide) rfl rfl ?_
  refine J_aload_n cx 0 dX1_advance_12 rfl rfl ?_
  refine J_getI cx dX1_advance_13 F_X1_15 (by decide) rfl rfl ?_
  refine J_icmp_lt cx (tgt := 25) dX1_advance_16 (by decide) (fun q2 => ?_) (fun q2 => ?_)
  · replace h := h.1 q2
    refine J_aload_n cx 0 dX1_advance_25 rfl rfl ?_
    refine J_aload_n cx 0 dX1_advance_26 rfl rfl ?_
    refine J_getR cx (j := 258) dX1_advance_27 F_X1_9 (by decide) rfl rfl rfl ?_
    refine J_aload_n cx 0 dX1_advance_30 rfl rfl ?_
    refine J_getI cx dX1_advance_31 F_X1_98 (by decide) rfl rfl ?_
    obtain ⟨s3, h⟩ := h
    refine J_iald cx dX1_advance_34 (by decide) rfl s3 ?_
    refine J_putI cx dX1_advance_35 (P_X1_54 _) (by decide) rfl rfl ?_
    refine J_nm (fun τ4 e_τ4 => ?_)
    replace h := h τ4 e_τ4
    refine J_aload_n cx 0 dX1_advance_38 rfl rfl ?_
    refine J_aload_n cx 0 dX1_advance_39 rfl rfl ?_
    refine J_getI cx dX1_advance_40 F_X1_98 (by decide) rfl rfl ?_
    refine J_iconst cx dX1_advance_43 (by decide : _ = ((nI 1) : Int32)) ?_
    refine J_iadd cx dX1_advance_44 ?_
    refine J_putI cx dX1_advance_45 (P_X1_24 _) (by decide) rfl rfl ?_
    refine J_nm (fun τ5 e_τ5 => ?_)
    replace h := h τ5 e_τ5
    refine J_aload_n cx 0 dX1_advance_48 rfl rfl ?_
    refine J_getI cx dX1_advance_49 F_X1_54 (by decide) rfl rfl ?_
    refine J_cS cx dX1_advance_52 S_X1_111 (by decide) (ct_X1_isFigure   _ _ _ h) rfl rfl (Nat.le_of_ble_eq_true rfl) (k_i (fun r7 τ6 h => ?_))
    refine J_if_ne cx (tgt := 59) dX1_advance_55 (by decide) (fun q8 => ?_) (fun q8 => ?_)
    · replace h := h.1 q8
      refine J_aload_n cx 0 dX1_advance_59 rfl rfl ?_
      refine J_aload_n cx 0 dX1_advance_60 rfl rfl ?_
      refine J_getI cx dX1_advance_61 F_X1_54 (by decide) rfl rfl ?_
      refine J_bipush cx dX1_advance_64 (by decide : _ = ((nI 48) : Int32)) ?_
      refine J_isub cx dX1_advance_66 ?_
      refine J_putI cx dX1_advance_67 (P_X1_104 _) (by decide) rfl rfl ?_
      refine J_nm (fun τ9 e_τ9 => ?_)
      replace h := h τ9 e_τ9
      exact j_X1_advance_70     cx   _ h
    · replace h := h.2 q8
      exact J_vret cx dX1_advance_58 h
  · replace h := h.2 q2
    refine J_aload_n cx 0 dX1_advance_19 rfl rfl ?_
    refine J_iconst cx dX1_advance_20 (by decide : _ = ((-1) : Int32)) ?_
    refine J_putI cx dX1_advance_21 (P_X1_54 _) (by decide) rfl rfl ?_
    refine J_nm (fun τ10 e_τ10 => ?_)
    replace h := h τ10 e_τ10
    exact J_vret cx dX1_advance_24 h
def wp_X1_failBy (a0 : Int32) (σ : PI) (Q : Int32 → PI → Prop) : Prop := ∀ τ1 : PI, τ1 = up σ 257 2 a0 → (∀ τ2 : PI, τ2 = up τ1 257 3 (τ1 257 6) → (Q (nI 0) τ2))
set_option maxRecDepth 100000 in
set_option maxHeartbeats 4000000 in
theorem ct_X1_failBy {l : Launch} {X : XP} (a0 : Int32) (σ : PI) (Q : Int32 → PI → Prop) (h : wp_X1_failBy  a0 σ Q) : Ct l yX1_failBy cX1_failBy 2 (some .boolean) 0 X [.ref (X.1 257), .int a0] σ (qI Q) := by
  refine Ct_of (L := [some (.ref (X.1 257)), some (.int a0)]) (by decide) (Nat.le_of_ble_eq_true rfl) rfl (fun M hl cx => ?_)
  subst hl
  unfold wp_X1_failBy at h
  refine J_aload_n cx 0 dX1_failBy_0 rfl rfl ?_
  refine J_iload_n cx 1 dX1_failBy_1 rfl rfl ?_
  refine J_putI cx dX1_failBy_2 (P_X1_95 _) (by decide) rfl rfl ?_
  refine J_nm (fun τ1 e_τ1 => ?_)
  replace h := h τ1 e_τ1
  refine J_aload_n cx 0 dX1_failBy_5 rfl rfl ?_
  refine J_aload_n cx 0 dX1_failBy_6 rfl rfl ?_
  refine J_getI cx dX1_failBy_7 F_X1_98 (by decide) rfl rfl ?_
  refine J_putI cx dX1_failBy_10 (P_X1_101 _) (by decide) rfl rfl ?_
  refine J_nm (fun τ2 e_τ2 => ?_)
  replace h := h τ2 e_τ2
  refine J_iconst cx dX1_failBy_13 (by decide : _ = ((nI 0) : Int32)) ?_
  exact J_zret cx dX1_failBy_14 (Or.inl rfl) h
def wp_X1_take (a0 : Int32) (σ : PI) (Q : Int32 → PI → Prop) : Prop := ((σ 257 4) = a0 → wp_X1_advance  σ (fun τ2 => (Q (nI 1) τ2))) ∧ (¬ (σ 257 4) = a0 → wp_X1_failBy (nI 1) σ (fun r4 τ3 => (bz r4 ∧ Q r4 τ3)))
set_option maxRecDepth 100000 in
set_option maxHeartbeats 4000000 in
theorem ct_X1_take {l : Launch} {X : XP} (a0 : Int32) (σ : PI) (Q : Int32 → PI → Prop) (h : wp_X1_take  a0 σ Q) : Ct l yX1_take cX1_take 2 (some .boolean) 2 X [.ref (X.1 257), .int a0] σ (qI Q) := by
  refine Ct_of (L := [some (.ref (X.1 257)), some (.int a0)]) (by decide) (Nat.le_of_ble_eq_true rfl) rfl (fun M hl cx => ?_)
  subst hl
  unfold wp_X1_take at h
  refine J_aload_n cx 0 dX1_take_0 rfl rfl ?_
  refine J_getI cx dX1_take_1 F_X1_54 (by decide) rfl rfl ?_
  refine J_iload_n cx 1 dX1_take_4 rfl rfl ?_
  refine J_icmp_eq cx (tgt := 14) dX1_take_5 (by decide) (fun q1 => ?_) (fun q1 => ?_)
  · replace h := h.1 q1
    refine J_aload_n cx 0 dX1_take_14 rfl rfl ?_
    refine J_cV cx dX1_take_15 V_X1_27 (by decide) (by decide) rfl (ct_X1_advance    _ _ h) rfl rfl (Nat.le_of_ble_eq_true rfl) (k_v (fun τ2 h => ?_))
    refine J_iconst cx dX1_take_18 (by decide : _ = ((nI 1) : Int32)) ?_
    exact J_zret cx dX1_take_19 (Or.inr rfl) h
  · replace h := h.2 q1
    refine J_aload_n cx 0 dX1_take_8 rfl rfl ?_
    refine J_iconst cx dX1_take_9 (by decide : _ = ((nI 1) : Int32)) ?_
    refine J_cV cx dX1_take_10 V_X1_57 (by decide) (by decide) rfl (ct_X1_failBy   _ _ _ h) rfl rfl (Nat.le_of_ble_eq_true rfl) (k_i (fun r4 τ3 h => ?_))
    exact J_zret cx dX1_take_13 h.1 h.2
def wp_X1_takeNumber (a0 : Int32) (a1 : Int32) (σ : PI) (Q : Int32 → PI → Prop) : Prop := ((σ 257 4) = (-2) → wp_X4_within (σ 257 5) a0 a1 σ (fun r3 τ2 => ((¬ r3 = (nI 0) → ∀ x5 : Int32, x5 = (τ2 257 5) → (wp_X1_advance  τ2 (fun τ6 => (Q x5 τ6)))) ∧ (r3 = (nI 0) → wp_X1_failBy (nI 2) τ2 (fun r8 τ7 => (Q (-1) τ7)))))) ∧ (¬ (σ 257 4) = (-2) → wp_X1_failBy (nI 1) σ (fun r10 τ9 => (Q (-1) τ9)))
set_option maxRecDepth 100000 in
set_option maxHeartbeats 4000000 in
theorem ct_X1_takeNumber {l : Launch} {X : XP} (a0 : Int32) (a1 : Int32) (σ : PI) (Q : Int32 → PI → Prop) (h : wp_X1_takeNumber  a0 a1 σ Q) : Ct l yX1_takeNumber cX1_takeNumber 4 (some .int) 2 X [.ref (X.1 257), .int a0, .int a1] σ (qI Q) := by
  refine Ct_of (L := [some (.ref (X.1 257)), some (.int a0), some (.int a1), none]) (by decide) (Nat.le_of_ble_eq_true rfl) rfl (fun M hl cx => ?_)
  subst hl
  unfold wp_X1_takeNumber at h
  refine J_aload_n cx 0 dX1_takeNumber_0 rfl rfl ?_
  refine J_getI cx dX1_takeNumber_1 F_X1_54 (by decide) rfl rfl ?_
  refine J_bipush cx dX1_takeNumber_4 (by decide : _ = ((-2) : Int32)) ?_
  refine J_icmp_eq cx (tgt := 17) dX1_takeNumber_6 (by decide) (fun q1 => ?_) (fun q1 => ?_)
  · replace h := h.1 q1
    refine J_aload_n cx 0 dX1_takeNumber_17 rfl rfl ?_
    refine J_getI cx dX1_takeNumber_18 F_X1_104 (by decide) rfl rfl ?_
    refine J_iload_n cx 1 dX1_takeNumber_21 rfl rfl ?_
    refine J_iload_n cx 2 dX1_takeNumber_22 rfl rfl ?_
    refine J_cN cx dX1_takeNumber_23 N_X1_107 (by decide) (ct_X4_within   _ _ _ _ _ h) rfl rfl (Nat.le_of_ble_eq_true rfl) (k_i (fun r3 τ2 h => ?_))
    refine J_if_ne cx (tgt := 37) dX1_takeNumber_26 (by decide) (fun q4 => ?_) (fun q4 => ?_)
    · replace h := h.1 q4
      refine J_aload_n cx 0 dX1_takeNumber_37 rfl rfl ?_
      refine J_getI cx dX1_takeNumber_38 F_X1_104 (by decide) rfl rfl ?_
      refine J_topi (fun x5 e_x5 => ?_)
      replace h := h x5 e_x5
      refine J_istore_n cx 3 dX1_takeNumber_41 rfl (by decide) rfl rfl ?_
      refine J_aload_n cx 0 dX1_takeNumber_42 rfl rfl ?_
      refine J_cV cx dX1_takeNumber_43 V_X1_27 (by decide) (by decide) rfl (ct_X1_advance    _ _ h) rfl rfl (Nat.le_of_ble_eq_true rfl) (k_v (fun τ6 h => ?_))
      refine J_iload_n cx 3 dX1_takeNumber_46 rfl rfl ?_
      exact J_iret cx dX1_takeNumber_47 h
    · replace h := h.2 q4
      refine J_aload_n cx 0 dX1_takeNumber_29 rfl rfl ?_
      refine J_iconst cx dX1_takeNumber_30 (by decide : _ = ((nI 2) : Int32)) ?_
      refine J_cV cx dX1_takeNumber_31 V_X1_57 (by decide) (by decide) rfl (ct_X1_failBy   _ _ _ h) rfl rfl (Nat.le_of_ble_eq_true rfl) (k_i (fun r8 τ7 h => ?_))
      refine J_pop cx dX1_takeNumber_34 rfl ?_
      refine J_iconst cx dX1_takeNumber_35 (by decide : _ = ((-1) : Int32)) ?_
      exact J_iret cx dX1_takeNumber_36 h
  · replace h := h.2 q1
    refine J_aload_n cx 0 dX1_takeNumber_9 rfl rfl ?_
    refine J_iconst cx dX1_takeNumber_10 (by decide : _ = ((nI 1) : Int32)) ?_
    refine J_cV cx dX1_takeNumber_11 V_X1_57 (by decide) (by decide) rfl (ct_X1_failBy   _ _ _ h) rfl rfl (Nat.le_of_ble_eq_true rfl) (k_i (fun r10 τ9 h => ?_))
    refine J_pop cx dX1_takeNumber_14 rfl ?_
    refine J_iconst cx dX1_takeNumber_15 (by decide : _ = ((-1) : Int32)) ?_
    exact J_iret cx dX1_takeNumber_16 h
def wp_X1_readLaw (o0 : Nat) (σ : PI) (Q : Int32 → PI → Prop) : Prop := wp_X1_take (nI 100) σ (fun r2 τ1 => ((¬ r2 = (nI 0) → wp_X1_takeNumber (nI 1) (nI 9) τ1 (fun r5 τ4 => (∀ τ6 : PI, τ6 = up τ4 (tc o0 0) 10 r5 → (((τ6 (tc o0 0) 10) < (nI 0) → Q (nI 0) τ6) ∧ (¬ (τ6 (tc o0 0) 10) < (nI 0) → wp_X1_take (nI 44) τ6 (fun r9 τ8 => ((¬ r9 = (nI 0) → wp_X1_takeNumber (nI 0) (nI 9) τ8 (fun r12 τ11 => (∀ τ13 : PI, τ13 = up τ11 (tc o0 0) 11 r12 → (((τ13 (tc o0 0) 11) < (nI 0) → Q (nI 0) τ13) ∧ (¬ (τ13 (tc o0 0) 11) < (nI 0) → wp_X1_take (nI 59) τ13 (fun r16 τ15 => ((r16 = (nI 0) → Q (nI 0) τ15) ∧ (¬ r16 = (nI 0) → Q (nI 1) τ15)))))))) ∧ (r9 = (nI 0) → Q (nI 0) τ8)))))))) ∧ (r2 = (nI 0) → Q (nI 0) τ1)))
set_option maxRecDepth 100000 in
set_option maxHeartbeats 4000000 in
theorem ct_X1_readLaw {l : Launch} {X : XP} (o0 : Nat) (ho0 : o0 < 28) (σ : PI) (Q : Int32 → PI → Prop) (h : wp_X1_readLaw o0  σ Q) : Ct l yX1_readLaw cX1_readLaw 2 (some .boolean) 3 X [.ref (X.1 257), .ref (X.1 (tc o0 0))] σ (qI Q) := by
  refine Ct_of (L := [some (.ref (X.1 257)), some (.ref (X.1 (tc o0 0)))]) (by decide) (Nat.le_of_ble_eq_true rfl) rfl (fun M hl cx => ?_)
  subst hl
  unfold wp_X1_readLaw at h
  refine J_aload_n cx 0 dX1_readLaw_0 rfl rfl ?_
  refine J_bipush cx dX1_readLaw_1 (by decide : _ = ((nI 100) : Int32)) ?_
  refine J_cV cx dX1_readLaw_3 V_X1_40 (by decide) (by decide) rfl (ct_X1_take   _ _ _ h) rfl rfl (Nat.le_of_ble_eq_true rfl) (k_i (fun r2 τ1 h => ?_))
  refine J_if_ne cx (tgt := 11) dX1_readLaw_6 (by decide) (fun q3 => ?_) (fun q3 => ?_)
  · replace h := h.1 q3
    refine J_aload_n cx 1 dX1_readLaw_11 rfl rfl ?_
    refine J_aload_n cx 0 dX1_readLaw_12 rfl rfl ?_
    refine J_iconst cx dX1_readLaw_13 (by decide : _ = ((nI 1) : Int32)) ?_
    refine J_bipush cx dX1_readLaw_14 (by decide : _ = ((nI 9) : Int32)) ?_
    refine J_cV cx dX1_readLaw_16 V_X1_44 (by decide) (by decide) rfl (ct_X1_takeNumber   _ _ _ _ h) rfl rfl (Nat.le_of_ble_eq_true rfl) (k_i (fun r5 τ4 h => ?_))
    refine J_putI cx dX1_readLaw_19 (P_X1_48 _) (tc_lt ho0 (by decide)) (kq_t0 ho0) rfl ?_
    refine J_nm (fun τ6 e_τ6 => ?_)
    replace h := h τ6 e_τ6
    refine J_aload_n cx 1 dX1_readLaw_22 rfl rfl ?_
    refine J_getI cx dX1_readLaw_23 F_X1_48 (tc_lt ho0 (by decide)) (kq_t0 ho0) rfl ?_
    refine J_if_lt cx (tgt := 38) dX1_readLaw_26 (by decide) (fun q7 => ?_) (fun q7 => ?_)
    · replace h := h.1 q7
      refine J_iconst cx dX1_readLaw_38 (by decide : _ = ((nI 0) : Int32)) ?_
      exact J_zret cx dX1_readLaw_39 (Or.inl rfl) h
    · replace h := h.2 q7
      refine J_aload_n cx 0 dX1_readLaw_29 rfl rfl ?_
      refine J_bipush cx dX1_readLaw_30 (by decide : _ = ((nI 44) : Int32)) ?_
      refine J_cV cx dX1_readLaw_32 V_X1_40 (by decide) (by decide) rfl (ct_X1_take   _ _ _ h) rfl rfl (Nat.le_of_ble_eq_true rfl) (k_i (fun r9 τ8 h => ?_))
      refine J_if_ne cx (tgt := 40) dX1_readLaw_35 (by decide) (fun q10 => ?_) (fun q10 => ?_)
      · replace h := h.1 q10
        refine J_aload_n cx 1 dX1_readLaw_40 rfl rfl ?_
        refine J_aload_n cx 0 dX1_readLaw_41 rfl rfl ?_
        refine J_iconst cx dX1_readLaw_42 (by decide : _ = ((nI 0) : Int32)) ?_
        refine J_bipush cx dX1_readLaw_43 (by decide : _ = ((nI 9) : Int32)) ?_
        refine J_cV cx dX1_readLaw_45 V_X1_44 (by decide) (by decide) rfl (ct_X1_takeNumber   _ _ _ _ h) rfl rfl (Nat.le_of_ble_eq_true rfl) (k_i (fun r12 τ11 h => ?_))
        refine J_putI cx dX1_readLaw_48 (P_X1_51 _) (tc_lt ho0 (by decide)) (kq_t0 ho0) rfl ?_
        refine J_nm (fun τ13 e_τ13 => ?_)
        replace h := h τ13 e_τ13
        refine J_aload_n cx 1 dX1_readLaw_51 rfl rfl ?_
        refine J_getI cx dX1_readLaw_52 F_X1_51 (tc_lt ho0 (by decide)) (kq_t0 ho0) rfl ?_
        refine J_if_lt cx (tgt := 71) dX1_readLaw_55 (by decide) (fun q14 => ?_) (fun q14 => ?_)
        · replace h := h.1 q14
          refine J_iconst cx dX1_readLaw_71 (by decide : _ = ((nI 0) : Int32)) ?_
          exact J_zret cx dX1_readLaw_72 (Or.inl rfl) h
        · replace h := h.2 q14
          refine J_aload_n cx 0 dX1_readLaw_58 rfl rfl ?_
          refine J_bipush cx dX1_readLaw_59 (by decide : _ = ((nI 59) : Int32)) ?_
          refine J_cV cx dX1_readLaw_61 V_X1_40 (by decide) (by decide) rfl (ct_X1_take   _ _ _ h) rfl rfl (Nat.le_of_ble_eq_true rfl) (k_i (fun r16 τ15 h => ?_))
          refine J_if_eq cx (tgt := 71) dX1_readLaw_64 (by decide) (fun q17 => ?_) (fun q17 => ?_)
          · replace h := h.1 q17
            refine J_iconst cx dX1_readLaw_71 (by decide : _ = ((nI 0) : Int32)) ?_
            exact J_zret cx dX1_readLaw_72 (Or.inl rfl) h
          · replace h := h.2 q17
            refine J_iconst cx dX1_readLaw_67 (by decide : _ = ((nI 1) : Int32)) ?_
            refine J_goto cx (tgt := 72) dX1_readLaw_68 (by decide) ?_
            exact J_zret cx dX1_readLaw_72 (Or.inr rfl) h
      · replace h := h.2 q10
        refine J_iconst cx dX1_readLaw_38 (by decide : _ = ((nI 0) : Int32)) ?_
        exact J_zret cx dX1_readLaw_39 (Or.inl rfl) h
  · replace h := h.2 q3
    refine J_iconst cx dX1_readLaw_9 (by decide : _ = ((nI 0) : Int32)) ?_
    exact J_zret cx dX1_readLaw_10 (Or.inl rfl) h
def wp_X1_kindOfSort (a0 : Int32) (σ : PI) (Q : Int32 → PI → Prop) : Prop := (a0 = (nI 102) → Q (nI 2) σ) ∧ (a0 = (nI 105) → Q (nI 4) σ) ∧ (a0 = (nI 112) → Q (nI 1) σ) ∧ (a0 = (nI 115) → Q (nI 3) σ) ∧ (a0 = (nI 119) → Q (nI 5) σ) ∧ (¬ a0 = (nI 102) ∧ ¬ a0 = (nI 105) ∧ ¬ a0 = (nI 112) ∧ ¬ a0 = (nI 115) ∧ ¬ a0 = (nI 119) → Q (nI 0) σ)
set_option maxRecDepth 100000 in
set_option maxHeartbeats 4000000 in
theorem ct_X1_kindOfSort {l : Launch} {X : XP} (a0 : Int32) (σ : PI) (Q : Int32 → PI → Prop) (h : wp_X1_kindOfSort  a0 σ Q) : Ct l yX1_kindOfSort cX1_kindOfSort 1 (some .int) 0 X [.int a0] σ (qI Q) := by
  refine Ct_of (L := [some (.int a0)]) (by decide) (Nat.le_of_ble_eq_true rfl) rfl (fun M hl cx => ?_)
  subst hl
  unfold wp_X1_kindOfSort at h
  refine J_iload_n cx 0 dX1_kindOfSort_0 rfl rfl ?_
  by_cases q1 : a0 = (nI 102)
  · refine J_lsw cx (tgt := 54) dX1_kindOfSort_1 (by decide) (by rw [q1]) (by decide) ?_
    replace h := h.1 q1
    refine J_iconst cx dX1_kindOfSort_54 (by decide : _ = ((nI 2) : Int32)) ?_
    exact J_iret cx dX1_kindOfSort_55 h
  by_cases q2 : a0 = (nI 105)
  · refine J_lsw cx (tgt := 58) dX1_kindOfSort_1 (by decide) (by rw [q2]) (by decide) ?_
    replace h := h.2.1 q2
    refine J_iconst cx dX1_kindOfSort_58 (by decide : _ = ((nI 4) : Int32)) ?_
    exact J_iret cx dX1_kindOfSort_59 h
  by_cases q3 : a0 = (nI 112)
  · refine J_lsw cx (tgt := 52) dX1_kindOfSort_1 (by decide) (by rw [q3]) (by decide) ?_
    replace h := h.2.2.1 q3
    refine J_iconst cx dX1_kindOfSort_52 (by decide : _ = ((nI 1) : Int32)) ?_
    exact J_iret cx dX1_kindOfSort_53 h
  by_cases q4 : a0 = (nI 115)
  · refine J_lsw cx (tgt := 56) dX1_kindOfSort_1 (by decide) (by rw [q4]) (by decide) ?_
    replace h := h.2.2.2.1 q4
    refine J_iconst cx dX1_kindOfSort_56 (by decide : _ = ((nI 3) : Int32)) ?_
    exact J_iret cx dX1_kindOfSort_57 h
  by_cases q5 : a0 = (nI 119)
  · refine J_lsw cx (tgt := 60) dX1_kindOfSort_1 (by decide) (by rw [q5]) (by decide) ?_
    replace h := h.2.2.2.2.1 q5
    refine J_iconst cx dX1_kindOfSort_60 (by decide : _ = ((nI 5) : Int32)) ?_
    exact J_iret cx dX1_kindOfSort_61 h
  refine J_lsw cx (tgt := 62) dX1_kindOfSort_1 (by decide) (by show Op.lookupswitch.offset [(102, 53), (105, 57), (112, 51), (115, 55), (119, 59)] 61 _ = 61; rw [lv_osw (a := 102) q1 (by decide), lv_osw (a := 105) q2 (by decide), lv_osw (a := 112) q3 (by decide), lv_osw (a := 115) q4 (by decide), lv_osw (a := 119) q5 (by decide)] <;> rfl) (by decide) ?_
  replace h := h.2.2.2.2.2 ⟨q1, q2, q3, q4, q5⟩
  refine J_iconst cx dX1_kindOfSort_62 (by decide : _ = ((nI 0) : Int32)) ?_
  exact J_iret cx dX1_kindOfSort_63 h
def wp_X1_readLeaver (o0 : Nat) (a1 : Int32) (σ : PI) (Q : Int32 → PI → Prop) : Prop := wp_X1_kindOfSort (σ 257 4) σ (fun r2 τ1 => (vp_in a1 6 ∧ (∀ τ4 : PI, τ4 = up τ1 (tc o0 3) (a1 : Int32).toNatClampNeg r2 → (wp_X1_advance  τ4 (fun τ5 => (wp_X1_takeNumber (nI 0) ((τ5 (tc o0 0) 8) - (nI 1)) τ5 (fun r7 τ6 => (vp_in a1 6 ∧ (∀ τ9 : PI, τ9 = up τ6 (tc o0 4) (a1 : Int32).toNatClampNeg r7 → (vp_in a1 6 ∧ (((τ9 (tc o0 4) (a1 : Int32).toNatClampNeg) < (nI 0) → Q (nI 0) τ9) ∧ (¬ (τ9 (tc o0 4) (a1 : Int32).toNatClampNeg) < (nI 0) → wp_X1_take (nI 44) τ9 (fun r13 τ12 => ((¬ r13 = (nI 0) → wp_X1_takeNumber (nI 1) (nI 9) τ12 (fun r16 τ15 => (vp_in a1 6 ∧ (∀ τ18 : PI, τ18 = up τ15 (tc o0 5) (a1 : Int32).toNatClampNeg r16 → (vp_in a1 6 ∧ (((τ18 (tc o0 5) (a1 : Int32).toNatClampNeg) < (nI 0) → Q (nI 0) τ18) ∧ (¬ (τ18 (tc o0 5) (a1 : Int32).toNatClampNeg) < (nI 0) → wp_X1_take (nI 44) τ18 (fun r22 τ21 => ((¬ r22 = (nI 0) → wp_X1_takeNumber (nI 0) (nI 4) τ21 (fun r25 τ24 => (vp_in a1 6 ∧ (∀ τ27 : PI, τ27 = up τ24 (tc o0 6) (a1 : Int32).toNatClampNeg r25 → (vp_in a1 6 ∧ (((τ27 (tc o0 6) (a1 : Int32).toNatClampNeg) < (nI 0) → Q (nI 0) τ27) ∧ (¬ (τ27 (tc o0 6) (a1 : Int32).toNatClampNeg) < (nI 0) → wp_X1_take (nI 59) τ27 (fun r31 τ30 => ((r31 = (nI 0) → Q (nI 0) τ30) ∧ (¬ r31 = (nI 0) → Q (nI 1) τ30)))))))))) ∧ (r22 = (nI 0) → Q (nI 0) τ21)))))))))) ∧ (r13 = (nI 0) → Q (nI 0) τ12)))))))))))))))
set_option maxRecDepth 100000 in
set_option maxHeartbeats 4000000 in
theorem ct_X1_readLeaver {l : Launch} {X : XP} (o0 : Nat) (ho0 : o0 < 28) (a1 : Int32) (σ : PI) (Q : Int32 → PI → Prop) (h : wp_X1_readLeaver o0 a1 σ Q) : Ct l yX1_readLeaver cX1_readLeaver 3 (some .boolean) 3 X [.ref (X.1 257), .ref (X.1 (tc o0 0)), .int a1] σ (qI Q) := by
  refine Ct_of (L := [some (.ref (X.1 257)), some (.ref (X.1 (tc o0 0))), some (.int a1)]) (by decide) (Nat.le_of_ble_eq_true rfl) rfl (fun M hl cx => ?_)
  subst hl
  unfold wp_X1_readLeaver at h
  refine J_aload_n cx 1 dX1_readLeaver_0 rfl rfl ?_
  refine J_getR cx (j := (tc o0 3)) dX1_readLeaver_1 F_X1_83 (tc_lt ho0 (by decide)) (kq_t0 ho0) rfl (rq_t ho0) ?_
  refine J_iload_n cx 2 dX1_readLeaver_4 rfl rfl ?_
  refine J_aload_n cx 0 dX1_readLeaver_5 rfl rfl ?_
  refine J_getI cx dX1_readLeaver_6 F_X1_54 (by decide) rfl rfl ?_
  refine J_cS cx dX1_readLeaver_9 S_X1_73 (by decide) (ct_X1_kindOfSort   _ _ _ h) rfl rfl (Nat.le_of_ble_eq_true rfl) (k_i (fun r2 τ1 h => ?_))
  obtain ⟨s3, h⟩ := h
  refine J_iast cx dX1_readLeaver_12 (tc_lt ho0 (by decide)) (kq_t ho0 (by decide)) s3 ?_
  refine J_nm (fun τ4 e_τ4 => ?_)
  replace h := h τ4 e_τ4
  refine J_aload_n cx 0 dX1_readLeaver_13 rfl rfl ?_
  refine J_cV cx dX1_readLeaver_14 V_X1_27 (by decide) (by decide) rfl (ct_X1_advance    _ _ h) rfl rfl (Nat.le_of_ble_eq_true rfl) (k_v (fun τ5 h => ?_))
  refine J_aload_n cx 1 dX1_readLeaver_17 rfl rfl ?_
  refine J_getR cx (j := (tc o0 4)) dX1_readLeaver_18 F_X1_86 (tc_lt ho0 (by decide)) (kq_t0 ho0) rfl (rq_t ho0) ?_
  refine J_iload_n cx 2 dX1_readLeaver_21 rfl rfl ?_
  refine J_aload_n cx 0 dX1_readLeaver_22 rfl rfl ?_
  refine J_iconst cx dX1_readLeaver_23 (by decide : _ = ((nI 0) : Int32)) ?_
  refine J_aload_n cx 1 dX1_readLeaver_24 rfl rfl ?_
  refine J_getI cx dX1_readLeaver_25 F_X1_64 (tc_lt ho0 (by decide)) (kq_t0 ho0) rfl ?_
  refine J_iconst cx dX1_readLeaver_28 (by decide : _ = ((nI 1) : Int32)) ?_
  refine J_isub cx dX1_readLeaver_29 ?_
  refine J_cV cx dX1_readLeaver_30 V_X1_44 (by decide) (by decide) rfl (ct_X1_takeNumber   _ _ _ _ h) rfl rfl (Nat.le_of_ble_eq_true rfl) (k_i (fun r7 τ6 h => ?_))
  obtain ⟨s8, h⟩ := h
  refine J_iast cx dX1_readLeaver_33 (tc_lt ho0 (by decide)) (kq_t ho0 (by decide)) s8 ?_
  refine J_nm (fun τ9 e_τ9 => ?_)
  replace h := h τ9 e_τ9
  refine J_aload_n cx 1 dX1_readLeaver_34 rfl rfl ?_
  refine J_getR cx (j := (tc o0 4)) dX1_readLeaver_35 F_X1_86 (tc_lt ho0 (by decide)) (kq_t0 ho0) rfl (rq_t ho0) ?_
  refine J_iload_n cx 2 dX1_readLeaver_38 rfl rfl ?_
  obtain ⟨s10, h⟩ := h
  refine J_iald cx dX1_readLeaver_39 (tc_lt ho0 (by decide)) (kq_t ho0 (by decide)) s10 ?_
  refine J_if_lt cx (tgt := 52) dX1_readLeaver_40 (by decide) (fun q11 => ?_) (fun q11 => ?_)
  · replace h := h.1 q11
    refine J_iconst cx dX1_readLeaver_52 (by decide : _ = ((nI 0) : Int32)) ?_
    exact J_zret cx dX1_readLeaver_53 (Or.inl rfl) h
  · replace h := h.2 q11
    refine J_aload_n cx 0 dX1_readLeaver_43 rfl rfl ?_
    refine J_bipush cx dX1_readLeaver_44 (by decide : _ = ((nI 44) : Int32)) ?_
    refine J_cV cx dX1_readLeaver_46 V_X1_40 (by decide) (by decide) rfl (ct_X1_take   _ _ _ h) rfl rfl (Nat.le_of_ble_eq_true rfl) (k_i (fun r13 τ12 h => ?_))
    refine J_if_ne cx (tgt := 54) dX1_readLeaver_49 (by decide) (fun q14 => ?_) (fun q14 => ?_)
    · replace h := h.1 q14
      refine J_aload_n cx 1 dX1_readLeaver_54 rfl rfl ?_
      refine J_getR cx (j := (tc o0 5)) dX1_readLeaver_55 F_X1_89 (tc_lt ho0 (by decide)) (kq_t0 ho0) rfl (rq_t ho0) ?_
      refine J_iload_n cx 2 dX1_readLeaver_58 rfl rfl ?_
      refine J_aload_n cx 0 dX1_readLeaver_59 rfl rfl ?_
      refine J_iconst cx dX1_readLeaver_60 (by decide : _ = ((nI 1) : Int32)) ?_
      refine J_bipush cx dX1_readLeaver_61 (by decide : _ = ((nI 9) : Int32)) ?_
      refine J_cV cx dX1_readLeaver_63 V_X1_44 (by decide) (by decide) rfl (ct_X1_takeNumber   _ _ _ _ h) rfl rfl (Nat.le_of_ble_eq_true rfl) (k_i (fun r16 τ15 h => ?_))
      obtain ⟨s17, h⟩ := h
      refine J_iast cx dX1_readLeaver_66 (tc_lt ho0 (by decide)) (kq_t ho0 (by decide)) s17 ?_
      refine J_nm (fun τ18 e_τ18 => ?_)
      replace h := h τ18 e_τ18
      refine J_aload_n cx 1 dX1_readLeaver_67 rfl rfl ?_
      refine J_getR cx (j := (tc o0 5)) dX1_readLeaver_68 F_X1_89 (tc_lt ho0 (by decide)) (kq_t0 ho0) rfl (rq_t ho0) ?_
      refine J_iload_n cx 2 dX1_readLeaver_71 rfl rfl ?_
      obtain ⟨s19, h⟩ := h
      refine J_iald cx dX1_readLeaver_72 (tc_lt ho0 (by decide)) (kq_t ho0 (by decide)) s19 ?_
      refine J_if_lt cx (tgt := 85) dX1_readLeaver_73 (by decide) (fun q20 => ?_) (fun q20 => ?_)
      · replace h := h.1 q20
        refine J_iconst cx dX1_readLeaver_85 (by decide : _ = ((nI 0) : Int32)) ?_
        exact J_zret cx dX1_readLeaver_86 (Or.inl rfl) h
      · replace h := h.2 q20
        refine J_aload_n cx 0 dX1_readLeaver_76 rfl rfl ?_
        refine J_bipush cx dX1_readLeaver_77 (by decide : _ = ((nI 44) : Int32)) ?_
        refine J_cV cx dX1_readLeaver_79 V_X1_40 (by decide) (by decide) rfl (ct_X1_take   _ _ _ h) rfl rfl (Nat.le_of_ble_eq_true rfl) (k_i (fun r22 τ21 h => ?_))
        refine J_if_ne cx (tgt := 87) dX1_readLeaver_82 (by decide) (fun q23 => ?_) (fun q23 => ?_)
        · replace h := h.1 q23
          refine J_aload_n cx 1 dX1_readLeaver_87 rfl rfl ?_
          refine J_getR cx (j := (tc o0 6)) dX1_readLeaver_88 F_X1_92 (tc_lt ho0 (by decide)) (kq_t0 ho0) rfl (rq_t ho0) ?_
          refine J_iload_n cx 2 dX1_readLeaver_91 rfl rfl ?_
          refine J_aload_n cx 0 dX1_readLeaver_92 rfl rfl ?_
          refine J_iconst cx dX1_readLeaver_93 (by decide : _ = ((nI 0) : Int32)) ?_
          refine J_iconst cx dX1_readLeaver_94 (by decide : _ = ((nI 4) : Int32)) ?_
          refine J_cV cx dX1_readLeaver_95 V_X1_44 (by decide) (by decide) rfl (ct_X1_takeNumber   _ _ _ _ h) rfl rfl (Nat.le_of_ble_eq_true rfl) (k_i (fun r25 τ24 h => ?_))
          obtain ⟨s26, h⟩ := h
          refine J_iast cx dX1_readLeaver_98 (tc_lt ho0 (by decide)) (kq_t ho0 (by decide)) s26 ?_
          refine J_nm (fun τ27 e_τ27 => ?_)
          replace h := h τ27 e_τ27
          refine J_aload_n cx 1 dX1_readLeaver_99 rfl rfl ?_
          refine J_getR cx (j := (tc o0 6)) dX1_readLeaver_100 F_X1_92 (tc_lt ho0 (by decide)) (kq_t0 ho0) rfl (rq_t ho0) ?_
          refine J_iload_n cx 2 dX1_readLeaver_103 rfl rfl ?_
          obtain ⟨s28, h⟩ := h
          refine J_iald cx dX1_readLeaver_104 (tc_lt ho0 (by decide)) (kq_t ho0 (by decide)) s28 ?_
          refine J_if_lt cx (tgt := 121) dX1_readLeaver_105 (by decide) (fun q29 => ?_) (fun q29 => ?_)
          · replace h := h.1 q29
            refine J_iconst cx dX1_readLeaver_121 (by decide : _ = ((nI 0) : Int32)) ?_
            exact J_zret cx dX1_readLeaver_122 (Or.inl rfl) h
          · replace h := h.2 q29
            refine J_aload_n cx 0 dX1_readLeaver_108 rfl rfl ?_
            refine J_bipush cx dX1_readLeaver_109 (by decide : _ = ((nI 59) : Int32)) ?_
            refine J_cV cx dX1_readLeaver_111 V_X1_40 (by decide) (by decide) rfl (ct_X1_take   _ _ _ h) rfl rfl (Nat.le_of_ble_eq_true rfl) (k_i (fun r31 τ30 h => ?_))
            refine J_if_eq cx (tgt := 121) dX1_readLeaver_114 (by decide) (fun q32 => ?_) (fun q32 => ?_)
            · replace h := h.1 q32
              refine J_iconst cx dX1_readLeaver_121 (by decide : _ = ((nI 0) : Int32)) ?_
              exact J_zret cx dX1_readLeaver_122 (Or.inl rfl) h
            · replace h := h.2 q32
              refine J_iconst cx dX1_readLeaver_117 (by decide : _ = ((nI 1) : Int32)) ?_
              refine J_goto cx (tgt := 122) dX1_readLeaver_118 (by decide) ?_
              exact J_zret cx dX1_readLeaver_122 (Or.inr rfl) h
        · replace h := h.2 q23
          refine J_iconst cx dX1_readLeaver_85 (by decide : _ = ((nI 0) : Int32)) ?_
          exact J_zret cx dX1_readLeaver_86 (Or.inl rfl) h
    · replace h := h.2 q14
      refine J_iconst cx dX1_readLeaver_52 (by decide : _ = ((nI 0) : Int32)) ?_
      exact J_zret cx dX1_readLeaver_53 (Or.inl rfl) h
def w_X1_readLeavers_22 (o0 : Nat) (K2 : (Int32 × PI → Prop)) (Q : Int32 → PI → Prop) (l2 : Int32) (σ : PI) : Prop := wp_X1_kindOfSort (σ 257 4) σ (fun r5 τ4 => ((¬ r5 = (nI 0) → (¬ l2 = (nI 6) → wp_X1_readLeaver o0 l2 τ4 (fun r9 τ8 => ((¬ r9 = (nI 0) → ∀ τ11 : PI, τ11 = up τ8 (tc o0 0) 9 ((τ8 (tc o0 0) 9) + (nI 1)) → (K2 ((l2 + (nI 1)), τ11))) ∧ (r9 = (nI 0) → Q (nI 0) τ8)))) ∧ (l2 = (nI 6) → wp_X1_failBy (nI 3) τ4 (fun r13 τ12 => (bz r13 ∧ Q r13 τ12)))) ∧ (r5 = (nI 0) → wp_X1_failBy (nI 1) τ4 (fun r15 τ14 => (bz r15 ∧ Q r15 τ14)))))
set_option maxRecDepth 100000 in
set_option maxHeartbeats 4000000 in
theorem j_X1_readLeavers_22 {M : MC} {X : XP} {Q : Int32 → PI → Prop} (o0 : Nat) (ho0 : o0 < 28) (K2 : (Int32 × PI → Prop)) (hK2 : ∀ (l2 : Int32) (σ : PI), K2 (l2, σ) → J M X (QF M X (qI Q)) σ 2 [some (.ref (X.1 257)), some (.ref (X.1 (tc o0 0))), some (.int l2)] []) (cx : Cx M X RX1 cX1_readLeavers 3 (some .boolean) 4) (l2 : Int32) (σ : PI) (h : w_X1_readLeavers_22 o0 K2 Q l2 σ) : J M X (QF M X (qI Q)) σ 22 [some (.ref (X.1 257)), some (.ref (X.1 (tc o0 0))), some (.int l2)] [] := by
  unfold w_X1_readLeavers_22 at h
  refine J_aload_n cx 0 dX1_readLeavers_22 rfl rfl ?_
  refine J_getI cx dX1_readLeavers_23 F_X1_54 (by decide) rfl rfl ?_
  refine J_cS cx dX1_readLeavers_26 S_X1_73 (by decide) (ct_X1_kindOfSort   _ _ _ h) rfl rfl (Nat.le_of_ble_eq_true rfl) (k_i (fun r5 τ4 h => ?_))
  refine J_if_ne cx (tgt := 38) dX1_readLeavers_29 (by decide) (fun q6 => ?_) (fun q6 => ?_)
  · replace h := h.1 q6
    refine J_iload_n cx 2 dX1_readLeavers_38 rfl rfl ?_
    refine J_bipush cx dX1_readLeavers_39 (by decide : _ = ((nI 6) : Int32)) ?_
    refine J_icmp_ne cx (tgt := 50) dX1_readLeavers_41 (by decide) (fun q7 => ?_) (fun q7 => ?_)
    · replace h := h.1 q7
      refine J_aload_n cx 0 dX1_readLeavers_50 rfl rfl ?_
      refine J_aload_n cx 1 dX1_readLeavers_51 rfl rfl ?_
      refine J_iload_n cx 2 dX1_readLeavers_52 rfl rfl ?_
      refine J_cV cx dX1_readLeavers_53 V_X1_77 (by decide) (by decide) rfl (ct_X1_readLeaver o0 ho0 _ _ _ h) rfl rfl (Nat.le_of_ble_eq_true rfl) (k_i (fun r9 τ8 h => ?_))
      refine J_if_ne cx (tgt := 61) dX1_readLeavers_56 (by decide) (fun q10 => ?_) (fun q10 => ?_)
      · replace h := h.1 q10
        refine J_aload_n cx 1 dX1_readLeavers_61 rfl rfl ?_
        refine J_dup cx dX1_readLeavers_62 rfl ?_
        refine J_getI cx dX1_readLeavers_63 F_X1_80 (tc_lt ho0 (by decide)) (kq_t0 ho0) rfl ?_
        refine J_iconst cx dX1_readLeavers_66 (by decide : _ = ((nI 1) : Int32)) ?_
        refine J_iadd cx dX1_readLeavers_67 ?_
        refine J_putI cx dX1_readLeavers_68 (P_X1_80 _) (tc_lt ho0 (by decide)) (kq_t0 ho0) rfl ?_
        refine J_nm (fun τ11 e_τ11 => ?_)
        replace h := h τ11 e_τ11
        refine J_iinc cx dX1_readLeavers_71 rfl (by decide : _ = ((nI 1) : Int32)) (by decide) rfl rfl ?_
        refine J_goto cx (tgt := 2) dX1_readLeavers_74 (by decide) ?_
        exact hK2   _ _ h
      · replace h := h.2 q10
        refine J_iconst cx dX1_readLeavers_59 (by decide : _ = ((nI 0) : Int32)) ?_
        exact J_zret cx dX1_readLeavers_60 (Or.inl rfl) h
    · replace h := h.2 q7
      refine J_aload_n cx 0 dX1_readLeavers_44 rfl rfl ?_
      refine J_iconst cx dX1_readLeavers_45 (by decide : _ = ((nI 3) : Int32)) ?_
      refine J_cV cx dX1_readLeavers_46 V_X1_57 (by decide) (by decide) rfl (ct_X1_failBy   _ _ _ h) rfl rfl (Nat.le_of_ble_eq_true rfl) (k_i (fun r13 τ12 h => ?_))
      exact J_zret cx dX1_readLeavers_49 h.1 h.2
  · replace h := h.2 q6
    refine J_aload_n cx 0 dX1_readLeavers_32 rfl rfl ?_
    refine J_iconst cx dX1_readLeavers_33 (by decide : _ = ((nI 1) : Int32)) ?_
    refine J_cV cx dX1_readLeavers_34 V_X1_57 (by decide) (by decide) rfl (ct_X1_failBy   _ _ _ h) rfl rfl (Nat.le_of_ble_eq_true rfl) (k_i (fun r15 τ14 h => ?_))
    exact J_zret cx dX1_readLeavers_37 h.1 h.2
def B_X1_readLeavers_2 (o0 : Nat) (K2 : (Int32 × PI → Prop)) (Q : Int32 → PI → Prop) (l2 : Int32) (σ : PI) : Prop := ((nI 6) < l2 → Q (nI 0) σ) ∧ (¬ (nI 6) < l2 → (l2 ≤ (nI 0) → w_X1_readLeavers_22 o0 K2 Q l2 σ) ∧ (¬ l2 ≤ (nI 0) → (¬ (σ 257 4) = (-1) → w_X1_readLeavers_22 o0 K2 Q l2 σ) ∧ ((σ 257 4) = (-1) → Q (nI 1) σ)))
def w_X1_readLeavers_2 (o0 : Nat) (Q : Int32 → PI → Prop) (l2 : Int32) (σ : PI) : Prop := ∃ n, Lp (fun K a => B_X1_readLeavers_2 o0  K Q a.1 a.2) n (l2, σ)
set_option maxRecDepth 100000 in
set_option maxHeartbeats 4000000 in
theorem j_X1_readLeavers_2 {M : MC} {X : XP} {Q : Int32 → PI → Prop} (o0 : Nat) (ho0 : o0 < 28) (cx : Cx M X RX1 cX1_readLeavers 3 (some .boolean) 4) (l2 : Int32) (σ : PI) (h : w_X1_readLeavers_2 o0  Q l2 σ) : J M X (QF M X (qI Q)) σ 2 [some (.ref (X.1 257)), some (.ref (X.1 (tc o0 0))), some (.int l2)] [] := by
  refine Lp_J (P := fun (a : Int32 × PI) => J M X (QF M X (qI Q)) (a.2) 2 [some (.ref (X.1 257)), some (.ref (X.1 (tc o0 0))), some (.int a.1)] []) (fun K2 hK a h => ?_) h
  obtain ⟨l2, σ⟩ := a
  have hK2 : ∀ (l2 : Int32) (σ : PI), K2 (l2, σ) → J M X (QF M X (qI Q)) σ 2 [some (.ref (X.1 257)), some (.ref (X.1 (tc o0 0))), some (.int l2)] [] := fun l2 σ q => hK _ q
  replace h : B_X1_readLeavers_2 o0  K2 Q l2 σ := h
  show J M X (QF M X (qI Q)) σ 2 [some (.ref (X.1 257)), some (.ref (X.1 (tc o0 0))), some (.int l2)] []
  unfold B_X1_readLeavers_2 at h
  refine J_iload_n cx 2 dX1_readLeavers_2 rfl rfl ?_
  refine J_bipush cx dX1_readLeavers_3 (by decide : _ = ((nI 6) : Int32)) ?_
  refine J_icmp_gt cx (tgt := 77) dX1_readLeavers_5 (by decide) (fun q1 => ?_) (fun q1 => ?_)
  · replace h := h.1 q1
    refine J_iconst cx dX1_readLeavers_77 (by decide : _ = ((nI 0) : Int32)) ?_
    exact J_zret cx dX1_readLeavers_78 (Or.inl rfl) h
  · replace h := h.2 q1
    refine J_iload_n cx 2 dX1_readLeavers_8 rfl rfl ?_
    refine J_if_le cx (tgt := 22) dX1_readLeavers_9 (by decide) (fun q2 => ?_) (fun q2 => ?_)
    · replace h := h.1 q2
      exact j_X1_readLeavers_22 o0 ho0 K2 hK2 cx   _ _ h
    · replace h := h.2 q2
      refine J_aload_n cx 0 dX1_readLeavers_12 rfl rfl ?_
      refine J_getI cx dX1_readLeavers_13 F_X1_54 (by decide) rfl rfl ?_
      refine J_iconst cx dX1_readLeavers_16 (by decide : _ = ((-1) : Int32)) ?_
      refine J_icmp_ne cx (tgt := 22) dX1_readLeavers_17 (by decide) (fun q3 => ?_) (fun q3 => ?_)
      · replace h := h.1 q3
        exact j_X1_readLeavers_22 o0 ho0 K2 hK2 cx   _ _ h
      · replace h := h.2 q3
        refine J_iconst cx dX1_readLeavers_20 (by decide : _ = ((nI 1) : Int32)) ?_
        exact J_zret cx dX1_readLeavers_21 (Or.inr rfl) h
def wp_X1_readLeavers (o0 : Nat) (σ : PI) (Q : Int32 → PI → Prop) : Prop := w_X1_readLeavers_2 o0  Q (nI 0) σ
set_option maxRecDepth 100000 in
set_option maxHeartbeats 4000000 in
theorem ct_X1_readLeavers {l : Launch} {X : XP} (o0 : Nat) (ho0 : o0 < 28) (σ : PI) (Q : Int32 → PI → Prop) (h : wp_X1_readLeavers o0  σ Q) : Ct l yX1_readLeavers cX1_readLeavers 3 (some .boolean) 4 X [.ref (X.1 257), .ref (X.1 (tc o0 0))] σ (qI Q) := by
  refine Ct_of (L := [some (.ref (X.1 257)), some (.ref (X.1 (tc o0 0))), none]) (by decide) (Nat.le_of_ble_eq_true rfl) rfl (fun M hl cx => ?_)
  subst hl
  unfold wp_X1_readLeavers at h
  refine J_iconst cx dX1_readLeavers_0 (by decide : _ = ((nI 0) : Int32)) ?_
  refine J_istore_n cx 2 dX1_readLeavers_1 rfl (by decide) rfl rfl ?_
  exact j_X1_readLeavers_2 o0 ho0   cx   _ _ h
def wp_X1_readMan (o0 : Nat) (a1 : Int32) (σ : PI) (Q : Int32 → PI → Prop) : Prop := wp_X1_take (nI 109) σ (fun r2 τ1 => ((¬ r2 = (nI 0) → wp_X1_takeNumber (nI 0) (nI 60) τ1 (fun r5 τ4 => (vp_in a1 5 ∧ (∀ τ7 : PI, τ7 = up τ4 (tc o0 1) (a1 : Int32).toNatClampNeg r5 → (vp_in a1 5 ∧ (((τ7 (tc o0 1) (a1 : Int32).toNatClampNeg) < (nI 0) → Q (nI 0) τ7) ∧ (¬ (τ7 (tc o0 1) (a1 : Int32).toNatClampNeg) < (nI 0) → wp_X1_take (nI 44) τ7 (fun r11 τ10 => ((¬ r11 = (nI 0) → wp_X1_takeNumber (nI 0) (nI 9) τ10 (fun r14 τ13 => (vp_in a1 5 ∧ (∀ τ16 : PI, τ16 = up τ13 (tc o0 2) (a1 : Int32).toNatClampNeg r14 → (vp_in a1 5 ∧ (((τ16 (tc o0 2) (a1 : Int32).toNatClampNeg) < (nI 0) → Q (nI 0) τ16) ∧ (¬ (τ16 (tc o0 2) (a1 : Int32).toNatClampNeg) < (nI 0) → wp_X1_take (nI 59) τ16 (fun r20 τ19 => ((r20 = (nI 0) → Q (nI 0) τ19) ∧ (¬ r20 = (nI 0) → Q (nI 1) τ19)))))))))) ∧ (r11 = (nI 0) → Q (nI 0) τ10)))))))))) ∧ (r2 = (nI 0) → Q (nI 0) τ1)))
set_option maxRecDepth 100000 in
set_option maxHeartbeats 4000000 in
theorem ct_X1_readMan {l : Launch} {X : XP} (o0 : Nat) (ho0 : o0 < 28) (a1 : Int32) (σ : PI) (Q : Int32 → PI → Prop) (h : wp_X1_readMan o0 a1 σ Q) : Ct l yX1_readMan cX1_readMan 3 (some .boolean) 3 X [.ref (X.1 257), .ref (X.1 (tc o0 0)), .int a1] σ (qI Q) := by
  refine Ct_of (L := [some (.ref (X.1 257)), some (.ref (X.1 (tc o0 0))), some (.int a1)]) (by decide) (Nat.le_of_ble_eq_true rfl) rfl (fun M hl cx => ?_)
  subst hl
  unfold wp_X1_readMan at h
  refine J_aload_n cx 0 dX1_readMan_0 rfl rfl ?_
  refine J_bipush cx dX1_readMan_1 (by decide : _ = ((nI 109) : Int32)) ?_
  refine J_cV cx dX1_readMan_3 V_X1_40 (by decide) (by decide) rfl (ct_X1_take   _ _ _ h) rfl rfl (Nat.le_of_ble_eq_true rfl) (k_i (fun r2 τ1 h => ?_))
  refine J_if_ne cx (tgt := 11) dX1_readMan_6 (by decide) (fun q3 => ?_) (fun q3 => ?_)
  · replace h := h.1 q3
    refine J_aload_n cx 1 dX1_readMan_11 rfl rfl ?_
    refine J_getR cx (j := (tc o0 1)) dX1_readMan_12 F_X1_67 (tc_lt ho0 (by decide)) (kq_t0 ho0) rfl (rq_t ho0) ?_
    refine J_iload_n cx 2 dX1_readMan_15 rfl rfl ?_
    refine J_aload_n cx 0 dX1_readMan_16 rfl rfl ?_
    refine J_iconst cx dX1_readMan_17 (by decide : _ = ((nI 0) : Int32)) ?_
    refine J_bipush cx dX1_readMan_18 (by decide : _ = ((nI 60) : Int32)) ?_
    refine J_cV cx dX1_readMan_20 V_X1_44 (by decide) (by decide) rfl (ct_X1_takeNumber   _ _ _ _ h) rfl rfl (Nat.le_of_ble_eq_true rfl) (k_i (fun r5 τ4 h => ?_))
    obtain ⟨s6, h⟩ := h
    refine J_iast cx dX1_readMan_23 (tc_lt ho0 (by decide)) (kq_t ho0 (by decide)) s6 ?_
    refine J_nm (fun τ7 e_τ7 => ?_)
    replace h := h τ7 e_τ7
    refine J_aload_n cx 1 dX1_readMan_24 rfl rfl ?_
    refine J_getR cx (j := (tc o0 1)) dX1_readMan_25 F_X1_67 (tc_lt ho0 (by decide)) (kq_t0 ho0) rfl (rq_t ho0) ?_
    refine J_iload_n cx 2 dX1_readMan_28 rfl rfl ?_
    obtain ⟨s8, h⟩ := h
    refine J_iald cx dX1_readMan_29 (tc_lt ho0 (by decide)) (kq_t ho0 (by decide)) s8 ?_
    refine J_if_lt cx (tgt := 42) dX1_readMan_30 (by decide) (fun q9 => ?_) (fun q9 => ?_)
    · replace h := h.1 q9
      refine J_iconst cx dX1_readMan_42 (by decide : _ = ((nI 0) : Int32)) ?_
      exact J_zret cx dX1_readMan_43 (Or.inl rfl) h
    · replace h := h.2 q9
      refine J_aload_n cx 0 dX1_readMan_33 rfl rfl ?_
      refine J_bipush cx dX1_readMan_34 (by decide : _ = ((nI 44) : Int32)) ?_
      refine J_cV cx dX1_readMan_36 V_X1_40 (by decide) (by decide) rfl (ct_X1_take   _ _ _ h) rfl rfl (Nat.le_of_ble_eq_true rfl) (k_i (fun r11 τ10 h => ?_))
      refine J_if_ne cx (tgt := 44) dX1_readMan_39 (by decide) (fun q12 => ?_) (fun q12 => ?_)
      · replace h := h.1 q12
        refine J_aload_n cx 1 dX1_readMan_44 rfl rfl ?_
        refine J_getR cx (j := (tc o0 2)) dX1_readMan_45 F_X1_70 (tc_lt ho0 (by decide)) (kq_t0 ho0) rfl (rq_t ho0) ?_
        refine J_iload_n cx 2 dX1_readMan_48 rfl rfl ?_
        refine J_aload_n cx 0 dX1_readMan_49 rfl rfl ?_
        refine J_iconst cx dX1_readMan_50 (by decide : _ = ((nI 0) : Int32)) ?_
        refine J_bipush cx dX1_readMan_51 (by decide : _ = ((nI 9) : Int32)) ?_
        refine J_cV cx dX1_readMan_53 V_X1_44 (by decide) (by decide) rfl (ct_X1_takeNumber   _ _ _ _ h) rfl rfl (Nat.le_of_ble_eq_true rfl) (k_i (fun r14 τ13 h => ?_))
        obtain ⟨s15, h⟩ := h
        refine J_iast cx dX1_readMan_56 (tc_lt ho0 (by decide)) (kq_t ho0 (by decide)) s15 ?_
        refine J_nm (fun τ16 e_τ16 => ?_)
        replace h := h τ16 e_τ16
        refine J_aload_n cx 1 dX1_readMan_57 rfl rfl ?_
        refine J_getR cx (j := (tc o0 2)) dX1_readMan_58 F_X1_70 (tc_lt ho0 (by decide)) (kq_t0 ho0) rfl (rq_t ho0) ?_
        refine J_iload_n cx 2 dX1_readMan_61 rfl rfl ?_
        obtain ⟨s17, h⟩ := h
        refine J_iald cx dX1_readMan_62 (tc_lt ho0 (by decide)) (kq_t ho0 (by decide)) s17 ?_
        refine J_if_lt cx (tgt := 79) dX1_readMan_63 (by decide) (fun q18 => ?_) (fun q18 => ?_)
        · replace h := h.1 q18
          refine J_iconst cx dX1_readMan_79 (by decide : _ = ((nI 0) : Int32)) ?_
          exact J_zret cx dX1_readMan_80 (Or.inl rfl) h
        · replace h := h.2 q18
          refine J_aload_n cx 0 dX1_readMan_66 rfl rfl ?_
          refine J_bipush cx dX1_readMan_67 (by decide : _ = ((nI 59) : Int32)) ?_
          refine J_cV cx dX1_readMan_69 V_X1_40 (by decide) (by decide) rfl (ct_X1_take   _ _ _ h) rfl rfl (Nat.le_of_ble_eq_true rfl) (k_i (fun r20 τ19 h => ?_))
          refine J_if_eq cx (tgt := 79) dX1_readMan_72 (by decide) (fun q21 => ?_) (fun q21 => ?_)
          · replace h := h.1 q21
            refine J_iconst cx dX1_readMan_79 (by decide : _ = ((nI 0) : Int32)) ?_
            exact J_zret cx dX1_readMan_80 (Or.inl rfl) h
          · replace h := h.2 q21
            refine J_iconst cx dX1_readMan_75 (by decide : _ = ((nI 1) : Int32)) ?_
            refine J_goto cx (tgt := 80) dX1_readMan_76 (by decide) ?_
            exact J_zret cx dX1_readMan_80 (Or.inr rfl) h
      · replace h := h.2 q12
        refine J_iconst cx dX1_readMan_42 (by decide : _ = ((nI 0) : Int32)) ?_
        exact J_zret cx dX1_readMan_43 (Or.inl rfl) h
  · replace h := h.2 q3
    refine J_iconst cx dX1_readMan_9 (by decide : _ = ((nI 0) : Int32)) ?_
    exact J_zret cx dX1_readMan_10 (Or.inl rfl) h
def w_X1_readMen_22 (o0 : Nat) (K2 : (Int32 × PI → Prop)) (Q : Int32 → PI → Prop) (l2 : Int32) (σ : PI) : Prop := (¬ l2 = (nI 5) → wp_X1_readMan o0 l2 σ (fun r6 τ5 => ((¬ r6 = (nI 0) → ∀ τ8 : PI, τ8 = up τ5 (tc o0 0) 8 ((τ5 (tc o0 0) 8) + (nI 1)) → (K2 ((l2 + (nI 1)), τ8))) ∧ (r6 = (nI 0) → Q (nI 0) τ5)))) ∧ (l2 = (nI 5) → wp_X1_failBy (nI 3) σ (fun r10 τ9 => (bz r10 ∧ Q r10 τ9)))
set_option maxRecDepth 100000 in
set_option maxHeartbeats 4000000 in
theorem j_X1_readMen_22 {M : MC} {X : XP} {Q : Int32 → PI → Prop} (o0 : Nat) (ho0 : o0 < 28) (K2 : (Int32 × PI → Prop)) (hK2 : ∀ (l2 : Int32) (σ : PI), K2 (l2, σ) → J M X (QF M X (qI Q)) σ 2 [some (.ref (X.1 257)), some (.ref (X.1 (tc o0 0))), some (.int l2)] []) (cx : Cx M X RX1 cX1_readMen 3 (some .boolean) 4) (l2 : Int32) (σ : PI) (h : w_X1_readMen_22 o0 K2 Q l2 σ) : J M X (QF M X (qI Q)) σ 22 [some (.ref (X.1 257)), some (.ref (X.1 (tc o0 0))), some (.int l2)] [] := by
  unfold w_X1_readMen_22 at h
  refine J_iload_n cx 2 dX1_readMen_22 rfl rfl ?_
  refine J_iconst cx dX1_readMen_23 (by decide : _ = ((nI 5) : Int32)) ?_
  refine J_icmp_ne cx (tgt := 33) dX1_readMen_24 (by decide) (fun q4 => ?_) (fun q4 => ?_)
  · replace h := h.1 q4
    refine J_aload_n cx 0 dX1_readMen_33 rfl rfl ?_
    refine J_aload_n cx 1 dX1_readMen_34 rfl rfl ?_
    refine J_iload_n cx 2 dX1_readMen_35 rfl rfl ?_
    refine J_cV cx dX1_readMen_36 V_X1_60 (by decide) (by decide) rfl (ct_X1_readMan o0 ho0 _ _ _ h) rfl rfl (Nat.le_of_ble_eq_true rfl) (k_i (fun r6 τ5 h => ?_))
    refine J_if_ne cx (tgt := 44) dX1_readMen_39 (by decide) (fun q7 => ?_) (fun q7 => ?_)
    · replace h := h.1 q7
      refine J_aload_n cx 1 dX1_readMen_44 rfl rfl ?_
      refine J_dup cx dX1_readMen_45 rfl ?_
      refine J_getI cx dX1_readMen_46 F_X1_64 (tc_lt ho0 (by decide)) (kq_t0 ho0) rfl ?_
      refine J_iconst cx dX1_readMen_49 (by decide : _ = ((nI 1) : Int32)) ?_
      refine J_iadd cx dX1_readMen_50 ?_
      refine J_putI cx dX1_readMen_51 (P_X1_64 _) (tc_lt ho0 (by decide)) (kq_t0 ho0) rfl ?_
      refine J_nm (fun τ8 e_τ8 => ?_)
      replace h := h τ8 e_τ8
      refine J_iinc cx dX1_readMen_54 rfl (by decide : _ = ((nI 1) : Int32)) (by decide) rfl rfl ?_
      refine J_goto cx (tgt := 2) dX1_readMen_57 (by decide) ?_
      exact hK2   _ _ h
    · replace h := h.2 q7
      refine J_iconst cx dX1_readMen_42 (by decide : _ = ((nI 0) : Int32)) ?_
      exact J_zret cx dX1_readMen_43 (Or.inl rfl) h
  · replace h := h.2 q4
    refine J_aload_n cx 0 dX1_readMen_27 rfl rfl ?_
    refine J_iconst cx dX1_readMen_28 (by decide : _ = ((nI 3) : Int32)) ?_
    refine J_cV cx dX1_readMen_29 V_X1_57 (by decide) (by decide) rfl (ct_X1_failBy   _ _ _ h) rfl rfl (Nat.le_of_ble_eq_true rfl) (k_i (fun r10 τ9 h => ?_))
    exact J_zret cx dX1_readMen_32 h.1 h.2
def B_X1_readMen_2 (o0 : Nat) (K2 : (Int32 × PI → Prop)) (Q : Int32 → PI → Prop) (l2 : Int32) (σ : PI) : Prop := ((nI 5) < l2 → Q (nI 0) σ) ∧ (¬ (nI 5) < l2 → (l2 ≤ (nI 0) → w_X1_readMen_22 o0 K2 Q l2 σ) ∧ (¬ l2 ≤ (nI 0) → ((σ 257 4) = (nI 109) → w_X1_readMen_22 o0 K2 Q l2 σ) ∧ (¬ (σ 257 4) = (nI 109) → Q (nI 1) σ)))
def w_X1_readMen_2 (o0 : Nat) (Q : Int32 → PI → Prop) (l2 : Int32) (σ : PI) : Prop := ∃ n, Lp (fun K a => B_X1_readMen_2 o0  K Q a.1 a.2) n (l2, σ)
set_option maxRecDepth 100000 in
set_option maxHeartbeats 4000000 in
theorem j_X1_readMen_2 {M : MC} {X : XP} {Q : Int32 → PI → Prop} (o0 : Nat) (ho0 : o0 < 28) (cx : Cx M X RX1 cX1_readMen 3 (some .boolean) 4) (l2 : Int32) (σ : PI) (h : w_X1_readMen_2 o0  Q l2 σ) : J M X (QF M X (qI Q)) σ 2 [some (.ref (X.1 257)), some (.ref (X.1 (tc o0 0))), some (.int l2)] [] := by
  refine Lp_J (P := fun (a : Int32 × PI) => J M X (QF M X (qI Q)) (a.2) 2 [some (.ref (X.1 257)), some (.ref (X.1 (tc o0 0))), some (.int a.1)] []) (fun K2 hK a h => ?_) h
  obtain ⟨l2, σ⟩ := a
  have hK2 : ∀ (l2 : Int32) (σ : PI), K2 (l2, σ) → J M X (QF M X (qI Q)) σ 2 [some (.ref (X.1 257)), some (.ref (X.1 (tc o0 0))), some (.int l2)] [] := fun l2 σ q => hK _ q
  replace h : B_X1_readMen_2 o0  K2 Q l2 σ := h
  show J M X (QF M X (qI Q)) σ 2 [some (.ref (X.1 257)), some (.ref (X.1 (tc o0 0))), some (.int l2)] []
  unfold B_X1_readMen_2 at h
  refine J_iload_n cx 2 dX1_readMen_2 rfl rfl ?_
  refine J_iconst cx dX1_readMen_3 (by decide : _ = ((nI 5) : Int32)) ?_
  refine J_icmp_gt cx (tgt := 60) dX1_readMen_4 (by decide) (fun q1 => ?_) (fun q1 => ?_)
  · replace h := h.1 q1
    refine J_iconst cx dX1_readMen_60 (by decide : _ = ((nI 0) : Int32)) ?_
    exact J_zret cx dX1_readMen_61 (Or.inl rfl) h
  · replace h := h.2 q1
    refine J_iload_n cx 2 dX1_readMen_7 rfl rfl ?_
    refine J_if_le cx (tgt := 22) dX1_readMen_8 (by decide) (fun q2 => ?_) (fun q2 => ?_)
    · replace h := h.1 q2
      exact j_X1_readMen_22 o0 ho0 K2 hK2 cx   _ _ h
    · replace h := h.2 q2
      refine J_aload_n cx 0 dX1_readMen_11 rfl rfl ?_
      refine J_getI cx dX1_readMen_12 F_X1_54 (by decide) rfl rfl ?_
      refine J_bipush cx dX1_readMen_15 (by decide : _ = ((nI 109) : Int32)) ?_
      refine J_icmp_eq cx (tgt := 22) dX1_readMen_17 (by decide) (fun q3 => ?_) (fun q3 => ?_)
      · replace h := h.1 q3
        exact j_X1_readMen_22 o0 ho0 K2 hK2 cx   _ _ h
      · replace h := h.2 q3
        refine J_iconst cx dX1_readMen_20 (by decide : _ = ((nI 1) : Int32)) ?_
        exact J_zret cx dX1_readMen_21 (Or.inr rfl) h
def wp_X1_readMen (o0 : Nat) (σ : PI) (Q : Int32 → PI → Prop) : Prop := w_X1_readMen_2 o0  Q (nI 0) σ
set_option maxRecDepth 100000 in
set_option maxHeartbeats 4000000 in
theorem ct_X1_readMen {l : Launch} {X : XP} (o0 : Nat) (ho0 : o0 < 28) (σ : PI) (Q : Int32 → PI → Prop) (h : wp_X1_readMen o0  σ Q) : Ct l yX1_readMen cX1_readMen 3 (some .boolean) 4 X [.ref (X.1 257), .ref (X.1 (tc o0 0))] σ (qI Q) := by
  refine Ct_of (L := [some (.ref (X.1 257)), some (.ref (X.1 (tc o0 0))), none]) (by decide) (Nat.le_of_ble_eq_true rfl) rfl (fun M hl cx => ?_)
  subst hl
  unfold wp_X1_readMen at h
  refine J_iconst cx dX1_readMen_0 (by decide : _ = ((nI 0) : Int32)) ?_
  refine J_istore_n cx 2 dX1_readMen_1 rfl (by decide) rfl rfl ?_
  exact j_X1_readMen_2 o0 ho0   cx   _ _ h
def w_X1_read_42 (o0 : Nat) (Q : Int32 → PI → Prop) (s0 : Int32) (σ : PI) : Prop := ∀ τ13 : PI, τ13 = up σ 257 1 (nI 0) → (bz s0 ∧ Q s0 τ13)
set_option maxRecDepth 100000 in
set_option maxHeartbeats 4000000 in
theorem j_X1_read_42 {M : MC} {X : XP} {Q : Int32 → PI → Prop} (o0 : Nat) (ho0 : o0 < 28) (cx : Cx M X RX1 cX1_read 3 (some .boolean) 5) (s0 : Int32) (σ : PI) (h : w_X1_read_42 o0  Q s0 σ) : J M X (QF M X (qI Q)) σ 42 [some (.ref (X.1 257)), none, none] [.int s0] := by
  unfold w_X1_read_42 at h
  refine J_istore_n cx 2 dX1_read_42 rfl (by decide) rfl rfl ?_
  refine J_aload_n cx 0 dX1_read_43 rfl rfl ?_
  refine J_iconst cx dX1_read_44 (by decide : _ = ((nI 0) : Int32)) ?_
  refine J_putI cx dX1_read_45 (P_X1_15 _) (by decide) rfl rfl ?_
  refine J_nm (fun τ13 e_τ13 => ?_)
  replace h := h τ13 e_τ13
  refine J_iload_n cx 2 dX1_read_48 rfl rfl ?_
  exact J_zret cx dX1_read_49 h.1 h.2
def w_X1_read_41 (o0 : Nat) (Q : Int32 → PI → Prop) (σ : PI) : Prop := w_X1_read_42 o0  Q (nI 0) σ
set_option maxRecDepth 100000 in
set_option maxHeartbeats 4000000 in
theorem j_X1_read_41 {M : MC} {X : XP} {Q : Int32 → PI → Prop} (o0 : Nat) (ho0 : o0 < 28) (cx : Cx M X RX1 cX1_read 3 (some .boolean) 5) (σ : PI) (h : w_X1_read_41 o0  Q  σ) : J M X (QF M X (qI Q)) σ 41 [some (.ref (X.1 257)), none, none] [] := by
  unfold w_X1_read_41 at h
  refine J_iconst cx dX1_read_41 (by decide : _ = ((nI 0) : Int32)) ?_
  exact j_X1_read_42 o0 ho0   cx   _ _ h
def wp_X1_read (o0 : Nat) (σ : PI) (Q : Int32 → PI → Prop) : Prop := wp_X3_clear o0 σ (fun τ1 => (∀ τ2 : PI, τ2 = up τ1 257 7 (nI 0) → (wp_X1_advance  τ2 (fun τ3 => (wp_X1_readLaw o0 τ3 (fun r5 τ4 => ((r5 = (nI 0) → w_X1_read_41 o0  Q  τ4) ∧ (¬ r5 = (nI 0) → wp_X1_readMen o0 τ4 (fun r8 τ7 => ((r8 = (nI 0) → w_X1_read_41 o0  Q  τ7) ∧ (¬ r8 = (nI 0) → wp_X1_readLeavers o0 τ7 (fun r11 τ10 => ((r11 = (nI 0) → w_X1_read_41 o0  Q  τ10) ∧ (¬ r11 = (nI 0) → w_X1_read_42 o0  Q (nI 1) τ10))))))))))))))
set_option maxRecDepth 100000 in
set_option maxHeartbeats 4000000 in
theorem ct_X1_read {l : Launch} {X : XP} (o0 : Nat) (ho0 : o0 < 28) (σ : PI) (Q : Int32 → PI → Prop) (h : wp_X1_read o0  σ Q) : Ct l yX1_read cX1_read 3 (some .boolean) 5 X [.ref (X.1 257), .ref (X.1 (tc o0 0))] σ (qI Q) := by
  refine Ct_of (L := [some (.ref (X.1 257)), some (.ref (X.1 (tc o0 0))), none]) (by decide) (Nat.le_of_ble_eq_true rfl) rfl (fun M hl cx => ?_)
  subst hl
  unfold wp_X1_read at h
  refine J_aload_n cx 1 dX1_read_0 rfl rfl ?_
  refine J_cV cx dX1_read_1 V_X1_19 (by decide) (tc_lt ho0 (by decide)) (kq_t0 ho0) (ct_X3_clear o0 ho0  _ _ h) rfl rfl (Nat.le_of_ble_eq_true rfl) (k_v (fun τ1 h => ?_))
  refine J_aload_n cx 0 dX1_read_4 rfl rfl ?_
  refine J_iconst cx dX1_read_5 (by decide : _ = ((nI 0) : Int32)) ?_
  refine J_putI cx dX1_read_6 (P_X1_24 _) (by decide) rfl rfl ?_
  refine J_nm (fun τ2 e_τ2 => ?_)
  replace h := h τ2 e_τ2
  refine J_aload_n cx 0 dX1_read_9 rfl rfl ?_
  refine J_cV cx dX1_read_10 V_X1_27 (by decide) (by decide) rfl (ct_X1_advance    _ _ h) rfl rfl (Nat.le_of_ble_eq_true rfl) (k_v (fun τ3 h => ?_))
  refine J_aload_n cx 0 dX1_read_13 rfl rfl ?_
  refine J_aload_n cx 1 dX1_read_14 rfl rfl ?_
  refine J_cV cx dX1_read_15 V_X1_30 (by decide) (by decide) rfl (ct_X1_readLaw o0 ho0  _ _ h) rfl rfl (Nat.le_of_ble_eq_true rfl) (k_i (fun r5 τ4 h => ?_))
  refine J_if_eq cx (tgt := 41) dX1_read_18 (by decide) (fun q6 => ?_) (fun q6 => ?_)
  · replace h := h.1 q6
    refine J_fg 1 rfl ?_
    exact j_X1_read_41 o0 ho0   cx   _ h
  · replace h := h.2 q6
    refine J_aload_n cx 0 dX1_read_21 rfl rfl ?_
    refine J_aload_n cx 1 dX1_read_22 rfl rfl ?_
    refine J_cV cx dX1_read_23 V_X1_34 (by decide) (by decide) rfl (ct_X1_readMen o0 ho0  _ _ h) rfl rfl (Nat.le_of_ble_eq_true rfl) (k_i (fun r8 τ7 h => ?_))
    refine J_if_eq cx (tgt := 41) dX1_read_26 (by decide) (fun q9 => ?_) (fun q9 => ?_)
    · replace h := h.1 q9
      refine J_fg 1 rfl ?_
      exact j_X1_read_41 o0 ho0   cx   _ h
    · replace h := h.2 q9
      refine J_aload_n cx 0 dX1_read_29 rfl rfl ?_
      refine J_aload_n cx 1 dX1_read_30 rfl rfl ?_
      refine J_cV cx dX1_read_31 V_X1_37 (by decide) (by decide) rfl (ct_X1_readLeavers o0 ho0  _ _ h) rfl rfl (Nat.le_of_ble_eq_true rfl) (k_i (fun r11 τ10 h => ?_))
      refine J_if_eq cx (tgt := 41) dX1_read_34 (by decide) (fun q12 => ?_) (fun q12 => ?_)
      · replace h := h.1 q12
        refine J_fg 1 rfl ?_
        exact j_X1_read_41 o0 ho0   cx   _ h
      · replace h := h.2 q12
        refine J_iconst cx dX1_read_37 (by decide : _ = ((nI 1) : Int32)) ?_
        refine J_goto cx (tgt := 42) dX1_read_38 (by decide) ?_
        refine J_fg 1 rfl ?_
        exact j_X1_read_42 o0 ho0   cx   _ _ h
