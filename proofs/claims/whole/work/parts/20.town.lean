theorem twb {x : Int32} (h : vp_in x 24) : 4 + x.toNatClampNeg < 28 := by have := vp_lt h; omega
theorem twi {x : Int32} (h : vp_in x 2) : 2 + x.toNatClampNeg < 28 := by have := vp_lt h; omega

def B_X2_make_2 (k : Nat) (K2 : (Int32 × Int32 × Int32 × PI → Prop)) (Q : PI → Prop) (l1 : Int32) (l2 : Int32) (l3 : Int32) (σ : PI) : Prop := ((nI 40) ≤ l3 → ∀ τ2 : PI, τ2 = up σ (rc k 0) 1 (nI 1) → (∀ τ3 : PI, τ3 = up τ2 (rc k 0) 2 l1 → (∀ τ4 : PI, τ4 = up τ3 (rc k 0) 3 l2 → (Q τ4)))) ∧ (¬ (nI 40) ≤ l3 → vp_in l3 40 ∧ (∀ τ6 : PI, τ6 = up σ (rc k 1) (l3 : Int32).toNatClampNeg (nI 0) → (K2 (l1, l2, (l3 + (nI 1)), τ6))))
def w_X2_make_2 (k : Nat) (Q : PI → Prop) (l1 : Int32) (l2 : Int32) (l3 : Int32) (σ : PI) : Prop := ∃ n, Lp (fun K a => B_X2_make_2 k  K Q a.1 a.2.1 a.2.2.1 a.2.2.2) n (l1, l2, l3, σ)
set_option maxRecDepth 100000 in
set_option maxHeartbeats 4000000 in
theorem j_X2_make_2 {M : MC} {X : XP} {Q : PI → Prop} (k : Nat) (hk : k < 8) (cx : Cx M X RX2 cX2_make 4 none 0) (l1 : Int32) (l2 : Int32) (l3 : Int32) (σ : PI) (h : w_X2_make_2 k  Q l1 l2 l3 σ) : J M X (QF M X (qV Q)) σ 2 [some (.ref (X.1 (rc k 0))), some (.int l1), some (.int l2), some (.int l3)] [] := by
  refine Lp_J (P := fun (a : Int32 × Int32 × Int32 × PI) => J M X (QF M X (qV Q)) (a.2.2.2) 2 [some (.ref (X.1 (rc k 0))), some (.int a.1), some (.int a.2.1), some (.int a.2.2.1)] []) (fun K2 hK a h => ?_) h
  obtain ⟨l1, l2, l3, σ⟩ := a
  have hK2 : ∀ (l1 : Int32) (l2 : Int32) (l3 : Int32) (σ : PI), K2 (l1, l2, l3, σ) → J M X (QF M X (qV Q)) σ 2 [some (.ref (X.1 (rc k 0))), some (.int l1), some (.int l2), some (.int l3)] [] := fun l1 l2 l3 σ q => hK _ q
  replace h : B_X2_make_2 k  K2 Q l1 l2 l3 σ := h
  show J M X (QF M X (qV Q)) σ 2 [some (.ref (X.1 (rc k 0))), some (.int l1), some (.int l2), some (.int l3)] []
  unfold B_X2_make_2 at h
  refine J_iload_n cx 3 dX2_make_2 rfl rfl ?_
  refine J_bipush cx dX2_make_3 (by decide : _ = ((nI 40) : Int32)) ?_
  refine J_icmp_ge cx (tgt := 21) dX2_make_5 (by decide) (fun q1 => ?_) (fun q1 => ?_)
  · replace h := h.1 q1
    refine J_aload_n cx 0 dX2_make_21 rfl rfl ?_
    refine J_iconst cx dX2_make_22 (by decide : _ = ((nI 1) : Int32)) ?_
    refine J_putI cx dX2_make_23 P_X2_15_1 (rc_lt hk (by decide)) (kq_r0 hk) rfl ?_
    refine J_nm (fun τ2 e_τ2 => ?_)
    replace h := h τ2 e_τ2
    refine J_aload_n cx 0 dX2_make_26 rfl rfl ?_
    refine J_iload_n cx 1 dX2_make_27 rfl rfl ?_
    refine J_putI cx dX2_make_28 (P_X2_19 _) (rc_lt hk (by decide)) (kq_r0 hk) rfl ?_
    refine J_nm (fun τ3 e_τ3 => ?_)
    replace h := h τ3 e_τ3
    refine J_aload_n cx 0 dX2_make_31 rfl rfl ?_
    refine J_iload_n cx 2 dX2_make_32 rfl rfl ?_
    refine J_putI cx dX2_make_33 (P_X2_23 _) (rc_lt hk (by decide)) (kq_r0 hk) rfl ?_
    refine J_nm (fun τ4 e_τ4 => ?_)
    replace h := h τ4 e_τ4
    exact J_vret cx dX2_make_36 h
  · replace h := h.2 q1
    refine J_aload_n cx 0 dX2_make_8 rfl rfl ?_
    refine J_getR cx (j := (rc k 1)) dX2_make_9 F_X2_9 (rc_lt hk (by decide)) (kq_r0 hk) rfl (rq_r hk) ?_
    refine J_iload_n cx 3 dX2_make_12 rfl rfl ?_
    refine J_iconst cx dX2_make_13 (by decide : _ = ((nI 0) : Int32)) ?_
    obtain ⟨s5, h⟩ := h
    refine J_iast cx dX2_make_14 (rc_lt hk (by decide)) (kq_r1 hk) s5 ?_
    refine J_nm (fun τ6 e_τ6 => ?_)
    replace h := h τ6 e_τ6
    refine J_iinc cx dX2_make_15 rfl (by decide : _ = ((nI 1) : Int32)) (by decide) rfl rfl ?_
    refine J_goto cx (tgt := 2) dX2_make_18 (by decide) ?_
    exact hK2   _ _ _ _ h
def wp_X2_make (k : Nat) (a0 : Int32) (a1 : Int32) (σ : PI) (Q : PI → Prop) : Prop := w_X2_make_2 k  Q a0 a1 (nI 0) σ
set_option maxRecDepth 100000 in
set_option maxHeartbeats 4000000 in
theorem ct_X2_make {l : Launch} {X : XP} (k : Nat) (hk : k < 8) (a0 : Int32) (a1 : Int32) (σ : PI) (Q : PI → Prop) (h : wp_X2_make k a0 a1 σ Q) : Ct l yX2_make cX2_make 4 none 0 X [.ref (X.1 (rc k 0)), .int a0, .int a1] σ (qV Q) := by
  refine Ct_of (L := [some (.ref (X.1 (rc k 0))), some (.int a0), some (.int a1), none]) (by decide) (Nat.le_of_ble_eq_true rfl) rfl (fun M hl cx => ?_)
  subst hl
  unfold wp_X2_make at h
  refine J_iconst cx dX2_make_0 (by decide : _ = ((nI 0) : Int32)) ?_
  refine J_istore_n cx 3 dX2_make_1 rfl (by decide) rfl rfl ?_
  exact j_X2_make_2 k hk   cx   _ _ _ _ h
def wp_X4_within (a0 : Int32) (a1 : Int32) (a2 : Int32) (σ : PI) (Q : Int32 → PI → Prop) : Prop := (a0 < a1 → Q (nI 0) σ) ∧ (¬ a0 < a1 → (a2 < a0 → Q (nI 0) σ) ∧ (¬ a2 < a0 → Q (nI 1) σ))
set_option maxRecDepth 100000 in
set_option maxHeartbeats 4000000 in
theorem ct_X4_within {l : Launch} {X : XP} (a0 : Int32) (a1 : Int32) (a2 : Int32) (σ : PI) (Q : Int32 → PI → Prop) (h : wp_X4_within  a0 a1 a2 σ Q) : Ct l yX4_within cX4_within 3 (some .boolean) 0 X [.int a0, .int a1, .int a2] σ (qI Q) := by
  refine Ct_of (L := [some (.int a0), some (.int a1), some (.int a2)]) (by decide) (Nat.le_of_ble_eq_true rfl) rfl (fun M hl cx => ?_)
  subst hl
  unfold wp_X4_within at h
  refine J_iload_n cx 0 dX4_within_0 rfl rfl ?_
  refine J_iload_n cx 1 dX4_within_1 rfl rfl ?_
  refine J_icmp_lt cx (tgt := 14) dX4_within_2 (by decide) (fun q1 => ?_) (fun q1 => ?_)
  · replace h := h.1 q1
    refine J_iconst cx dX4_within_14 (by decide : _ = ((nI 0) : Int32)) ?_
    exact J_zret cx dX4_within_15 (Or.inl rfl) h
  · replace h := h.2 q1
    refine J_iload_n cx 0 dX4_within_5 rfl rfl ?_
    refine J_iload_n cx 2 dX4_within_6 rfl rfl ?_
    refine J_icmp_gt cx (tgt := 14) dX4_within_7 (by decide) (fun q2 => ?_) (fun q2 => ?_)
    · replace h := h.1 q2
      refine J_iconst cx dX4_within_14 (by decide : _ = ((nI 0) : Int32)) ?_
      exact J_zret cx dX4_within_15 (Or.inl rfl) h
    · replace h := h.2 q2
      refine J_iconst cx dX4_within_10 (by decide : _ = ((nI 1) : Int32)) ?_
      refine J_goto cx (tgt := 15) dX4_within_11 (by decide) ?_
      exact J_zret cx dX4_within_15 (Or.inr rfl) h
def wp_X2_holds (k : Nat) (a0 : Int32) (a1 : Int32) (σ : PI) (Q : Int32 → PI → Prop) : Prop := (a0 < (nI 0) → Q (nI 0) σ) ∧ (¬ a0 < (nI 0) → (a1 < (nI 0) → Q (nI 0) σ) ∧ (¬ a1 < (nI 0) → (((σ (rc k 0) 3) - a1) < a0 → Q (nI 0) σ) ∧ (¬ ((σ (rc k 0) 3) - a1) < a0 → Q (nI 1) σ)))
set_option maxRecDepth 100000 in
set_option maxHeartbeats 4000000 in
theorem ct_X2_holds {l : Launch} {X : XP} (k : Nat) (hk : k < 8) (a0 : Int32) (a1 : Int32) (σ : PI) (Q : Int32 → PI → Prop) (h : wp_X2_holds k a0 a1 σ Q) : Ct l yX2_holds cX2_holds 3 (some .boolean) 0 X [.ref (X.1 (rc k 0)), .int a0, .int a1] σ (qI Q) := by
  refine Ct_of (L := [some (.ref (X.1 (rc k 0))), some (.int a0), some (.int a1)]) (by decide) (Nat.le_of_ble_eq_true rfl) rfl (fun M hl cx => ?_)
  subst hl
  unfold wp_X2_holds at h
  refine J_iload_n cx 1 dX2_holds_0 rfl rfl ?_
  refine J_if_lt cx (tgt := 22) dX2_holds_1 (by decide) (fun q1 => ?_) (fun q1 => ?_)
  · replace h := h.1 q1
    refine J_iconst cx dX2_holds_22 (by decide : _ = ((nI 0) : Int32)) ?_
    exact J_zret cx dX2_holds_23 (Or.inl rfl) h
  · replace h := h.2 q1
    refine J_iload_n cx 2 dX2_holds_4 rfl rfl ?_
    refine J_if_lt cx (tgt := 22) dX2_holds_5 (by decide) (fun q2 => ?_) (fun q2 => ?_)
    · replace h := h.1 q2
      refine J_iconst cx dX2_holds_22 (by decide : _ = ((nI 0) : Int32)) ?_
      exact J_zret cx dX2_holds_23 (Or.inl rfl) h
    · replace h := h.2 q2
      refine J_iload_n cx 1 dX2_holds_8 rfl rfl ?_
      refine J_aload_n cx 0 dX2_holds_9 rfl rfl ?_
      refine J_getI cx dX2_holds_10 F_X2_23 (rc_lt hk (by decide)) (kq_r0 hk) rfl ?_
      refine J_iload_n cx 2 dX2_holds_13 rfl rfl ?_
      refine J_isub cx dX2_holds_14 ?_
      refine J_icmp_gt cx (tgt := 22) dX2_holds_15 (by decide) (fun q3 => ?_) (fun q3 => ?_)
      · replace h := h.1 q3
        refine J_iconst cx dX2_holds_22 (by decide : _ = ((nI 0) : Int32)) ?_
        exact J_zret cx dX2_holds_23 (Or.inl rfl) h
      · replace h := h.2 q3
        refine J_iconst cx dX2_holds_18 (by decide : _ = ((nI 1) : Int32)) ?_
        refine J_goto cx (tgt := 23) dX2_holds_19 (by decide) ?_
        exact J_zret cx dX2_holds_23 (Or.inr rfl) h
def w_X2_put_31 (k : Nat) (Q : Int32 → PI → Prop) (l1 : Int32) (s0 : Int32) (s1 : Int32) (σ : PI) : Prop := vp_in s1 40 ∧ (∀ τ4 : PI, τ4 = up σ (rc k 1) (s1 : Int32).toNatClampNeg s0 → (vp_in l1 40 ∧ (Q (τ4 (rc k 1) (l1 : Int32).toNatClampNeg) τ4)))
set_option maxRecDepth 100000 in
set_option maxHeartbeats 4000000 in
theorem j_X2_put_31 {M : MC} {X : XP} {Q : Int32 → PI → Prop} (k : Nat) (hk : k < 8) (cx : Cx M X RX2 cX2_put 3 (some .int) 0) (l1 : Int32) (s0 : Int32) (s1 : Int32) (σ : PI) (h : w_X2_put_31 k  Q l1 s0 s1 σ) : J M X (QF M X (qI Q)) σ 31 [some (.ref (X.1 (rc k 0))), some (.int l1), none] [.int s0, .int s1, .ref (X.1 (rc k 1))] := by
  unfold w_X2_put_31 at h
  obtain ⟨s3, h⟩ := h
  refine J_iast cx dX2_put_31 (rc_lt hk (by decide)) (kq_r1 hk) s3 ?_
  refine J_nm (fun τ4 e_τ4 => ?_)
  replace h := h τ4 e_τ4
  refine J_aload_n cx 0 dX2_put_32 rfl rfl ?_
  refine J_getR cx (j := (rc k 1)) dX2_put_33 F_X2_9 (rc_lt hk (by decide)) (kq_r0 hk) rfl (rq_r hk) ?_
  refine J_iload_n cx 1 dX2_put_36 rfl rfl ?_
  obtain ⟨s5, h⟩ := h
  refine J_iald cx dX2_put_37 (rc_lt hk (by decide)) (kq_r1 hk) s5 ?_
  exact J_iret cx dX2_put_38 h
def wp_X2_put (k : Nat) (a0 : Int32) (a1 : Int32) (σ : PI) (Q : Int32 → PI → Prop) : Prop := (¬ (σ (rc k 0) 2) = (nI 0) → (¬ (σ (rc k 0) 2) = (nI 1) → w_X2_put_31 k  Q a0 a1 a0 σ) ∧ ((σ (rc k 0) 2) = (nI 1) → w_X2_put_31 k  Q a0 (a1 : Int32).toInt16.toInt32 a0 σ)) ∧ ((σ (rc k 0) 2) = (nI 0) → w_X2_put_31 k  Q a0 (a1 : Int32).toInt8.toInt32 a0 σ)
set_option maxRecDepth 100000 in
set_option maxHeartbeats 4000000 in
theorem ct_X2_put {l : Launch} {X : XP} (k : Nat) (hk : k < 8) (a0 : Int32) (a1 : Int32) (σ : PI) (Q : Int32 → PI → Prop) (h : wp_X2_put k a0 a1 σ Q) : Ct l yX2_put cX2_put 3 (some .int) 0 X [.ref (X.1 (rc k 0)), .int a0, .int a1] σ (qI Q) := by
  refine Ct_of (L := [some (.ref (X.1 (rc k 0))), some (.int a0), some (.int a1)]) (by decide) (Nat.le_of_ble_eq_true rfl) rfl (fun M hl cx => ?_)
  subst hl
  unfold wp_X2_put at h
  refine J_aload_n cx 0 dX2_put_0 rfl rfl ?_
  refine J_getR cx (j := (rc k 1)) dX2_put_1 F_X2_9 (rc_lt hk (by decide)) (kq_r0 hk) rfl (rq_r hk) ?_
  refine J_iload_n cx 1 dX2_put_4 rfl rfl ?_
  refine J_aload_n cx 0 dX2_put_5 rfl rfl ?_
  refine J_getI cx dX2_put_6 F_X2_19 (rc_lt hk (by decide)) (kq_r0 hk) rfl ?_
  refine J_if_ne cx (tgt := 17) dX2_put_9 (by decide) (fun q1 => ?_) (fun q1 => ?_)
  · replace h := h.1 q1
    refine J_aload_n cx 0 dX2_put_17 rfl rfl ?_
    refine J_getI cx dX2_put_18 F_X2_19 (rc_lt hk (by decide)) (kq_r0 hk) rfl ?_
    refine J_iconst cx dX2_put_21 (by decide : _ = ((nI 1) : Int32)) ?_
    refine J_icmp_ne cx (tgt := 30) dX2_put_22 (by decide) (fun q2 => ?_) (fun q2 => ?_)
    · replace h := h.1 q2
      refine J_iload_n cx 2 dX2_put_30 rfl rfl ?_
      refine J_fg 2 rfl ?_
      exact j_X2_put_31 k hk   cx   _ _ _ _ h
    · replace h := h.2 q2
      refine J_iload_n cx 2 dX2_put_25 rfl rfl ?_
      refine J_i2s cx dX2_put_26 ?_
      refine J_goto cx (tgt := 31) dX2_put_27 (by decide) ?_
      refine J_fg 2 rfl ?_
      exact j_X2_put_31 k hk   cx   _ _ _ _ h
  · replace h := h.2 q1
    refine J_iload_n cx 2 dX2_put_12 rfl rfl ?_
    refine J_i2b cx dX2_put_13 ?_
    refine J_goto cx (tgt := 31) dX2_put_14 (by decide) ?_
    refine J_fg 2 rfl ?_
    exact j_X2_put_31 k hk   cx   _ _ _ _ h
def wp_X0_forget (σ : PI) (Q : PI → Prop) : Prop := ∀ τ1 : PI, τ1 = up σ 256 2 (nI 0) → (Q τ1)
set_option maxRecDepth 100000 in
set_option maxHeartbeats 4000000 in
theorem ct_X0_forget {l : Launch} {X : XP} (σ : PI) (Q : PI → Prop) (h : wp_X0_forget   σ Q) : Ct l yX0_forget cX0_forget 1 none 0 X [.ref (X.1 256)] σ (qV Q) := by
  refine Ct_of (L := [some (.ref (X.1 256))]) (by decide) (Nat.le_of_ble_eq_true rfl) rfl (fun M hl cx => ?_)
  subst hl
  unfold wp_X0_forget at h
  refine J_aload_n cx 0 dX0_forget_0 rfl rfl ?_
  refine J_iconst cx dX0_forget_1 (by decide : _ = ((nI 0) : Int32)) ?_
  refine J_putI cx dX0_forget_2 (P_X0_18 _) (by decide) rfl rfl ?_
  refine J_nm (fun τ1 e_τ1 => ?_)
  replace h := h τ1 e_τ1
  exact J_vret cx dX0_forget_5 h
def B_X3_clear_27 (k : Nat) (K27 : (Int32 × PI → Prop)) (Q : PI → Prop) (l1 : Int32) (σ : PI) : Prop := ((nI 30) ≤ l1 → Q σ) ∧ (¬ (nI 30) ≤ l1 → vp_in l1 30 ∧ (∀ τ8 : PI, τ8 = up σ (tc k 7) (l1 : Int32).toNatClampNeg (nI 0) → (K27 ((l1 + (nI 1)), τ8))))
def w_X3_clear_27 (k : Nat) (Q : PI → Prop) (l1 : Int32) (σ : PI) : Prop := ∃ n, Lp (fun K a => B_X3_clear_27 k  K Q a.1 a.2) n (l1, σ)
set_option maxRecDepth 100000 in
set_option maxHeartbeats 4000000 in
theorem j_X3_clear_27 {M : MC} {X : XP} {Q : PI → Prop} (k : Nat) (hk : k < 28) (cx : Cx M X RX3 cX3_clear 2 none 0) (l1 : Int32) (σ : PI) (h : w_X3_clear_27 k  Q l1 σ) : J M X (QF M X (qV Q)) σ 27 [some (.ref (X.1 (tc k 0))), some (.int l1)] [] := by
  refine Lp_J (P := fun (a : Int32 × PI) => J M X (QF M X (qV Q)) (a.2) 27 [some (.ref (X.1 (tc k 0))), some (.int a.1)] []) (fun K27 hK a h => ?_) h
  obtain ⟨l1, σ⟩ := a
  have hK27 : ∀ (l1 : Int32) (σ : PI), K27 (l1, σ) → J M X (QF M X (qV Q)) σ 27 [some (.ref (X.1 (tc k 0))), some (.int l1)] [] := fun l1 σ q => hK _ q
  replace h : B_X3_clear_27 k  K27 Q l1 σ := h
  show J M X (QF M X (qV Q)) σ 27 [some (.ref (X.1 (tc k 0))), some (.int l1)] []
  unfold B_X3_clear_27 at h
  refine J_iload_n cx 1 dX3_clear_27 rfl rfl ?_
  refine J_aload_n cx 0 dX3_clear_28 rfl rfl ?_
  refine J_getR cx (j := (tc k 7)) dX3_clear_29 F_X3_30 (tc_lt hk (by decide)) (kq_t0 hk) rfl (rq_t hk) ?_
  refine J_alen cx dX3_clear_32 (tc_lt hk (by decide)) (kq_t hk (by decide)) (by decide : _ = (nI 30)) ?_
  refine J_icmp_ge cx (tgt := 49) dX3_clear_33 (by decide) (fun q6 => ?_) (fun q6 => ?_)
  · replace h := h.1 q6
    exact J_vret cx dX3_clear_49 h
  · replace h := h.2 q6
    refine J_aload_n cx 0 dX3_clear_36 rfl rfl ?_
    refine J_getR cx (j := (tc k 7)) dX3_clear_37 F_X3_30 (tc_lt hk (by decide)) (kq_t0 hk) rfl (rq_t hk) ?_
    refine J_iload_n cx 1 dX3_clear_40 rfl rfl ?_
    refine J_iconst cx dX3_clear_41 (by decide : _ = ((nI 0) : Int32)) ?_
    obtain ⟨s7, h⟩ := h
    refine J_iast cx dX3_clear_42 (tc_lt hk (by decide)) (kq_t hk (by decide)) s7 ?_
    refine J_nm (fun τ8 e_τ8 => ?_)
    replace h := h τ8 e_τ8
    refine J_iinc cx dX3_clear_43 rfl (by decide : _ = ((nI 1) : Int32)) (by decide) rfl rfl ?_
    refine J_goto cx (tgt := 27) dX3_clear_46 (by decide) ?_
    exact hK27   _ _ h
def wp_X3_clear (k : Nat) (σ : PI) (Q : PI → Prop) : Prop := ∀ τ1 : PI, τ1 = up σ (tc k 0) 8 (nI 0) → (∀ τ2 : PI, τ2 = up τ1 (tc k 0) 9 (nI 0) → (∀ τ3 : PI, τ3 = up τ2 (tc k 0) 12 (nI 0) → (∀ τ4 : PI, τ4 = up τ3 (tc k 0) 13 (nI 0) → (∀ τ5 : PI, τ5 = up τ4 (tc k 0) 14 (nI 0) → (w_X3_clear_27 k  Q (nI 0) τ5)))))
set_option maxRecDepth 100000 in
set_option maxHeartbeats 4000000 in
theorem ct_X3_clear {l : Launch} {X : XP} (k : Nat) (hk : k < 28) (σ : PI) (Q : PI → Prop) (h : wp_X3_clear k  σ Q) : Ct l yX3_clear cX3_clear 2 none 0 X [.ref (X.1 (tc k 0))] σ (qV Q) := by
  refine Ct_of (L := [some (.ref (X.1 (tc k 0))), none]) (by decide) (Nat.le_of_ble_eq_true rfl) rfl (fun M hl cx => ?_)
  subst hl
  unfold wp_X3_clear at h
  refine J_aload_n cx 0 dX3_clear_0 rfl rfl ?_
  refine J_iconst cx dX3_clear_1 (by decide : _ = ((nI 0) : Int32)) ?_
  refine J_putI cx dX3_clear_2 (P_X3_36 _) (tc_lt hk (by decide)) (kq_t0 hk) rfl ?_
  refine J_nm (fun τ1 e_τ1 => ?_)
  replace h := h τ1 e_τ1
  refine J_aload_n cx 0 dX3_clear_5 rfl rfl ?_
  refine J_iconst cx dX3_clear_6 (by decide : _ = ((nI 0) : Int32)) ?_
  refine J_putI cx dX3_clear_7 (P_X3_40 _) (tc_lt hk (by decide)) (kq_t0 hk) rfl ?_
  refine J_nm (fun τ2 e_τ2 => ?_)
  replace h := h τ2 e_τ2
  refine J_aload_n cx 0 dX3_clear_10 rfl rfl ?_
  refine J_iconst cx dX3_clear_11 (by decide : _ = ((nI 0) : Int32)) ?_
  refine J_putI cx dX3_clear_12 (P_X3_43 _) (tc_lt hk (by decide)) (kq_t0 hk) rfl ?_
  refine J_nm (fun τ3 e_τ3 => ?_)
  replace h := h τ3 e_τ3
  refine J_aload_n cx 0 dX3_clear_15 rfl rfl ?_
  refine J_iconst cx dX3_clear_16 (by decide : _ = ((nI 0) : Int32)) ?_
  refine J_putI cx dX3_clear_17 (P_X3_46 _) (tc_lt hk (by decide)) (kq_t0 hk) rfl ?_
  refine J_nm (fun τ4 e_τ4 => ?_)
  replace h := h τ4 e_τ4
  refine J_aload_n cx 0 dX3_clear_20 rfl rfl ?_
  refine J_iconst cx dX3_clear_21 (by decide : _ = ((nI 0) : Int32)) ?_
  refine J_putI cx dX3_clear_22 (P_X3_49 _) (tc_lt hk (by decide)) (kq_t0 hk) rfl ?_
  refine J_nm (fun τ5 e_τ5 => ?_)
  replace h := h τ5 e_τ5
  refine J_iconst cx dX3_clear_25 (by decide : _ = ((nI 0) : Int32)) ?_
  refine J_istore_n cx 1 dX3_clear_26 rfl (by decide) rfl rfl ?_
  exact j_X3_clear_27 k hk   cx   _ _ h
def wp_X3_copyFrom (k : Nat) (o0 : Nat) (σ : PI) (Q : PI → Prop) : Prop := ∀ τ1 : PI, τ1 = up σ (tc k 0) 8 (σ (tc o0 0) 8) → (∀ τ2 : PI, τ2 = up τ1 (tc k 0) 9 (τ1 (tc o0 0) 9) → (∀ τ3 : PI, τ3 = up τ2 (tc k 0) 10 (τ2 (tc o0 0) 10) → (∀ τ4 : PI, τ4 = up τ3 (tc k 0) 11 (τ3 (tc o0 0) 11) → (∀ τ5 : PI, τ5 = up τ4 (tc k 0) 12 (τ4 (tc o0 0) 12) → (∀ τ6 : PI, τ6 = up τ5 (tc k 0) 13 (τ5 (tc o0 0) 13) → (∀ τ7 : PI, τ7 = up τ6 (tc k 0) 14 (τ6 (tc o0 0) 14) → (∀ τ8 : PI, τ8 = upA τ7 (tc k 1) (va_cpy (τ7 (tc o0 1)) (τ7 (tc k 1)) 0 0 5) → (∀ τ9 : PI, τ9 = upA τ8 (tc k 2) (va_cpy (τ8 (tc o0 2)) (τ8 (tc k 2)) 0 0 5) → (∀ τ10 : PI, τ10 = upA τ9 (tc k 3) (va_cpy (τ9 (tc o0 3)) (τ9 (tc k 3)) 0 0 6) → (∀ τ11 : PI, τ11 = upA τ10 (tc k 4) (va_cpy (τ10 (tc o0 4)) (τ10 (tc k 4)) 0 0 6) → (∀ τ12 : PI, τ12 = upA τ11 (tc k 5) (va_cpy (τ11 (tc o0 5)) (τ11 (tc k 5)) 0 0 6) → (∀ τ13 : PI, τ13 = upA τ12 (tc k 6) (va_cpy (τ12 (tc o0 6)) (τ12 (tc k 6)) 0 0 6) → (∀ τ14 : PI, τ14 = upA τ13 (tc k 7) (va_cpy (τ13 (tc o0 7)) (τ13 (tc k 7)) 0 0 30) → (Q τ14))))))))))))))
set_option maxRecDepth 100000 in
set_option maxHeartbeats 4000000 in
theorem ct_X3_copyFrom {l : Launch} {X : XP} (k : Nat) (o0 : Nat) (hk : k < 28) (ho0 : o0 < 28) (σ : PI) (Q : PI → Prop) (h : wp_X3_copyFrom k o0  σ Q) : Ct l yX3_copyFrom cX3_copyFrom 2 none 1 X [.ref (X.1 (tc k 0)), .ref (X.1 (tc o0 0))] σ (qV Q) := by
  refine Ct_of (L := [some (.ref (X.1 (tc k 0))), some (.ref (X.1 (tc o0 0)))]) (by decide) (Nat.le_of_ble_eq_true rfl) rfl (fun M hl cx => ?_)
  subst hl
  unfold wp_X3_copyFrom at h
  refine J_aload_n cx 0 dX3_copyFrom_0 rfl rfl ?_
  refine J_aload_n cx 1 dX3_copyFrom_1 rfl rfl ?_
  refine J_getI cx dX3_copyFrom_2 F_X3_36 (tc_lt ho0 (by decide)) (kq_t0 ho0) rfl ?_
  refine J_putI cx dX3_copyFrom_5 (P_X3_36 _) (tc_lt hk (by decide)) (kq_t0 hk) rfl ?_
  refine J_nm (fun τ1 e_τ1 => ?_)
  replace h := h τ1 e_τ1
  refine J_aload_n cx 0 dX3_copyFrom_8 rfl rfl ?_
  refine J_aload_n cx 1 dX3_copyFrom_9 rfl rfl ?_
  refine J_getI cx dX3_copyFrom_10 F_X3_40 (tc_lt ho0 (by decide)) (kq_t0 ho0) rfl ?_
  refine J_putI cx dX3_copyFrom_13 (P_X3_40 _) (tc_lt hk (by decide)) (kq_t0 hk) rfl ?_
  refine J_nm (fun τ2 e_τ2 => ?_)
  replace h := h τ2 e_τ2
  refine J_aload_n cx 0 dX3_copyFrom_16 rfl rfl ?_
  refine J_aload_n cx 1 dX3_copyFrom_17 rfl rfl ?_
  refine J_getI cx dX3_copyFrom_18 F_X3_52 (tc_lt ho0 (by decide)) (kq_t0 ho0) rfl ?_
  refine J_putI cx dX3_copyFrom_21 (P_X3_52 _) (tc_lt hk (by decide)) (kq_t0 hk) rfl ?_
  refine J_nm (fun τ3 e_τ3 => ?_)
  replace h := h τ3 e_τ3
  refine J_aload_n cx 0 dX3_copyFrom_24 rfl rfl ?_
  refine J_aload_n cx 1 dX3_copyFrom_25 rfl rfl ?_
  refine J_getI cx dX3_copyFrom_26 F_X3_55 (tc_lt ho0 (by decide)) (kq_t0 ho0) rfl ?_
  refine J_putI cx dX3_copyFrom_29 (P_X3_55 _) (tc_lt hk (by decide)) (kq_t0 hk) rfl ?_
  refine J_nm (fun τ4 e_τ4 => ?_)
  replace h := h τ4 e_τ4
  refine J_aload_n cx 0 dX3_copyFrom_32 rfl rfl ?_
  refine J_aload_n cx 1 dX3_copyFrom_33 rfl rfl ?_
  refine J_getI cx dX3_copyFrom_34 F_X3_43 (tc_lt ho0 (by decide)) (kq_t0 ho0) rfl ?_
  refine J_putI cx dX3_copyFrom_37 (P_X3_43 _) (tc_lt hk (by decide)) (kq_t0 hk) rfl ?_
  refine J_nm (fun τ5 e_τ5 => ?_)
  replace h := h τ5 e_τ5
  refine J_aload_n cx 0 dX3_copyFrom_40 rfl rfl ?_
  refine J_aload_n cx 1 dX3_copyFrom_41 rfl rfl ?_
  refine J_getI cx dX3_copyFrom_42 F_X3_46 (tc_lt ho0 (by decide)) (kq_t0 ho0) rfl ?_
  refine J_putI cx dX3_copyFrom_45 (P_X3_46 _) (tc_lt hk (by decide)) (kq_t0 hk) rfl ?_
  refine J_nm (fun τ6 e_τ6 => ?_)
  replace h := h τ6 e_τ6
  refine J_aload_n cx 0 dX3_copyFrom_48 rfl rfl ?_
  refine J_aload_n cx 1 dX3_copyFrom_49 rfl rfl ?_
  refine J_getI cx dX3_copyFrom_50 F_X3_49 (tc_lt ho0 (by decide)) (kq_t0 ho0) rfl ?_
  refine J_putI cx dX3_copyFrom_53 (P_X3_49 _) (tc_lt hk (by decide)) (kq_t0 hk) rfl ?_
  refine J_nm (fun τ7 e_τ7 => ?_)
  replace h := h τ7 e_τ7
  refine J_aload_n cx 1 dX3_copyFrom_56 rfl rfl ?_
  refine J_getR cx (j := (tc o0 1)) dX3_copyFrom_57 F_X3_9 (tc_lt ho0 (by decide)) (kq_t0 ho0) rfl (rq_t ho0) ?_
  refine J_iconst cx dX3_copyFrom_60 (by decide : _ = ((nI 0) : Int32)) ?_
  refine J_aload_n cx 0 dX3_copyFrom_61 rfl rfl ?_
  refine J_getR cx (j := (tc k 1)) dX3_copyFrom_62 F_X3_9 (tc_lt hk (by decide)) (kq_t0 hk) rfl (rq_t hk) ?_
  refine J_iconst cx dX3_copyFrom_65 (by decide : _ = ((nI 0) : Int32)) ?_
  refine J_iconst cx dX3_copyFrom_66 (by decide : _ = ((nI 5) : Int32)) ?_
  refine J_copy cx dX3_copyFrom_67 gw_318 (by decide) (Nat.le_of_ble_eq_true rfl) (tc_lt ho0 (by decide)) (kq_t ho0 (by decide)) (tc_lt hk (by decide)) (kq_t hk (by decide)) (by decide) (by decide) (by decide) (by decide) (by decide) ?_
  refine J_nm (fun τ8 e_τ8 => ?_)
  replace h := h τ8 e_τ8
  refine J_aload_n cx 1 dX3_copyFrom_70 rfl rfl ?_
  refine J_getR cx (j := (tc o0 2)) dX3_copyFrom_71 F_X3_15 (tc_lt ho0 (by decide)) (kq_t0 ho0) rfl (rq_t ho0) ?_
  refine J_iconst cx dX3_copyFrom_74 (by decide : _ = ((nI 0) : Int32)) ?_
  refine J_aload_n cx 0 dX3_copyFrom_75 rfl rfl ?_
  refine J_getR cx (j := (tc k 2)) dX3_copyFrom_76 F_X3_15 (tc_lt hk (by decide)) (kq_t0 hk) rfl (rq_t hk) ?_
  refine J_iconst cx dX3_copyFrom_79 (by decide : _ = ((nI 0) : Int32)) ?_
  refine J_iconst cx dX3_copyFrom_80 (by decide : _ = ((nI 5) : Int32)) ?_
  refine J_copy cx dX3_copyFrom_81 gw_318 (by decide) (Nat.le_of_ble_eq_true rfl) (tc_lt ho0 (by decide)) (kq_t ho0 (by decide)) (tc_lt hk (by decide)) (kq_t hk (by decide)) (by decide) (by decide) (by decide) (by decide) (by decide) ?_
  refine J_nm (fun τ9 e_τ9 => ?_)
  replace h := h τ9 e_τ9
  refine J_aload_n cx 1 dX3_copyFrom_84 rfl rfl ?_
  refine J_getR cx (j := (tc o0 3)) dX3_copyFrom_85 F_X3_18 (tc_lt ho0 (by decide)) (kq_t0 ho0) rfl (rq_t ho0) ?_
  refine J_iconst cx dX3_copyFrom_88 (by decide : _ = ((nI 0) : Int32)) ?_
  refine J_aload_n cx 0 dX3_copyFrom_89 rfl rfl ?_
  refine J_getR cx (j := (tc k 3)) dX3_copyFrom_90 F_X3_18 (tc_lt hk (by decide)) (kq_t0 hk) rfl (rq_t hk) ?_
  refine J_iconst cx dX3_copyFrom_93 (by decide : _ = ((nI 0) : Int32)) ?_
  refine J_bipush cx dX3_copyFrom_94 (by decide : _ = ((nI 6) : Int32)) ?_
  refine J_copy cx dX3_copyFrom_96 gw_318 (by decide) (Nat.le_of_ble_eq_true rfl) (tc_lt ho0 (by decide)) (kq_t ho0 (by decide)) (tc_lt hk (by decide)) (kq_t hk (by decide)) (by decide) (by decide) (by decide) (by decide) (by decide) ?_
  refine J_nm (fun τ10 e_τ10 => ?_)
  replace h := h τ10 e_τ10
  refine J_aload_n cx 1 dX3_copyFrom_99 rfl rfl ?_
  refine J_getR cx (j := (tc o0 4)) dX3_copyFrom_100 F_X3_21 (tc_lt ho0 (by decide)) (kq_t0 ho0) rfl (rq_t ho0) ?_
  refine J_iconst cx dX3_copyFrom_103 (by decide : _ = ((nI 0) : Int32)) ?_
  refine J_aload_n cx 0 dX3_copyFrom_104 rfl rfl ?_
  refine J_getR cx (j := (tc k 4)) dX3_copyFrom_105 F_X3_21 (tc_lt hk (by decide)) (kq_t0 hk) rfl (rq_t hk) ?_
  refine J_iconst cx dX3_copyFrom_108 (by decide : _ = ((nI 0) : Int32)) ?_
  refine J_bipush cx dX3_copyFrom_109 (by decide : _ = ((nI 6) : Int32)) ?_
  refine J_copy cx dX3_copyFrom_111 gw_318 (by decide) (Nat.le_of_ble_eq_true rfl) (tc_lt ho0 (by decide)) (kq_t ho0 (by decide)) (tc_lt hk (by decide)) (kq_t hk (by decide)) (by decide) (by decide) (by decide) (by decide) (by decide) ?_
  refine J_nm (fun τ11 e_τ11 => ?_)
  replace h := h τ11 e_τ11
  refine J_aload_n cx 1 dX3_copyFrom_114 rfl rfl ?_
  refine J_getR cx (j := (tc o0 5)) dX3_copyFrom_115 F_X3_24 (tc_lt ho0 (by decide)) (kq_t0 ho0) rfl (rq_t ho0) ?_
  refine J_iconst cx dX3_copyFrom_118 (by decide : _ = ((nI 0) : Int32)) ?_
  refine J_aload_n cx 0 dX3_copyFrom_119 rfl rfl ?_
  refine J_getR cx (j := (tc k 5)) dX3_copyFrom_120 F_X3_24 (tc_lt hk (by decide)) (kq_t0 hk) rfl (rq_t hk) ?_
  refine J_iconst cx dX3_copyFrom_123 (by decide : _ = ((nI 0) : Int32)) ?_
  refine J_bipush cx dX3_copyFrom_124 (by decide : _ = ((nI 6) : Int32)) ?_
  refine J_copy cx dX3_copyFrom_126 gw_318 (by decide) (Nat.le_of_ble_eq_true rfl) (tc_lt ho0 (by decide)) (kq_t ho0 (by decide)) (tc_lt hk (by decide)) (kq_t hk (by decide)) (by decide) (by decide) (by decide) (by decide) (by decide) ?_
  refine J_nm (fun τ12 e_τ12 => ?_)
  replace h := h τ12 e_τ12
  refine J_aload_n cx 1 dX3_copyFrom_129 rfl rfl ?_
  refine J_getR cx (j := (tc o0 6)) dX3_copyFrom_130 F_X3_27 (tc_lt ho0 (by decide)) (kq_t0 ho0) rfl (rq_t ho0) ?_
  refine J_iconst cx dX3_copyFrom_133 (by decide : _ = ((nI 0) : Int32)) ?_
  refine J_aload_n cx 0 dX3_copyFrom_134 rfl rfl ?_
  refine J_getR cx (j := (tc k 6)) dX3_copyFrom_135 F_X3_27 (tc_lt hk (by decide)) (kq_t0 hk) rfl (rq_t hk) ?_
  refine J_iconst cx dX3_copyFrom_138 (by decide : _ = ((nI 0) : Int32)) ?_
  refine J_bipush cx dX3_copyFrom_139 (by decide : _ = ((nI 6) : Int32)) ?_
  refine J_copy cx dX3_copyFrom_141 gw_318 (by decide) (Nat.le_of_ble_eq_true rfl) (tc_lt ho0 (by decide)) (kq_t ho0 (by decide)) (tc_lt hk (by decide)) (kq_t hk (by decide)) (by decide) (by decide) (by decide) (by decide) (by decide) ?_
  refine J_nm (fun τ13 e_τ13 => ?_)
  replace h := h τ13 e_τ13
  refine J_aload_n cx 1 dX3_copyFrom_144 rfl rfl ?_
  refine J_getR cx (j := (tc o0 7)) dX3_copyFrom_145 F_X3_30 (tc_lt ho0 (by decide)) (kq_t0 ho0) rfl (rq_t ho0) ?_
  refine J_iconst cx dX3_copyFrom_148 (by decide : _ = ((nI 0) : Int32)) ?_
  refine J_aload_n cx 0 dX3_copyFrom_149 rfl rfl ?_
  refine J_getR cx (j := (tc k 7)) dX3_copyFrom_150 F_X3_30 (tc_lt hk (by decide)) (kq_t0 hk) rfl (rq_t hk) ?_
  refine J_iconst cx dX3_copyFrom_153 (by decide : _ = ((nI 0) : Int32)) ?_
  refine J_bipush cx dX3_copyFrom_154 (by decide : _ = ((nI 30) : Int32)) ?_
  refine J_copy cx dX3_copyFrom_156 gw_318 (by decide) (Nat.le_of_ble_eq_true rfl) (tc_lt ho0 (by decide)) (kq_t ho0 (by decide)) (tc_lt hk (by decide)) (kq_t hk (by decide)) (by decide) (by decide) (by decide) (by decide) (by decide) ?_
  refine J_nm (fun τ14 e_τ14 => ?_)
  replace h := h τ14 e_τ14
  exact J_vret cx dX3_copyFrom_159 h
def wp_X0_takeBack (o0 : Nat) (σ : PI) (Q : Int32 → PI → Prop) : Prop := (¬ (σ 256 2) = (nI 0) → ∀ τ2 : PI, τ2 = up σ 256 2 ((σ 256 2) - (nI 1)) → (vp_in (((τ2 256 1) + (τ2 256 2)) - ((τ2 256 1) + (τ2 256 2)) / (nI 24) * (nI 24)) 24 ∧ (wp_X3_copyFrom o0 (4 + ((((τ2 256 1) + (τ2 256 2)) - ((τ2 256 1) + (τ2 256 2)) / (nI 24) * (nI 24)) : Int32).toNatClampNeg) τ2 (fun τ4 => (Q (nI 1) τ4))))) ∧ ((σ 256 2) = (nI 0) → Q (nI 0) σ)
set_option maxRecDepth 100000 in
set_option maxHeartbeats 4000000 in
theorem ct_X0_takeBack {l : Launch} {X : XP} (o0 : Nat) (ho0 : o0 < 28) (σ : PI) (Q : Int32 → PI → Prop) (h : wp_X0_takeBack o0  σ Q) : Ct l yX0_takeBack cX0_takeBack 2 (some .boolean) 2 X [.ref (X.1 256), .ref (X.1 (tc o0 0))] σ (qI Q) := by
  refine Ct_of (L := [some (.ref (X.1 256)), some (.ref (X.1 (tc o0 0)))]) (by decide) (Nat.le_of_ble_eq_true rfl) rfl (fun M hl cx => ?_)
  subst hl
  unfold wp_X0_takeBack at h
  refine J_aload_n cx 0 dX0_takeBack_0 rfl rfl ?_
  refine J_getI cx dX0_takeBack_1 F_X0_18 (by decide) rfl rfl ?_
  refine J_if_ne cx (tgt := 9) dX0_takeBack_4 (by decide) (fun q1 => ?_) (fun q1 => ?_)
  · replace h := h.1 q1
    refine J_aload_n cx 0 dX0_takeBack_9 rfl rfl ?_
    refine J_dup cx dX0_takeBack_10 rfl ?_
    refine J_getI cx dX0_takeBack_11 F_X0_18 (by decide) rfl rfl ?_
    refine J_iconst cx dX0_takeBack_14 (by decide : _ = ((nI 1) : Int32)) ?_
    refine J_isub cx dX0_takeBack_15 ?_
    refine J_putI cx dX0_takeBack_16 (P_X0_18 _) (by decide) rfl rfl ?_
    refine J_nm (fun τ2 e_τ2 => ?_)
    replace h := h τ2 e_τ2
    refine J_aload_n cx 1 dX0_takeBack_19 rfl rfl ?_
    refine J_aload_n cx 0 dX0_takeBack_20 rfl rfl ?_
    refine J_getR cx (j := 255) dX0_takeBack_21 F_X0_11 (by decide) rfl rfl rfl ?_
    refine J_aload_n cx 0 dX0_takeBack_24 rfl rfl ?_
    refine J_getI cx dX0_takeBack_25 F_X0_22 (by decide) rfl rfl ?_
    refine J_aload_n cx 0 dX0_takeBack_28 rfl rfl ?_
    refine J_getI cx dX0_takeBack_29 F_X0_18 (by decide) rfl rfl ?_
    refine J_iadd cx dX0_takeBack_32 ?_
    refine J_bipush cx dX0_takeBack_33 (by decide : _ = ((nI 24) : Int32)) ?_
    refine J_irem cx dX0_takeBack_35 (by decide) ?_
    obtain ⟨s3, h⟩ := h
    refine J_aald cx dX0_takeBack_36 (by decide) rfl (Or.inr rfl) s3 (rq_bef _) ?_
    refine J_cV cx dX0_takeBack_37 V_X0_25 (by decide) (tc_lt ho0 (by decide)) (kq_t0 ho0) (ct_X3_copyFrom o0 (4 + ((((τ2 256 1) + (τ2 256 2)) - ((τ2 256 1) + (τ2 256 2)) / (nI 24) * (nI 24)) : Int32).toNatClampNeg) ho0 (twb s3)  _ _ h) rfl rfl (Nat.le_of_ble_eq_true rfl) (k_v (fun τ4 h => ?_))
    refine J_iconst cx dX0_takeBack_40 (by decide : _ = ((nI 1) : Int32)) ?_
    exact J_zret cx dX0_takeBack_41 (Or.inr rfl) h
  · replace h := h.2 q1
    refine J_iconst cx dX0_takeBack_7 (by decide : _ = ((nI 0) : Int32)) ?_
    exact J_zret cx dX0_takeBack_8 (Or.inl rfl) h
def wp_X0_keep (o0 : Nat) (σ : PI) (Q : PI → Prop) : Prop := vp_in (((σ 256 1) + (σ 256 2)) - ((σ 256 1) + (σ 256 2)) / (nI 24) * (nI 24)) 24 ∧ (wp_X3_copyFrom (4 + ((((σ 256 1) + (σ 256 2)) - ((σ 256 1) + (σ 256 2)) / (nI 24) * (nI 24)) : Int32).toNatClampNeg) o0 σ (fun τ2 => (((nI 24) ≤ (τ2 256 2) → ∀ τ4 : PI, τ4 = up τ2 256 1 (((τ2 256 1) + (nI 1)) - ((τ2 256 1) + (nI 1)) / (nI 24) * (nI 24)) → (Q τ4)) ∧ (¬ (nI 24) ≤ (τ2 256 2) → ∀ τ5 : PI, τ5 = up τ2 256 2 ((τ2 256 2) + (nI 1)) → (Q τ5)))))
set_option maxRecDepth 100000 in
set_option maxHeartbeats 4000000 in
theorem ct_X0_keep {l : Launch} {X : XP} (o0 : Nat) (ho0 : o0 < 28) (σ : PI) (Q : PI → Prop) (h : wp_X0_keep o0  σ Q) : Ct l yX0_keep cX0_keep 2 none 2 X [.ref (X.1 256), .ref (X.1 (tc o0 0))] σ (qV Q) := by
  refine Ct_of (L := [some (.ref (X.1 256)), some (.ref (X.1 (tc o0 0)))]) (by decide) (Nat.le_of_ble_eq_true rfl) rfl (fun M hl cx => ?_)
  subst hl
  unfold wp_X0_keep at h
  refine J_aload_n cx 0 dX0_keep_0 rfl rfl ?_
  refine J_getR cx (j := 255) dX0_keep_1 F_X0_11 (by decide) rfl rfl rfl ?_
  refine J_aload_n cx 0 dX0_keep_4 rfl rfl ?_
  refine J_getI cx dX0_keep_5 F_X0_22 (by decide) rfl rfl ?_
  refine J_aload_n cx 0 dX0_keep_8 rfl rfl ?_
  refine J_getI cx dX0_keep_9 F_X0_18 (by decide) rfl rfl ?_
  refine J_iadd cx dX0_keep_12 ?_
  refine J_bipush cx dX0_keep_13 (by decide : _ = ((nI 24) : Int32)) ?_
  refine J_irem cx dX0_keep_15 (by decide) ?_
  obtain ⟨s1, h⟩ := h
  refine J_aald cx dX0_keep_16 (by decide) rfl (Or.inr rfl) s1 (rq_bef _) ?_
  refine J_aload_n cx 1 dX0_keep_17 rfl rfl ?_
  refine J_cV cx dX0_keep_18 V_X0_25 (by decide) (tc_lt (twb s1) (by decide)) (kq_t0 (twb s1)) (ct_X3_copyFrom (4 + ((((σ 256 1) + (σ 256 2)) - ((σ 256 1) + (σ 256 2)) / (nI 24) * (nI 24)) : Int32).toNatClampNeg) o0 (twb s1) ho0  _ _ h) rfl rfl (Nat.le_of_ble_eq_true rfl) (k_v (fun τ2 h => ?_))
  refine J_aload_n cx 0 dX0_keep_21 rfl rfl ?_
  refine J_getI cx dX0_keep_22 F_X0_18 (by decide) rfl rfl ?_
  refine J_bipush cx dX0_keep_25 (by decide : _ = ((nI 24) : Int32)) ?_
  refine J_icmp_ge cx (tgt := 43) dX0_keep_27 (by decide) (fun q3 => ?_) (fun q3 => ?_)
  · replace h := h.1 q3
    refine J_aload_n cx 0 dX0_keep_43 rfl rfl ?_
    refine J_aload_n cx 0 dX0_keep_44 rfl rfl ?_
    refine J_getI cx dX0_keep_45 F_X0_22 (by decide) rfl rfl ?_
    refine J_iconst cx dX0_keep_48 (by decide : _ = ((nI 1) : Int32)) ?_
    refine J_iadd cx dX0_keep_49 ?_
    refine J_bipush cx dX0_keep_50 (by decide : _ = ((nI 24) : Int32)) ?_
    refine J_irem cx dX0_keep_52 (by decide) ?_
    refine J_putI cx dX0_keep_53 (P_X0_22 _) (by decide) rfl rfl ?_
    refine J_nm (fun τ4 e_τ4 => ?_)
    replace h := h τ4 e_τ4
    exact J_vret cx dX0_keep_56 h
  · replace h := h.2 q3
    refine J_aload_n cx 0 dX0_keep_30 rfl rfl ?_
    refine J_dup cx dX0_keep_31 rfl ?_
    refine J_getI cx dX0_keep_32 F_X0_18 (by decide) rfl rfl ?_
    refine J_iconst cx dX0_keep_35 (by decide : _ = ((nI 1) : Int32)) ?_
    refine J_iadd cx dX0_keep_36 ?_
    refine J_putI cx dX0_keep_37 (P_X0_18 _) (by decide) rfl rfl ?_
    refine J_nm (fun τ5 e_τ5 => ?_)
    replace h := h τ5 e_τ5
    refine J_goto cx (tgt := 56) dX0_keep_40 (by decide) ?_
    exact J_vret cx dX0_keep_56 h
def B_X3_feltByAll_4 (k : Nat) (K4 : (Int32 × Int32 × PI → Prop)) (Q : Int32 → PI → Prop) (l1 : Int32) (l2 : Int32) (σ : PI) : Prop := ((σ (tc k 0) 8) ≤ l2 → Q l1 σ) ∧ (¬ (σ (tc k 0) 8) ≤ l2 → vp_in l2 5 ∧ (∀ x3 : Int32, x3 = (l1 + (σ (tc k 1) (l2 : Int32).toNatClampNeg)) → (K4 (x3, (l2 + (nI 1)), σ))))
def w_X3_feltByAll_4 (k : Nat) (Q : Int32 → PI → Prop) (l1 : Int32) (l2 : Int32) (σ : PI) : Prop := ∃ n, Lp (fun K a => B_X3_feltByAll_4 k  K Q a.1 a.2.1 a.2.2) n (l1, l2, σ)
set_option maxRecDepth 100000 in
set_option maxHeartbeats 4000000 in
theorem j_X3_feltByAll_4 {M : MC} {X : XP} {Q : Int32 → PI → Prop} (k : Nat) (hk : k < 28) (cx : Cx M X RX3 cX3_feltByAll 3 (some .int) 0) (l1 : Int32) (l2 : Int32) (σ : PI) (h : w_X3_feltByAll_4 k  Q l1 l2 σ) : J M X (QF M X (qI Q)) σ 4 [some (.ref (X.1 (tc k 0))), some (.int l1), some (.int l2)] [] := by
  refine Lp_J (P := fun (a : Int32 × Int32 × PI) => J M X (QF M X (qI Q)) (a.2.2) 4 [some (.ref (X.1 (tc k 0))), some (.int a.1), some (.int a.2.1)] []) (fun K4 hK a h => ?_) h
  obtain ⟨l1, l2, σ⟩ := a
  have hK4 : ∀ (l1 : Int32) (l2 : Int32) (σ : PI), K4 (l1, l2, σ) → J M X (QF M X (qI Q)) σ 4 [some (.ref (X.1 (tc k 0))), some (.int l1), some (.int l2)] [] := fun l1 l2 σ q => hK _ q
  replace h : B_X3_feltByAll_4 k  K4 Q l1 l2 σ := h
  show J M X (QF M X (qI Q)) σ 4 [some (.ref (X.1 (tc k 0))), some (.int l1), some (.int l2)] []
  unfold B_X3_feltByAll_4 at h
  refine J_iload_n cx 2 dX3_feltByAll_4 rfl rfl ?_
  refine J_aload_n cx 0 dX3_feltByAll_5 rfl rfl ?_
  refine J_getI cx dX3_feltByAll_6 F_X3_36 (tc_lt hk (by decide)) (kq_t0 hk) rfl ?_
  refine J_icmp_ge cx (tgt := 27) dX3_feltByAll_9 (by decide) (fun q1 => ?_) (fun q1 => ?_)
  · replace h := h.1 q1
    refine J_iload_n cx 1 dX3_feltByAll_27 rfl rfl ?_
    exact J_iret cx dX3_feltByAll_28 h
  · replace h := h.2 q1
    refine J_iload_n cx 1 dX3_feltByAll_12 rfl rfl ?_
    refine J_aload_n cx 0 dX3_feltByAll_13 rfl rfl ?_
    refine J_getR cx (j := (tc k 1)) dX3_feltByAll_14 F_X3_9 (tc_lt hk (by decide)) (kq_t0 hk) rfl (rq_t hk) ?_
    refine J_iload_n cx 2 dX3_feltByAll_17 rfl rfl ?_
    obtain ⟨s2, h⟩ := h
    refine J_iald cx dX3_feltByAll_18 (tc_lt hk (by decide)) (kq_t hk (by decide)) s2 ?_
    refine J_iadd cx dX3_feltByAll_19 ?_
    refine J_topi (fun x3 e_x3 => ?_)
    replace h := h x3 e_x3
    refine J_istore_n cx 1 dX3_feltByAll_20 rfl (by decide) rfl rfl ?_
    refine J_iinc cx dX3_feltByAll_21 rfl (by decide : _ = ((nI 1) : Int32)) (by decide) rfl rfl ?_
    refine J_goto cx (tgt := 4) dX3_feltByAll_24 (by decide) ?_
    exact hK4   _ _ _ h
def wp_X3_feltByAll (k : Nat) (σ : PI) (Q : Int32 → PI → Prop) : Prop := w_X3_feltByAll_4 k  Q (nI 0) (nI 0) σ
set_option maxRecDepth 100000 in
set_option maxHeartbeats 4000000 in
theorem ct_X3_feltByAll {l : Launch} {X : XP} (k : Nat) (hk : k < 28) (σ : PI) (Q : Int32 → PI → Prop) (h : wp_X3_feltByAll k  σ Q) : Ct l yX3_feltByAll cX3_feltByAll 3 (some .int) 0 X [.ref (X.1 (tc k 0))] σ (qI Q) := by
  refine Ct_of (L := [some (.ref (X.1 (tc k 0))), none, none]) (by decide) (Nat.le_of_ble_eq_true rfl) rfl (fun M hl cx => ?_)
  subst hl
  unfold wp_X3_feltByAll at h
  refine J_iconst cx dX3_feltByAll_0 (by decide : _ = ((nI 0) : Int32)) ?_
  refine J_istore_n cx 1 dX3_feltByAll_1 rfl (by decide) rfl rfl ?_
  refine J_iconst cx dX3_feltByAll_2 (by decide : _ = ((nI 0) : Int32)) ?_
  refine J_istore_n cx 2 dX3_feltByAll_3 rfl (by decide) rfl rfl ?_
  exact j_X3_feltByAll_4 k hk   cx   _ _ _ h
def wp_X3_houseToday (k : Nat) (a0 : Int32) (σ : PI) (Q : Int32 → PI → Prop) : Prop := ((σ (tc k 0) 8) ≤ (nI 0) → Q (nI 0) σ) ∧ (¬ (σ (tc k 0) 8) ≤ (nI 0) → vp_in a0 6 ∧ (vp_in a0 6 ∧ (¬ (σ (tc k 0) 8) = (nI 0) ∧ (Q (((σ (tc k 4) (a0 : Int32).toNatClampNeg) + ((σ (tc k 6) (a0 : Int32).toNatClampNeg) * (σ (tc k 0) 12))) - ((σ (tc k 4) (a0 : Int32).toNatClampNeg) + ((σ (tc k 6) (a0 : Int32).toNatClampNeg) * (σ (tc k 0) 12))) / (σ (tc k 0) 8) * (σ (tc k 0) 8)) σ))))
set_option maxRecDepth 100000 in
set_option maxHeartbeats 4000000 in
theorem ct_X3_houseToday {l : Launch} {X : XP} (k : Nat) (hk : k < 28) (a0 : Int32) (σ : PI) (Q : Int32 → PI → Prop) (h : wp_X3_houseToday k a0 σ Q) : Ct l yX3_houseToday cX3_houseToday 2 (some .int) 0 X [.ref (X.1 (tc k 0)), .int a0] σ (qI Q) := by
  refine Ct_of (L := [some (.ref (X.1 (tc k 0))), some (.int a0)]) (by decide) (Nat.le_of_ble_eq_true rfl) rfl (fun M hl cx => ?_)
  subst hl
  unfold wp_X3_houseToday at h
  refine J_aload_n cx 0 dX3_houseToday_0 rfl rfl ?_
  refine J_getI cx dX3_houseToday_1 F_X3_36 (tc_lt hk (by decide)) (kq_t0 hk) rfl ?_
  refine J_if_le cx (tgt := 33) dX3_houseToday_4 (by decide) (fun q1 => ?_) (fun q1 => ?_)
  · replace h := h.1 q1
    refine J_iconst cx dX3_houseToday_33 (by decide : _ = ((nI 0) : Int32)) ?_
    exact J_iret cx dX3_houseToday_34 h
  · replace h := h.2 q1
    refine J_aload_n cx 0 dX3_houseToday_7 rfl rfl ?_
    refine J_getR cx (j := (tc k 4)) dX3_houseToday_8 F_X3_21 (tc_lt hk (by decide)) (kq_t0 hk) rfl (rq_t hk) ?_
    refine J_iload_n cx 1 dX3_houseToday_11 rfl rfl ?_
    obtain ⟨s2, h⟩ := h
    refine J_iald cx dX3_houseToday_12 (tc_lt hk (by decide)) (kq_t hk (by decide)) s2 ?_
    refine J_aload_n cx 0 dX3_houseToday_13 rfl rfl ?_
    refine J_getR cx (j := (tc k 6)) dX3_houseToday_14 F_X3_27 (tc_lt hk (by decide)) (kq_t0 hk) rfl (rq_t hk) ?_
    refine J_iload_n cx 1 dX3_houseToday_17 rfl rfl ?_
    obtain ⟨s3, h⟩ := h
    refine J_iald cx dX3_houseToday_18 (tc_lt hk (by decide)) (kq_t hk (by decide)) s3 ?_
    refine J_aload_n cx 0 dX3_houseToday_19 rfl rfl ?_
    refine J_getI cx dX3_houseToday_20 F_X3_43 (tc_lt hk (by decide)) (kq_t0 hk) rfl ?_
    refine J_imul cx dX3_houseToday_23 ?_
    refine J_iadd cx dX3_houseToday_24 ?_
    refine J_aload_n cx 0 dX3_houseToday_25 rfl rfl ?_
    refine J_getI cx dX3_houseToday_26 F_X3_36 (tc_lt hk (by decide)) (kq_t0 hk) rfl ?_
    obtain ⟨s4, h⟩ := h
    refine J_irem cx dX3_houseToday_29 s4 ?_
    refine J_goto cx (tgt := 34) dX3_houseToday_30 (by decide) ?_
    exact J_iret cx dX3_houseToday_34 h
def wp_X3_idly (k : Nat) (a0 : Int32) (σ : PI) (Q : Int32 → PI → Prop) : Prop := (¬ ((σ (tc k 0) 12) - (σ (tc k 0) 12) / (nI 3) * (nI 3)) = (nI 0) → Q (nI 0) σ) ∧ (((σ (tc k 0) 12) - (σ (tc k 0) 12) / (nI 3) * (nI 3)) = (nI 0) → vp_in a0 6 ∧ (Q (σ (tc k 5) (a0 : Int32).toNatClampNeg) σ))
set_option maxRecDepth 100000 in
set_option maxHeartbeats 4000000 in
theorem ct_X3_idly {l : Launch} {X : XP} (k : Nat) (hk : k < 28) (a0 : Int32) (σ : PI) (Q : Int32 → PI → Prop) (h : wp_X3_idly k a0 σ Q) : Ct l yX3_idly cX3_idly 2 (some .int) 0 X [.ref (X.1 (tc k 0)), .int a0] σ (qI Q) := by
  refine Ct_of (L := [some (.ref (X.1 (tc k 0))), some (.int a0)]) (by decide) (Nat.le_of_ble_eq_true rfl) rfl (fun M hl cx => ?_)
  subst hl
  unfold wp_X3_idly at h
  refine J_aload_n cx 0 dX3_idly_0 rfl rfl ?_
  refine J_getI cx dX3_idly_1 F_X3_43 (tc_lt hk (by decide)) (kq_t0 hk) rfl ?_
  refine J_iconst cx dX3_idly_4 (by decide : _ = ((nI 3) : Int32)) ?_
  refine J_irem cx dX3_idly_5 (by decide) ?_
  refine J_if_ne cx (tgt := 18) dX3_idly_6 (by decide) (fun q1 => ?_) (fun q1 => ?_)
  · replace h := h.1 q1
    refine J_iconst cx dX3_idly_18 (by decide : _ = ((nI 0) : Int32)) ?_
    exact J_iret cx dX3_idly_19 h
  · replace h := h.2 q1
    refine J_aload_n cx 0 dX3_idly_9 rfl rfl ?_
    refine J_getR cx (j := (tc k 5)) dX3_idly_10 F_X3_24 (tc_lt hk (by decide)) (kq_t0 hk) rfl (rq_t hk) ?_
    refine J_iload_n cx 1 dX3_idly_13 rfl rfl ?_
    obtain ⟨s2, h⟩ := h
    refine J_iald cx dX3_idly_14 (tc_lt hk (by decide)) (kq_t hk (by decide)) s2 ?_
    refine J_goto cx (tgt := 19) dX3_idly_15 (by decide) ?_
    exact J_iret cx dX3_idly_19 h
def wp_X3_isRainy (k : Nat) (σ : PI) (Q : Int32 → PI → Prop) : Prop := ((σ (tc k 0) 11) ≤ (((nI 7) * (σ (tc k 0) 12)) - ((nI 7) * (σ (tc k 0) 12)) / (nI 10) * (nI 10)) → Q (nI 0) σ) ∧ (¬ (σ (tc k 0) 11) ≤ (((nI 7) * (σ (tc k 0) 12)) - ((nI 7) * (σ (tc k 0) 12)) / (nI 10) * (nI 10)) → Q (nI 1) σ)
set_option maxRecDepth 100000 in
set_option maxHeartbeats 4000000 in
theorem ct_X3_isRainy {l : Launch} {X : XP} (k : Nat) (hk : k < 28) (σ : PI) (Q : Int32 → PI → Prop) (h : wp_X3_isRainy k  σ Q) : Ct l yX3_isRainy cX3_isRainy 1 (some .boolean) 0 X [.ref (X.1 (tc k 0))] σ (qI Q) := by
  refine Ct_of (L := [some (.ref (X.1 (tc k 0)))]) (by decide) (Nat.le_of_ble_eq_true rfl) rfl (fun M hl cx => ?_)
  subst hl
  unfold wp_X3_isRainy at h
  refine J_bipush cx dX3_isRainy_0 (by decide : _ = ((nI 7) : Int32)) ?_
  refine J_aload_n cx 0 dX3_isRainy_2 rfl rfl ?_
  refine J_getI cx dX3_isRainy_3 F_X3_43 (tc_lt hk (by decide)) (kq_t0 hk) rfl ?_
  refine J_imul cx dX3_isRainy_6 ?_
  refine J_bipush cx dX3_isRainy_7 (by decide : _ = ((nI 10) : Int32)) ?_
  refine J_irem cx dX3_isRainy_9 (by decide) ?_
  refine J_aload_n cx 0 dX3_isRainy_10 rfl rfl ?_
  refine J_getI cx dX3_isRainy_11 F_X3_55 (tc_lt hk (by decide)) (kq_t0 hk) rfl ?_
  refine J_icmp_ge cx (tgt := 21) dX3_isRainy_14 (by decide) (fun q1 => ?_) (fun q1 => ?_)
  · replace h := h.1 q1
    refine J_iconst cx dX3_isRainy_21 (by decide : _ = ((nI 0) : Int32)) ?_
    exact J_zret cx dX3_isRainy_22 (Or.inl rfl) h
  · replace h := h.2 q1
    refine J_iconst cx dX3_isRainy_17 (by decide : _ = ((nI 1) : Int32)) ?_
    refine J_goto cx (tgt := 22) dX3_isRainy_18 (by decide) ?_
    exact J_zret cx dX3_isRainy_22 (Or.inr rfl) h
def wp_X3_timesAway (k : Nat) (a0 : Int32) (a1 : Int32) (σ : PI) (Q : Int32 → PI → Prop) : Prop := vp_in ((a0 * (nI 5)) + a1) 30 ∧ (Q (σ (tc k 7) (((a0 * (nI 5)) + a1) : Int32).toNatClampNeg) σ)
set_option maxRecDepth 100000 in
set_option maxHeartbeats 4000000 in
theorem ct_X3_timesAway {l : Launch} {X : XP} (k : Nat) (hk : k < 28) (a0 : Int32) (a1 : Int32) (σ : PI) (Q : Int32 → PI → Prop) (h : wp_X3_timesAway k a0 a1 σ Q) : Ct l yX3_timesAway cX3_timesAway 3 (some .int) 0 X [.ref (X.1 (tc k 0)), .int a0, .int a1] σ (qI Q) := by
  refine Ct_of (L := [some (.ref (X.1 (tc k 0))), some (.int a0), some (.int a1)]) (by decide) (Nat.le_of_ble_eq_true rfl) rfl (fun M hl cx => ?_)
  subst hl
  unfold wp_X3_timesAway at h
  refine J_aload_n cx 0 dX3_timesAway_0 rfl rfl ?_
  refine J_getR cx (j := (tc k 7)) dX3_timesAway_1 F_X3_30 (tc_lt hk (by decide)) (kq_t0 hk) rfl (rq_t hk) ?_
  refine J_iload_n cx 1 dX3_timesAway_4 rfl rfl ?_
  refine J_iconst cx dX3_timesAway_5 (by decide : _ = ((nI 5) : Int32)) ?_
  refine J_imul cx dX3_timesAway_6 ?_
  refine J_iload_n cx 2 dX3_timesAway_7 rfl rfl ?_
  refine J_iadd cx dX3_timesAway_8 ?_
  obtain ⟨s1, h⟩ := h
  refine J_iald cx dX3_timesAway_9 (tc_lt hk (by decide)) (kq_t hk (by decide)) s1 ?_
  exact J_iret cx dX3_timesAway_10 h
def w_X3_makesToday_103 (k : Nat) (Q : Int32 → PI → Prop) (l1 : Int32) (σ : PI) : Prop := wp_X3_idly k l1 σ (fun r22 τ21 => (Q r22 τ21))
set_option maxRecDepth 100000 in
set_option maxHeartbeats 4000000 in
theorem j_X3_makesToday_103 {M : MC} {X : XP} {Q : Int32 → PI → Prop} (k : Nat) (hk : k < 28) (cx : Cx M X RX3 cX3_makesToday 2 (some .int) 1) (l1 : Int32) (σ : PI) (h : w_X3_makesToday_103 k  Q l1 σ) : J M X (QF M X (qI Q)) σ 103 [some (.ref (X.1 (tc k 0))), some (.int l1)] [] := by
  unfold w_X3_makesToday_103 at h
  refine J_aload_n cx 0 dX3_makesToday_103 rfl rfl ?_
  refine J_iload_n cx 1 dX3_makesToday_104 rfl rfl ?_
  refine J_cV cx dX3_makesToday_105 V_X3_81 (by decide) (tc_lt hk (by decide)) (kq_t0 hk) (ct_X3_idly k hk _ _ _ h) rfl rfl (Nat.le_of_ble_eq_true rfl) (k_i (fun r22 τ21 h => ?_))
  exact J_iret cx dX3_makesToday_108 h
def wp_X3_makesToday (k : Nat) (a0 : Int32) (σ : PI) (Q : Int32 → PI → Prop) : Prop := vp_in a0 6 ∧ (((σ (tc k 3) (a0 : Int32).toNatClampNeg) = (nI 1) → vp_in a0 6 ∧ (Q (σ (tc k 5) (a0 : Int32).toNatClampNeg) σ)) ∧ ((σ (tc k 3) (a0 : Int32).toNatClampNeg) = (nI 2) → vp_in a0 6 ∧ (wp_X3_houseToday k a0 σ (fun r7 τ6 => (wp_X3_timesAway k a0 r7 τ6 (fun r9 τ8 => (Q ((σ (tc k 5) (a0 : Int32).toNatClampNeg) + (if r9 < (nI 9) then r9 else (nI 9))) τ8)))))) ∧ ((σ (tc k 3) (a0 : Int32).toNatClampNeg) = (nI 3) → vp_in a0 6 ∧ (Q ((σ (tc k 5) (a0 : Int32).toNatClampNeg) / (nI 2)) σ)) ∧ ((σ (tc k 3) (a0 : Int32).toNatClampNeg) = (nI 4) → w_X3_makesToday_103 k  Q a0 σ) ∧ ((σ (tc k 3) (a0 : Int32).toNatClampNeg) = (nI 5) → wp_X3_isRainy k σ (fun r15 τ14 => ((r15 = (nI 0) → wp_X3_idly k a0 τ14 (fun r18 τ17 => (Q r18 τ17))) ∧ (¬ r15 = (nI 0) → vp_in a0 6 ∧ (Q ((nI 2) * (τ14 (tc k 5) (a0 : Int32).toNatClampNeg)) τ14))))) ∧ (((σ (tc k 3) (a0 : Int32).toNatClampNeg) : Int32).toInt < 1 ∨ 5 < ((σ (tc k 3) (a0 : Int32).toNatClampNeg) : Int32).toInt → w_X3_makesToday_103 k  Q a0 σ))
set_option maxRecDepth 100000 in
set_option maxHeartbeats 4000000 in
theorem ct_X3_makesToday {l : Launch} {X : XP} (k : Nat) (hk : k < 28) (a0 : Int32) (σ : PI) (Q : Int32 → PI → Prop) (h : wp_X3_makesToday k a0 σ Q) : Ct l yX3_makesToday cX3_makesToday 2 (some .int) 1 X [.ref (X.1 (tc k 0)), .int a0] σ (qI Q) := by
  refine Ct_of (L := [some (.ref (X.1 (tc k 0))), some (.int a0)]) (by decide) (Nat.le_of_ble_eq_true rfl) rfl (fun M hl cx => ?_)
  subst hl
  unfold wp_X3_makesToday at h
  refine J_aload_n cx 0 dX3_makesToday_0 rfl rfl ?_
  refine J_getR cx (j := (tc k 3)) dX3_makesToday_1 F_X3_18 (tc_lt hk (by decide)) (kq_t0 hk) rfl (rq_t hk) ?_
  refine J_iload_n cx 1 dX3_makesToday_4 rfl rfl ?_
  obtain ⟨s1, h⟩ := h
  refine J_iald cx dX3_makesToday_5 (tc_lt hk (by decide)) (kq_t hk (by decide)) s1 ?_
  by_cases q2 : (σ (tc k 3) (a0 : Int32).toNatClampNeg) = (nI 1)
  · refine J_tsI cx (tgt := 40) (nI 1) q2 dX3_makesToday_6 (by decide) (by decide) rfl (by decide) ?_
    replace h := h.1 q2
    refine J_aload_n cx 0 dX3_makesToday_40 rfl rfl ?_
    refine J_getR cx (j := (tc k 5)) dX3_makesToday_41 F_X3_24 (tc_lt hk (by decide)) (kq_t0 hk) rfl (rq_t hk) ?_
    refine J_iload_n cx 1 dX3_makesToday_44 rfl rfl ?_
    obtain ⟨s3, h⟩ := h
    refine J_iald cx dX3_makesToday_45 (tc_lt hk (by decide)) (kq_t hk (by decide)) s3 ?_
    exact J_iret cx dX3_makesToday_46 h
  by_cases q4 : (σ (tc k 3) (a0 : Int32).toNatClampNeg) = (nI 2)
  · refine J_tsI cx (tgt := 47) (nI 2) q4 dX3_makesToday_6 (by decide) (by decide) rfl (by decide) ?_
    replace h := h.2.1 q4
    refine J_aload_n cx 0 dX3_makesToday_47 rfl rfl ?_
    refine J_getR cx (j := (tc k 5)) dX3_makesToday_48 F_X3_24 (tc_lt hk (by decide)) (kq_t0 hk) rfl (rq_t hk) ?_
    refine J_iload_n cx 1 dX3_makesToday_51 rfl rfl ?_
    obtain ⟨s5, h⟩ := h
    refine J_iald cx dX3_makesToday_52 (tc_lt hk (by decide)) (kq_t hk (by decide)) s5 ?_
    refine J_bipush cx dX3_makesToday_53 (by decide : _ = ((nI 9) : Int32)) ?_
    refine J_aload_n cx 0 dX3_makesToday_55 rfl rfl ?_
    refine J_iload_n cx 1 dX3_makesToday_56 rfl rfl ?_
    refine J_aload_n cx 0 dX3_makesToday_57 rfl rfl ?_
    refine J_iload_n cx 1 dX3_makesToday_58 rfl rfl ?_
    refine J_cV cx dX3_makesToday_59 V_X3_64 (by decide) (tc_lt hk (by decide)) (kq_t0 hk) (ct_X3_houseToday k hk _ _ _ h) rfl rfl (Nat.le_of_ble_eq_true rfl) (k_i (fun r7 τ6 h => ?_))
    refine J_cV cx dX3_makesToday_62 V_X3_68 (by decide) (tc_lt hk (by decide)) (kq_t0 hk) (ct_X3_timesAway k hk _ _ _ _ h) rfl rfl (Nat.le_of_ble_eq_true rfl) (k_i (fun r9 τ8 h => ?_))
    refine J_mmin cx dX3_makesToday_65 (by decide) (Nat.le_of_ble_eq_true rfl) gw_372 mn_s mn_c ?_
    refine J_iadd cx dX3_makesToday_68 ?_
    exact J_iret cx dX3_makesToday_69 h
  by_cases q10 : (σ (tc k 3) (a0 : Int32).toNatClampNeg) = (nI 3)
  · refine J_tsI cx (tgt := 70) (nI 3) q10 dX3_makesToday_6 (by decide) (by decide) rfl (by decide) ?_
    replace h := h.2.2.1 q10
    refine J_aload_n cx 0 dX3_makesToday_70 rfl rfl ?_
    refine J_getR cx (j := (tc k 5)) dX3_makesToday_71 F_X3_24 (tc_lt hk (by decide)) (kq_t0 hk) rfl (rq_t hk) ?_
    refine J_iload_n cx 1 dX3_makesToday_74 rfl rfl ?_
    obtain ⟨s11, h⟩ := h
    refine J_iald cx dX3_makesToday_75 (tc_lt hk (by decide)) (kq_t hk (by decide)) s11 ?_
    refine J_iconst cx dX3_makesToday_76 (by decide : _ = ((nI 2) : Int32)) ?_
    refine J_idiv cx dX3_makesToday_77 (by decide) ?_
    exact J_iret cx dX3_makesToday_78 h
  by_cases q12 : (σ (tc k 3) (a0 : Int32).toNatClampNeg) = (nI 4)
  · refine J_tsI cx (tgt := 103) (nI 4) q12 dX3_makesToday_6 (by decide) (by decide) rfl (by decide) ?_
    replace h := h.2.2.2.1 q12
    exact j_X3_makesToday_103 k hk   cx   _ _ h
  by_cases q13 : (σ (tc k 3) (a0 : Int32).toNatClampNeg) = (nI 5)
  · refine J_tsI cx (tgt := 79) (nI 5) q13 dX3_makesToday_6 (by decide) (by decide) rfl (by decide) ?_
    replace h := h.2.2.2.2.1 q13
    refine J_aload_n cx 0 dX3_makesToday_79 rfl rfl ?_
    refine J_cV cx dX3_makesToday_80 V_X3_77 (by decide) (tc_lt hk (by decide)) (kq_t0 hk) (ct_X3_isRainy k hk  _ _ h) rfl rfl (Nat.le_of_ble_eq_true rfl) (k_i (fun r15 τ14 h => ?_))
    refine J_if_eq cx (tgt := 97) dX3_makesToday_83 (by decide) (fun q16 => ?_) (fun q16 => ?_)
    · replace h := h.1 q16
      refine J_aload_n cx 0 dX3_makesToday_97 rfl rfl ?_
      refine J_iload_n cx 1 dX3_makesToday_98 rfl rfl ?_
      refine J_cV cx dX3_makesToday_99 V_X3_81 (by decide) (tc_lt hk (by decide)) (kq_t0 hk) (ct_X3_idly k hk _ _ _ h) rfl rfl (Nat.le_of_ble_eq_true rfl) (k_i (fun r18 τ17 h => ?_))
      exact J_iret cx dX3_makesToday_102 h
    · replace h := h.2 q16
      refine J_iconst cx dX3_makesToday_86 (by decide : _ = ((nI 2) : Int32)) ?_
      refine J_aload_n cx 0 dX3_makesToday_87 rfl rfl ?_
      refine J_getR cx (j := (tc k 5)) dX3_makesToday_88 F_X3_24 (tc_lt hk (by decide)) (kq_t0 hk) rfl (rq_t hk) ?_
      refine J_iload_n cx 1 dX3_makesToday_91 rfl rfl ?_
      obtain ⟨s19, h⟩ := h
      refine J_iald cx dX3_makesToday_92 (tc_lt hk (by decide)) (kq_t hk (by decide)) s19 ?_
      refine J_imul cx dX3_makesToday_93 ?_
      refine J_goto cx (tgt := 102) dX3_makesToday_94 (by decide) ?_
      exact J_iret cx dX3_makesToday_102 h
  have n_q2 := lv_neT (a := 1) q2 rfl
  have n_q4 := lv_neT (a := 2) q4 rfl
  have n_q10 := lv_neT (a := 3) q10 rfl
  have n_q12 := lv_neT (a := 4) q12 rfl
  have n_q13 := lv_neT (a := 5) q13 rfl
  have q20 : ((σ (tc k 3) (a0 : Int32).toNatClampNeg) : Int32).toInt < 1 ∨ 5 < ((σ (tc k 3) (a0 : Int32).toNatClampNeg) : Int32).toInt := by omega
  refine J_tsO cx (tgt := 103) dX3_makesToday_6 q20 (by decide) ?_
  replace h := h.2.2.2.2.2 q20
  exact j_X3_makesToday_103 k hk   cx   _ _ h
def wp_X4_bit (a0 : Int32) (a1 : Int32) (σ : PI) (Q : Int32 → PI → Prop) : Prop := Q ((a0 >>> (a1 &&& 31)) &&& (nI 1)) σ
set_option maxRecDepth 100000 in
set_option maxHeartbeats 4000000 in
theorem ct_X4_bit {l : Launch} {X : XP} (a0 : Int32) (a1 : Int32) (σ : PI) (Q : Int32 → PI → Prop) (h : wp_X4_bit  a0 a1 σ Q) : Ct l yX4_bit cX4_bit 2 (some .int) 0 X [.int a0, .int a1] σ (qI Q) := by
  refine Ct_of (L := [some (.int a0), some (.int a1)]) (by decide) (Nat.le_of_ble_eq_true rfl) rfl (fun M hl cx => ?_)
  subst hl
  unfold wp_X4_bit at h
  refine J_iload_n cx 0 dX4_bit_0 rfl rfl ?_
  refine J_iload_n cx 1 dX4_bit_1 rfl rfl ?_
  refine J_ishr cx dX4_bit_2 ?_
  refine J_iconst cx dX4_bit_3 (by decide : _ = ((nI 1) : Int32)) ?_
  refine J_iand cx dX4_bit_4 ?_
  exact J_iret cx dX4_bit_5 h
def w_X3_stayAway_83 (k : Nat) (K24 : (Int32 × Int32 × PI → Prop)) (Q : Int32 → PI → Prop) (l1 : Int32) (l2 : Int32) (σ : PI) : Prop := K24 (l1, (l2 + (nI 1)), σ)
set_option maxRecDepth 100000 in
set_option maxHeartbeats 4000000 in
theorem j_X3_stayAway_83 {M : MC} {X : XP} {Q : Int32 → PI → Prop} (k : Nat) (hk : k < 28) (K24 : (Int32 × Int32 × PI → Prop)) (hK24 : ∀ (l1 : Int32) (l2 : Int32) (σ : PI), K24 (l1, l2, σ) → J M X (QF M X (qI Q)) σ 24 [some (.ref (X.1 (tc k 0))), some (.int l1), some (.int l2), none] []) (cx : Cx M X RX3 cX3_stayAway 4 (some .int) 2) (l1 : Int32) (l2 : Int32) (σ : PI) (h : w_X3_stayAway_83 k K24 Q l1 l2 σ) : J M X (QF M X (qI Q)) σ 83 [some (.ref (X.1 (tc k 0))), some (.int l1), some (.int l2), none] [] := by
  unfold w_X3_stayAway_83 at h
  refine J_iinc cx dX3_stayAway_83 rfl (by decide : _ = ((nI 1) : Int32)) (by decide) rfl rfl ?_
  refine J_goto cx (tgt := 24) dX3_stayAway_86 (by decide) ?_
  exact hK24   _ _ _ h
def B_X3_stayAway_24 (k : Nat) (K24 : (Int32 × Int32 × PI → Prop)) (Q : Int32 → PI → Prop) (l1 : Int32) (l2 : Int32) (σ : PI) : Prop := ((σ (tc k 0) 9) ≤ l2 → Q l1 σ) ∧ (¬ (σ (tc k 0) 9) ≤ l2 → wp_X4_bit (σ (tc k 0) 14) l2 σ (fun r6 τ5 => ((¬ r6 = (nI 0) → w_X3_stayAway_83 k K24 Q l1 l2 τ5) ∧ (r6 = (nI 0) → wp_X3_houseToday k l2 τ5 (fun r9 τ8 => (vp_in r9 5 ∧ (wp_X3_makesToday k l2 τ8 (fun r12 τ11 => (vp_in r9 5 ∧ (∀ τ14 : PI, τ14 = up τ11 (tc k 8) (r9 : Int32).toNatClampNeg ((τ8 (tc k 8) (r9 : Int32).toNatClampNeg) + r12) → (vp_in ((l2 * (nI 5)) + r9) 30 ∧ (vp_in ((l2 * (nI 5)) + r9) 30 ∧ (∀ τ17 : PI, τ17 = up τ14 (tc k 7) (((l2 * (nI 5)) + r9) : Int32).toNatClampNeg ((τ14 (tc k 7) (((l2 * (nI 5)) + r9) : Int32).toNatClampNeg) + (nI 1)) → (∀ x18 : Int32, x18 = (l1 ||| ((nI 1) <<< (r9 &&& 31))) → (w_X3_stayAway_83 k K24 Q x18 l2 τ17)))))))))))))))
def w_X3_stayAway_24 (k : Nat) (Q : Int32 → PI → Prop) (l1 : Int32) (l2 : Int32) (σ : PI) : Prop := ∃ n, Lp (fun K a => B_X3_stayAway_24 k  K Q a.1 a.2.1 a.2.2) n (l1, l2, σ)
set_option maxRecDepth 100000 in
set_option maxHeartbeats 4000000 in
theorem j_X3_stayAway_24 {M : MC} {X : XP} {Q : Int32 → PI → Prop} (k : Nat) (hk : k < 28) (cx : Cx M X RX3 cX3_stayAway 4 (some .int) 2) (l1 : Int32) (l2 : Int32) (σ : PI) (h : w_X3_stayAway_24 k  Q l1 l2 σ) : J M X (QF M X (qI Q)) σ 24 [some (.ref (X.1 (tc k 0))), some (.int l1), some (.int l2), none] [] := by
  refine Lp_J (P := fun (a : Int32 × Int32 × PI) => J M X (QF M X (qI Q)) (a.2.2) 24 [some (.ref (X.1 (tc k 0))), some (.int a.1), some (.int a.2.1), none] []) (fun K24 hK a h => ?_) h
  obtain ⟨l1, l2, σ⟩ := a
  have hK24 : ∀ (l1 : Int32) (l2 : Int32) (σ : PI), K24 (l1, l2, σ) → J M X (QF M X (qI Q)) σ 24 [some (.ref (X.1 (tc k 0))), some (.int l1), some (.int l2), none] [] := fun l1 l2 σ q => hK _ q
  replace h : B_X3_stayAway_24 k  K24 Q l1 l2 σ := h
  show J M X (QF M X (qI Q)) σ 24 [some (.ref (X.1 (tc k 0))), some (.int l1), some (.int l2), none] []
  unfold B_X3_stayAway_24 at h
  refine J_iload_n cx 2 dX3_stayAway_24 rfl rfl ?_
  refine J_aload_n cx 0 dX3_stayAway_25 rfl rfl ?_
  refine J_getI cx dX3_stayAway_26 F_X3_40 (tc_lt hk (by decide)) (kq_t0 hk) rfl ?_
  refine J_icmp_ge cx (tgt := 89) dX3_stayAway_29 (by decide) (fun q4 => ?_) (fun q4 => ?_)
  · replace h := h.1 q4
    refine J_iload_n cx 1 dX3_stayAway_89 rfl rfl ?_
    exact J_iret cx dX3_stayAway_90 h
  · replace h := h.2 q4
    refine J_aload_n cx 0 dX3_stayAway_32 rfl rfl ?_
    refine J_getI cx dX3_stayAway_33 F_X3_49 (tc_lt hk (by decide)) (kq_t0 hk) rfl ?_
    refine J_iload_n cx 2 dX3_stayAway_36 rfl rfl ?_
    refine J_cN cx dX3_stayAway_37 N_X3_84 (by decide) (ct_X4_bit   _ _ _ _ h) rfl rfl (Nat.le_of_ble_eq_true rfl) (k_i (fun r6 τ5 h => ?_))
    refine J_if_ne cx (tgt := 83) dX3_stayAway_40 (by decide) (fun q7 => ?_) (fun q7 => ?_)
    · replace h := h.1 q7
      exact j_X3_stayAway_83 k hk K24 hK24 cx   _ _ _ h
    · replace h := h.2 q7
      refine J_aload_n cx 0 dX3_stayAway_43 rfl rfl ?_
      refine J_iload_n cx 2 dX3_stayAway_44 rfl rfl ?_
      refine J_cV cx dX3_stayAway_45 V_X3_64 (by decide) (tc_lt hk (by decide)) (kq_t0 hk) (ct_X3_houseToday k hk _ _ _ h) rfl rfl (Nat.le_of_ble_eq_true rfl) (k_i (fun r9 τ8 h => ?_))
      refine J_istore_n cx 3 dX3_stayAway_48 rfl (by decide) rfl rfl ?_
      refine J_aload_n cx 0 dX3_stayAway_49 rfl rfl ?_
      refine J_getR cx (j := (tc k 8)) dX3_stayAway_50 F_X3_33 (tc_lt hk (by decide)) (kq_t0 hk) rfl (rq_t hk) ?_
      refine J_iload_n cx 3 dX3_stayAway_53 rfl rfl ?_
      refine J_dup2 cx dX3_stayAway_54 rfl rfl ?_
      obtain ⟨s10, h⟩ := h
      refine J_iald cx dX3_stayAway_55 (tc_lt hk (by decide)) (kq_t hk (by decide)) s10 ?_
      refine J_aload_n cx 0 dX3_stayAway_56 rfl rfl ?_
      refine J_iload_n cx 2 dX3_stayAway_57 rfl rfl ?_
      refine J_cV cx dX3_stayAway_58 V_X3_91 (by decide) (tc_lt hk (by decide)) (kq_t0 hk) (ct_X3_makesToday k hk _ _ _ h) rfl rfl (Nat.le_of_ble_eq_true rfl) (k_i (fun r12 τ11 h => ?_))
      refine J_iadd cx dX3_stayAway_61 ?_
      obtain ⟨s13, h⟩ := h
      refine J_iast cx dX3_stayAway_62 (tc_lt hk (by decide)) (kq_t hk (by decide)) s13 ?_
      refine J_nm (fun τ14 e_τ14 => ?_)
      replace h := h τ14 e_τ14
      refine J_aload_n cx 0 dX3_stayAway_63 rfl rfl ?_
      refine J_getR cx (j := (tc k 7)) dX3_stayAway_64 F_X3_30 (tc_lt hk (by decide)) (kq_t0 hk) rfl (rq_t hk) ?_
      refine J_iload_n cx 2 dX3_stayAway_67 rfl rfl ?_
      refine J_iconst cx dX3_stayAway_68 (by decide : _ = ((nI 5) : Int32)) ?_
      refine J_imul cx dX3_stayAway_69 ?_
      refine J_iload_n cx 3 dX3_stayAway_70 rfl rfl ?_
      refine J_iadd cx dX3_stayAway_71 ?_
      refine J_dup2 cx dX3_stayAway_72 rfl rfl ?_
      obtain ⟨s15, h⟩ := h
      refine J_iald cx dX3_stayAway_73 (tc_lt hk (by decide)) (kq_t hk (by decide)) s15 ?_
      refine J_iconst cx dX3_stayAway_74 (by decide : _ = ((nI 1) : Int32)) ?_
      refine J_iadd cx dX3_stayAway_75 ?_
      obtain ⟨s16, h⟩ := h
      refine J_iast cx dX3_stayAway_76 (tc_lt hk (by decide)) (kq_t hk (by decide)) s16 ?_
      refine J_nm (fun τ17 e_τ17 => ?_)
      replace h := h τ17 e_τ17
      refine J_iload_n cx 1 dX3_stayAway_77 rfl rfl ?_
      refine J_iconst cx dX3_stayAway_78 (by decide : _ = ((nI 1) : Int32)) ?_
      refine J_iload_n cx 3 dX3_stayAway_79 rfl rfl ?_
      refine J_ishl cx dX3_stayAway_80 ?_
      refine J_ior cx dX3_stayAway_81 ?_
      refine J_topi (fun x18 e_x18 => ?_)
      replace h := h x18 e_x18
      refine J_istore_n cx 1 dX3_stayAway_82 rfl (by decide) rfl rfl ?_
      refine J_fg 3 rfl ?_
      exact j_X3_stayAway_83 k hk K24 hK24 cx   _ _ _ h
def B_X3_stayAway_2 (k : Nat) (K2 : (Int32 × PI → Prop)) (Q : Int32 → PI → Prop) (l1 : Int32) (σ : PI) : Prop := ((nI 5) ≤ l1 → w_X3_stayAway_24 k  Q (nI 0) (nI 0) σ) ∧ (¬ (nI 5) ≤ l1 → vp_in l1 5 ∧ (∀ τ3 : PI, τ3 = up σ (tc k 8) (l1 : Int32).toNatClampNeg (nI 0) → (K2 ((l1 + (nI 1)), τ3))))
def w_X3_stayAway_2 (k : Nat) (Q : Int32 → PI → Prop) (l1 : Int32) (σ : PI) : Prop := ∃ n, Lp (fun K a => B_X3_stayAway_2 k  K Q a.1 a.2) n (l1, σ)
set_option maxRecDepth 100000 in
set_option maxHeartbeats 4000000 in
theorem j_X3_stayAway_2 {M : MC} {X : XP} {Q : Int32 → PI → Prop} (k : Nat) (hk : k < 28) (cx : Cx M X RX3 cX3_stayAway 4 (some .int) 2) (l1 : Int32) (σ : PI) (h : w_X3_stayAway_2 k  Q l1 σ) : J M X (QF M X (qI Q)) σ 2 [some (.ref (X.1 (tc k 0))), some (.int l1), none, none] [] := by
  refine Lp_J (P := fun (a : Int32 × PI) => J M X (QF M X (qI Q)) (a.2) 2 [some (.ref (X.1 (tc k 0))), some (.int a.1), none, none] []) (fun K2 hK a h => ?_) h
  obtain ⟨l1, σ⟩ := a
  have hK2 : ∀ (l1 : Int32) (σ : PI), K2 (l1, σ) → J M X (QF M X (qI Q)) σ 2 [some (.ref (X.1 (tc k 0))), some (.int l1), none, none] [] := fun l1 σ q => hK _ q
  replace h : B_X3_stayAway_2 k  K2 Q l1 σ := h
  show J M X (QF M X (qI Q)) σ 2 [some (.ref (X.1 (tc k 0))), some (.int l1), none, none] []
  unfold B_X3_stayAway_2 at h
  refine J_iload_n cx 1 dX3_stayAway_2 rfl rfl ?_
  refine J_iconst cx dX3_stayAway_3 (by decide : _ = ((nI 5) : Int32)) ?_
  refine J_icmp_ge cx (tgt := 20) dX3_stayAway_4 (by decide) (fun q1 => ?_) (fun q1 => ?_)
  · replace h := h.1 q1
    refine J_iconst cx dX3_stayAway_20 (by decide : _ = ((nI 0) : Int32)) ?_
    refine J_istore_n cx 1 dX3_stayAway_21 rfl (by decide) rfl rfl ?_
    refine J_iconst cx dX3_stayAway_22 (by decide : _ = ((nI 0) : Int32)) ?_
    refine J_istore_n cx 2 dX3_stayAway_23 rfl (by decide) rfl rfl ?_
    exact j_X3_stayAway_24 k hk   cx   _ _ _ h
  · replace h := h.2 q1
    refine J_aload_n cx 0 dX3_stayAway_7 rfl rfl ?_
    refine J_getR cx (j := (tc k 8)) dX3_stayAway_8 F_X3_33 (tc_lt hk (by decide)) (kq_t0 hk) rfl (rq_t hk) ?_
    refine J_iload_n cx 1 dX3_stayAway_11 rfl rfl ?_
    refine J_iconst cx dX3_stayAway_12 (by decide : _ = ((nI 0) : Int32)) ?_
    obtain ⟨s2, h⟩ := h
    refine J_iast cx dX3_stayAway_13 (tc_lt hk (by decide)) (kq_t hk (by decide)) s2 ?_
    refine J_nm (fun τ3 e_τ3 => ?_)
    replace h := h τ3 e_τ3
    refine J_iinc cx dX3_stayAway_14 rfl (by decide : _ = ((nI 1) : Int32)) (by decide) rfl rfl ?_
    refine J_goto cx (tgt := 2) dX3_stayAway_17 (by decide) ?_
    exact hK2   _ _ h
def wp_X3_stayAway (k : Nat) (σ : PI) (Q : Int32 → PI → Prop) : Prop := w_X3_stayAway_2 k  Q (nI 0) σ
set_option maxRecDepth 100000 in
set_option maxHeartbeats 4000000 in
theorem ct_X3_stayAway {l : Launch} {X : XP} (k : Nat) (hk : k < 28) (σ : PI) (Q : Int32 → PI → Prop) (h : wp_X3_stayAway k  σ Q) : Ct l yX3_stayAway cX3_stayAway 4 (some .int) 2 X [.ref (X.1 (tc k 0))] σ (qI Q) := by
  refine Ct_of (L := [some (.ref (X.1 (tc k 0))), none, none, none]) (by decide) (Nat.le_of_ble_eq_true rfl) rfl (fun M hl cx => ?_)
  subst hl
  unfold wp_X3_stayAway at h
  refine J_iconst cx dX3_stayAway_0 (by decide : _ = ((nI 0) : Int32)) ?_
  refine J_istore_n cx 1 dX3_stayAway_1 rfl (by decide) rfl rfl ?_
  exact j_X3_stayAway_2 k hk   cx   _ _ h
def w_X3_passDay_115 (k : Nat) (K9 : (Int32 × Int32 × Int32 × PI → Prop)) (Q : Int32 → PI → Prop) (l1 : Int32) (l2 : Int32) (l3 : Int32) (σ : PI) : Prop := K9 (l1, l2, (l3 + (nI 1)), σ)
set_option maxRecDepth 100000 in
set_option maxHeartbeats 4000000 in
theorem j_X3_passDay_115 {M : MC} {X : XP} {Q : Int32 → PI → Prop} (k : Nat) (hk : k < 28) (K9 : (Int32 × Int32 × Int32 × PI → Prop)) (hK9 : ∀ (l1 : Int32) (l2 : Int32) (l3 : Int32) (σ : PI), K9 (l1, l2, l3, σ) → J M X (QF M X (qI Q)) σ 9 [some (.ref (X.1 (tc k 0))), some (.int l1), some (.int l2), some (.int l3)] []) (cx : Cx M X RX3 cX3_passDay 4 (some .int) 3) (l1 : Int32) (l2 : Int32) (l3 : Int32) (σ : PI) (h : w_X3_passDay_115 k K9 Q l1 l2 l3 σ) : J M X (QF M X (qI Q)) σ 115 [some (.ref (X.1 (tc k 0))), some (.int l1), some (.int l2), some (.int l3)] [] := by
  unfold w_X3_passDay_115 at h
  refine J_iinc cx dX3_passDay_115 rfl (by decide : _ = ((nI 1) : Int32)) (by decide) rfl rfl ?_
  refine J_goto cx (tgt := 9) dX3_passDay_118 (by decide) ?_
  exact hK9   _ _ _ _ h
def B_X3_passDay_9 (k : Nat) (K9 : (Int32 × Int32 × Int32 × PI → Prop)) (Q : Int32 → PI → Prop) (l1 : Int32) (l2 : Int32) (l3 : Int32) (σ : PI) : Prop := ((σ (tc k 0) 8) ≤ l3 → ∀ τ4 : PI, τ4 = up σ (tc k 0) 12 ((σ (tc k 0) 12) + (nI 1)) → (Q l2 τ4)) ∧ (¬ (σ (tc k 0) 8) ≤ l3 → wp_X4_bit l1 l3 σ (fun r6 τ5 => ((¬ r6 = (nI 0) → vp_in l3 5 ∧ (vp_in l3 5 ∧ (((τ5 (tc k 8) (l3 : Int32).toNatClampNeg) ≤ (τ5 (tc k 2) (l3 : Int32).toNatClampNeg) → vp_in l3 5 ∧ (vp_in l3 5 ∧ (∀ τ13 : PI, τ13 = up τ5 (tc k 1) (l3 : Int32).toNatClampNeg (if (nI 0) < ((τ5 (tc k 1) (l3 : Int32).toNatClampNeg) - (τ5 (tc k 0) 10)) then ((τ5 (tc k 1) (l3 : Int32).toNatClampNeg) - (τ5 (tc k 0) 10)) else (nI 0)) → (∀ x14 : Int32, x14 = (l2 ||| ((nI 1) <<< (l3 &&& 31))) → (w_X3_passDay_115 k K9 Q l1 x14 l3 τ13))))) ∧ (¬ (τ5 (tc k 8) (l3 : Int32).toNatClampNeg) ≤ (τ5 (tc k 2) (l3 : Int32).toNatClampNeg) → vp_in l3 5 ∧ (vp_in l3 5 ∧ (vp_in l3 5 ∧ (∀ τ18 : PI, τ18 = up τ5 (tc k 1) (l3 : Int32).toNatClampNeg (if ((τ5 (tc k 1) (l3 : Int32).toNatClampNeg) + (τ5 (tc k 8) (l3 : Int32).toNatClampNeg)) < (nI 99) then ((τ5 (tc k 1) (l3 : Int32).toNatClampNeg) + (τ5 (tc k 8) (l3 : Int32).toNatClampNeg)) else (nI 99)) → (w_X3_passDay_115 k K9 Q l1 l2 l3 τ18)))))))) ∧ (r6 = (nI 0) → vp_in l3 5 ∧ (vp_in l3 5 ∧ (∀ τ21 : PI, τ21 = up τ5 (tc k 1) (l3 : Int32).toNatClampNeg (if (nI 0) < ((τ5 (tc k 1) (l3 : Int32).toNatClampNeg) - (nI 1)) then ((τ5 (tc k 1) (l3 : Int32).toNatClampNeg) - (nI 1)) else (nI 0)) → (w_X3_passDay_115 k K9 Q l1 l2 l3 τ21)))))))
def w_X3_passDay_9 (k : Nat) (Q : Int32 → PI → Prop) (l1 : Int32) (l2 : Int32) (l3 : Int32) (σ : PI) : Prop := ∃ n, Lp (fun K a => B_X3_passDay_9 k  K Q a.1 a.2.1 a.2.2.1 a.2.2.2) n (l1, l2, l3, σ)
set_option maxRecDepth 100000 in
set_option maxHeartbeats 4000000 in
theorem j_X3_passDay_9 {M : MC} {X : XP} {Q : Int32 → PI → Prop} (k : Nat) (hk : k < 28) (cx : Cx M X RX3 cX3_passDay 4 (some .int) 3) (l1 : Int32) (l2 : Int32) (l3 : Int32) (σ : PI) (h : w_X3_passDay_9 k  Q l1 l2 l3 σ) : J M X (QF M X (qI Q)) σ 9 [some (.ref (X.1 (tc k 0))), some (.int l1), some (.int l2), some (.int l3)] [] := by
  refine Lp_J (P := fun (a : Int32 × Int32 × Int32 × PI) => J M X (QF M X (qI Q)) (a.2.2.2) 9 [some (.ref (X.1 (tc k 0))), some (.int a.1), some (.int a.2.1), some (.int a.2.2.1)] []) (fun K9 hK a h => ?_) h
  obtain ⟨l1, l2, l3, σ⟩ := a
  have hK9 : ∀ (l1 : Int32) (l2 : Int32) (l3 : Int32) (σ : PI), K9 (l1, l2, l3, σ) → J M X (QF M X (qI Q)) σ 9 [some (.ref (X.1 (tc k 0))), some (.int l1), some (.int l2), some (.int l3)] [] := fun l1 l2 l3 σ q => hK _ q
  replace h : B_X3_passDay_9 k  K9 Q l1 l2 l3 σ := h
  show J M X (QF M X (qI Q)) σ 9 [some (.ref (X.1 (tc k 0))), some (.int l1), some (.int l2), some (.int l3)] []
  unfold B_X3_passDay_9 at h
  refine J_iload_n cx 3 dX3_passDay_9 rfl rfl ?_
  refine J_aload_n cx 0 dX3_passDay_10 rfl rfl ?_
  refine J_getI cx dX3_passDay_11 F_X3_36 (tc_lt hk (by decide)) (kq_t0 hk) rfl ?_
  refine J_icmp_ge cx (tgt := 121) dX3_passDay_14 (by decide) (fun q3 => ?_) (fun q3 => ?_)
  · replace h := h.1 q3
    refine J_aload_n cx 0 dX3_passDay_121 rfl rfl ?_
    refine J_dup cx dX3_passDay_122 rfl ?_
    refine J_getI cx dX3_passDay_123 F_X3_43 (tc_lt hk (by decide)) (kq_t0 hk) rfl ?_
    refine J_iconst cx dX3_passDay_126 (by decide : _ = ((nI 1) : Int32)) ?_
    refine J_iadd cx dX3_passDay_127 ?_
    refine J_putI cx dX3_passDay_128 (P_X3_43 _) (tc_lt hk (by decide)) (kq_t0 hk) rfl ?_
    refine J_nm (fun τ4 e_τ4 => ?_)
    replace h := h τ4 e_τ4
    refine J_iload_n cx 2 dX3_passDay_131 rfl rfl ?_
    exact J_iret cx dX3_passDay_132 h
  · replace h := h.2 q3
    refine J_iload_n cx 1 dX3_passDay_17 rfl rfl ?_
    refine J_iload_n cx 3 dX3_passDay_18 rfl rfl ?_
    refine J_cN cx dX3_passDay_19 N_X3_84 (by decide) (ct_X4_bit   _ _ _ _ h) rfl rfl (Nat.le_of_ble_eq_true rfl) (k_i (fun r6 τ5 h => ?_))
    refine J_if_ne cx (tgt := 46) dX3_passDay_22 (by decide) (fun q7 => ?_) (fun q7 => ?_)
    · replace h := h.1 q7
      refine J_aload_n cx 0 dX3_passDay_46 rfl rfl ?_
      refine J_getR cx (j := (tc k 8)) dX3_passDay_47 F_X3_33 (tc_lt hk (by decide)) (kq_t0 hk) rfl (rq_t hk) ?_
      refine J_iload_n cx 3 dX3_passDay_50 rfl rfl ?_
      obtain ⟨s8, h⟩ := h
      refine J_iald cx dX3_passDay_51 (tc_lt hk (by decide)) (kq_t hk (by decide)) s8 ?_
      refine J_aload_n cx 0 dX3_passDay_52 rfl rfl ?_
      refine J_getR cx (j := (tc k 2)) dX3_passDay_53 F_X3_15 (tc_lt hk (by decide)) (kq_t0 hk) rfl (rq_t hk) ?_
      refine J_iload_n cx 3 dX3_passDay_56 rfl rfl ?_
      obtain ⟨s9, h⟩ := h
      refine J_iald cx dX3_passDay_57 (tc_lt hk (by decide)) (kq_t hk (by decide)) s9 ?_
      refine J_icmp_le cx (tgt := 88) dX3_passDay_58 (by decide) (fun q10 => ?_) (fun q10 => ?_)
      · replace h := h.1 q10
        refine J_aload_n cx 0 dX3_passDay_88 rfl rfl ?_
        refine J_getR cx (j := (tc k 1)) dX3_passDay_89 F_X3_9 (tc_lt hk (by decide)) (kq_t0 hk) rfl (rq_t hk) ?_
        refine J_iload_n cx 3 dX3_passDay_92 rfl rfl ?_
        refine J_iconst cx dX3_passDay_93 (by decide : _ = ((nI 0) : Int32)) ?_
        refine J_aload_n cx 0 dX3_passDay_94 rfl rfl ?_
        refine J_getR cx (j := (tc k 1)) dX3_passDay_95 F_X3_9 (tc_lt hk (by decide)) (kq_t0 hk) rfl (rq_t hk) ?_
        refine J_iload_n cx 3 dX3_passDay_98 rfl rfl ?_
        obtain ⟨s11, h⟩ := h
        refine J_iald cx dX3_passDay_99 (tc_lt hk (by decide)) (kq_t hk (by decide)) s11 ?_
        refine J_aload_n cx 0 dX3_passDay_100 rfl rfl ?_
        refine J_getI cx dX3_passDay_101 F_X3_52 (tc_lt hk (by decide)) (kq_t0 hk) rfl ?_
        refine J_isub cx dX3_passDay_104 ?_
        refine J_mmax cx dX3_passDay_105 (by decide) (Nat.le_of_ble_eq_true rfl) gw_383 mx_s mx_c ?_
        obtain ⟨s12, h⟩ := h
        refine J_iast cx dX3_passDay_108 (tc_lt hk (by decide)) (kq_t hk (by decide)) s12 ?_
        refine J_nm (fun τ13 e_τ13 => ?_)
        replace h := h τ13 e_τ13
        refine J_iload_n cx 2 dX3_passDay_109 rfl rfl ?_
        refine J_iconst cx dX3_passDay_110 (by decide : _ = ((nI 1) : Int32)) ?_
        refine J_iload_n cx 3 dX3_passDay_111 rfl rfl ?_
        refine J_ishl cx dX3_passDay_112 ?_
        refine J_ior cx dX3_passDay_113 ?_
        refine J_topi (fun x14 e_x14 => ?_)
        replace h := h x14 e_x14
        refine J_istore_n cx 2 dX3_passDay_114 rfl (by decide) rfl rfl ?_
        exact j_X3_passDay_115 k hk K9 hK9 cx   _ _ _ _ h
      · replace h := h.2 q10
        refine J_aload_n cx 0 dX3_passDay_61 rfl rfl ?_
        refine J_getR cx (j := (tc k 1)) dX3_passDay_62 F_X3_9 (tc_lt hk (by decide)) (kq_t0 hk) rfl (rq_t hk) ?_
        refine J_iload_n cx 3 dX3_passDay_65 rfl rfl ?_
        refine J_bipush cx dX3_passDay_66 (by decide : _ = ((nI 99) : Int32)) ?_
        refine J_aload_n cx 0 dX3_passDay_68 rfl rfl ?_
        refine J_getR cx (j := (tc k 1)) dX3_passDay_69 F_X3_9 (tc_lt hk (by decide)) (kq_t0 hk) rfl (rq_t hk) ?_
        refine J_iload_n cx 3 dX3_passDay_72 rfl rfl ?_
        obtain ⟨s15, h⟩ := h
        refine J_iald cx dX3_passDay_73 (tc_lt hk (by decide)) (kq_t hk (by decide)) s15 ?_
        refine J_aload_n cx 0 dX3_passDay_74 rfl rfl ?_
        refine J_getR cx (j := (tc k 8)) dX3_passDay_75 F_X3_33 (tc_lt hk (by decide)) (kq_t0 hk) rfl (rq_t hk) ?_
        refine J_iload_n cx 3 dX3_passDay_78 rfl rfl ?_
        obtain ⟨s16, h⟩ := h
        refine J_iald cx dX3_passDay_79 (tc_lt hk (by decide)) (kq_t hk (by decide)) s16 ?_
        refine J_iadd cx dX3_passDay_80 ?_
        refine J_mmin cx dX3_passDay_81 (by decide) (Nat.le_of_ble_eq_true rfl) gw_372 mn_s mn_c ?_
        obtain ⟨s17, h⟩ := h
        refine J_iast cx dX3_passDay_84 (tc_lt hk (by decide)) (kq_t hk (by decide)) s17 ?_
        refine J_nm (fun τ18 e_τ18 => ?_)
        replace h := h τ18 e_τ18
        refine J_goto cx (tgt := 115) dX3_passDay_85 (by decide) ?_
        exact j_X3_passDay_115 k hk K9 hK9 cx   _ _ _ _ h
    · replace h := h.2 q7
      refine J_aload_n cx 0 dX3_passDay_25 rfl rfl ?_
      refine J_getR cx (j := (tc k 1)) dX3_passDay_26 F_X3_9 (tc_lt hk (by decide)) (kq_t0 hk) rfl (rq_t hk) ?_
      refine J_iload_n cx 3 dX3_passDay_29 rfl rfl ?_
      refine J_iconst cx dX3_passDay_30 (by decide : _ = ((nI 0) : Int32)) ?_
      refine J_aload_n cx 0 dX3_passDay_31 rfl rfl ?_
      refine J_getR cx (j := (tc k 1)) dX3_passDay_32 F_X3_9 (tc_lt hk (by decide)) (kq_t0 hk) rfl (rq_t hk) ?_
      refine J_iload_n cx 3 dX3_passDay_35 rfl rfl ?_
      obtain ⟨s19, h⟩ := h
      refine J_iald cx dX3_passDay_36 (tc_lt hk (by decide)) (kq_t hk (by decide)) s19 ?_
      refine J_iconst cx dX3_passDay_37 (by decide : _ = ((nI 1) : Int32)) ?_
      refine J_isub cx dX3_passDay_38 ?_
      refine J_mmax cx dX3_passDay_39 (by decide) (Nat.le_of_ble_eq_true rfl) gw_383 mx_s mx_c ?_
      obtain ⟨s20, h⟩ := h
      refine J_iast cx dX3_passDay_42 (tc_lt hk (by decide)) (kq_t hk (by decide)) s20 ?_
      refine J_nm (fun τ21 e_τ21 => ?_)
      replace h := h τ21 e_τ21
      refine J_goto cx (tgt := 115) dX3_passDay_43 (by decide) ?_
      exact j_X3_passDay_115 k hk K9 hK9 cx   _ _ _ _ h
def wp_X3_passDay (k : Nat) (σ : PI) (Q : Int32 → PI → Prop) : Prop := wp_X3_stayAway k σ (fun r2 τ1 => (w_X3_passDay_9 k  Q r2 (nI 0) (nI 0) τ1))
set_option maxRecDepth 100000 in
set_option maxHeartbeats 4000000 in
theorem ct_X3_passDay {l : Launch} {X : XP} (k : Nat) (hk : k < 28) (σ : PI) (Q : Int32 → PI → Prop) (h : wp_X3_passDay k  σ Q) : Ct l yX3_passDay cX3_passDay 4 (some .int) 3 X [.ref (X.1 (tc k 0))] σ (qI Q) := by
  refine Ct_of (L := [some (.ref (X.1 (tc k 0))), none, none, none]) (by decide) (Nat.le_of_ble_eq_true rfl) rfl (fun M hl cx => ?_)
  subst hl
  unfold wp_X3_passDay at h
  refine J_aload_n cx 0 dX3_passDay_0 rfl rfl ?_
  refine J_cV cx dX3_passDay_1 V_X3_104 (by decide) (tc_lt hk (by decide)) (kq_t0 hk) (ct_X3_stayAway k hk  _ _ h) rfl rfl (Nat.le_of_ble_eq_true rfl) (k_i (fun r2 τ1 h => ?_))
  refine J_istore_n cx 1 dX3_passDay_4 rfl (by decide) rfl rfl ?_
  refine J_iconst cx dX3_passDay_5 (by decide : _ = ((nI 0) : Int32)) ?_
  refine J_istore_n cx 2 dX3_passDay_6 rfl (by decide) rfl rfl ?_
  refine J_iconst cx dX3_passDay_7 (by decide : _ = ((nI 0) : Int32)) ?_
  refine J_istore_n cx 3 dX3_passDay_8 rfl (by decide) rfl rfl ?_
  exact j_X3_passDay_9 k hk   cx   _ _ _ _ h
def B_X3_sendTo_9 (k : Nat) (K9 : (Int32 × Int32 × PI → Prop)) (Q : PI → Prop) (l1 : Int32) (l3 : Int32) (σ : PI) : Prop := ((nI 5) ≤ l3 → Q σ) ∧ (¬ (nI 5) ≤ l3 → vp_in ((l1 * (nI 5)) + l3) 30 ∧ (∀ τ5 : PI, τ5 = up σ (tc k 7) (((l1 * (nI 5)) + l3) : Int32).toNatClampNeg (nI 0) → (K9 (l1, (l3 + (nI 1)), τ5))))
def w_X3_sendTo_9 (k : Nat) (Q : PI → Prop) (l1 : Int32) (l3 : Int32) (σ : PI) : Prop := ∃ n, Lp (fun K a => B_X3_sendTo_9 k  K Q a.1 a.2.1 a.2.2) n (l1, l3, σ)
set_option maxRecDepth 100000 in
set_option maxHeartbeats 4000000 in
theorem j_X3_sendTo_9 {M : MC} {X : XP} {Q : PI → Prop} (k : Nat) (hk : k < 28) (cx : Cx M X RX3 cX3_sendTo 4 none 0) (l1 : Int32) (l3 : Int32) (σ : PI) (h : w_X3_sendTo_9 k  Q l1 l3 σ) : J M X (QF M X (qV Q)) σ 9 [some (.ref (X.1 (tc k 0))), some (.int l1), none, some (.int l3)] [] := by
  refine Lp_J (P := fun (a : Int32 × Int32 × PI) => J M X (QF M X (qV Q)) (a.2.2) 9 [some (.ref (X.1 (tc k 0))), some (.int a.1), none, some (.int a.2.1)] []) (fun K9 hK a h => ?_) h
  obtain ⟨l1, l3, σ⟩ := a
  have hK9 : ∀ (l1 : Int32) (l3 : Int32) (σ : PI), K9 (l1, l3, σ) → J M X (QF M X (qV Q)) σ 9 [some (.ref (X.1 (tc k 0))), some (.int l1), none, some (.int l3)] [] := fun l1 l3 σ q => hK _ q
  replace h : B_X3_sendTo_9 k  K9 Q l1 l3 σ := h
  show J M X (QF M X (qV Q)) σ 9 [some (.ref (X.1 (tc k 0))), some (.int l1), none, some (.int l3)] []
  unfold B_X3_sendTo_9 at h
  refine J_iload_n cx 3 dX3_sendTo_9 rfl rfl ?_
  refine J_iconst cx dX3_sendTo_10 (by decide : _ = ((nI 5) : Int32)) ?_
  refine J_icmp_ge cx (tgt := 31) dX3_sendTo_11 (by decide) (fun q3 => ?_) (fun q3 => ?_)
  · replace h := h.1 q3
    exact J_vret cx dX3_sendTo_31 h
  · replace h := h.2 q3
    refine J_aload_n cx 0 dX3_sendTo_14 rfl rfl ?_
    refine J_getR cx (j := (tc k 7)) dX3_sendTo_15 F_X3_30 (tc_lt hk (by decide)) (kq_t0 hk) rfl (rq_t hk) ?_
    refine J_iload_n cx 1 dX3_sendTo_18 rfl rfl ?_
    refine J_iconst cx dX3_sendTo_19 (by decide : _ = ((nI 5) : Int32)) ?_
    refine J_imul cx dX3_sendTo_20 ?_
    refine J_iload_n cx 3 dX3_sendTo_21 rfl rfl ?_
    refine J_iadd cx dX3_sendTo_22 ?_
    refine J_iconst cx dX3_sendTo_23 (by decide : _ = ((nI 0) : Int32)) ?_
    obtain ⟨s4, h⟩ := h
    refine J_iast cx dX3_sendTo_24 (tc_lt hk (by decide)) (kq_t hk (by decide)) s4 ?_
    refine J_nm (fun τ5 e_τ5 => ?_)
    replace h := h τ5 e_τ5
    refine J_iinc cx dX3_sendTo_25 rfl (by decide : _ = ((nI 1) : Int32)) (by decide) rfl rfl ?_
    refine J_goto cx (tgt := 9) dX3_sendTo_28 (by decide) ?_
    exact hK9   _ _ _ h
def wp_X3_sendTo (k : Nat) (a0 : Int32) (a1 : Int32) (σ : PI) (Q : PI → Prop) : Prop := vp_in a0 6 ∧ (∀ τ2 : PI, τ2 = up σ (tc k 4) (a0 : Int32).toNatClampNeg a1 → (w_X3_sendTo_9 k  Q a0 (nI 0) τ2))
set_option maxRecDepth 100000 in
set_option maxHeartbeats 4000000 in
theorem ct_X3_sendTo {l : Launch} {X : XP} (k : Nat) (hk : k < 28) (a0 : Int32) (a1 : Int32) (σ : PI) (Q : PI → Prop) (h : wp_X3_sendTo k a0 a1 σ Q) : Ct l yX3_sendTo cX3_sendTo 4 none 0 X [.ref (X.1 (tc k 0)), .int a0, .int a1] σ (qV Q) := by
  refine Ct_of (L := [some (.ref (X.1 (tc k 0))), some (.int a0), some (.int a1), none]) (by decide) (Nat.le_of_ble_eq_true rfl) rfl (fun M hl cx => ?_)
  subst hl
  unfold wp_X3_sendTo at h
  refine J_aload_n cx 0 dX3_sendTo_0 rfl rfl ?_
  refine J_getR cx (j := (tc k 4)) dX3_sendTo_1 F_X3_21 (tc_lt hk (by decide)) (kq_t0 hk) rfl (rq_t hk) ?_
  refine J_iload_n cx 1 dX3_sendTo_4 rfl rfl ?_
  refine J_iload_n cx 2 dX3_sendTo_5 rfl rfl ?_
  obtain ⟨s1, h⟩ := h
  refine J_iast cx dX3_sendTo_6 (tc_lt hk (by decide)) (kq_t hk (by decide)) s1 ?_
  refine J_nm (fun τ2 e_τ2 => ?_)
  replace h := h τ2 e_τ2
  refine J_iconst cx dX3_sendTo_7 (by decide : _ = ((nI 0) : Int32)) ?_
  refine J_istore_n cx 3 dX3_sendTo_8 rfl (by decide) rfl rfl ?_
  refine J_fg 2 rfl ?_
  exact j_X3_sendTo_9 k hk   cx   _ _ _ h
def wp_X3_isAway (k : Nat) (a0 : Int32) (a1 : Int32) (σ : PI) (Q : Int32 → PI → Prop) : Prop := wp_X4_bit (σ (tc k 0) 14) a0 σ (fun r2 τ1 => ((¬ r2 = (nI 0) → Q (nI 0) τ1) ∧ (r2 = (nI 0) → wp_X3_houseToday k a0 τ1 (fun r5 τ4 => ((¬ r5 = a1 → Q (nI 0) τ4) ∧ (r5 = a1 → Q (nI 1) τ4))))))
set_option maxRecDepth 100000 in
set_option maxHeartbeats 4000000 in
theorem ct_X3_isAway {l : Launch} {X : XP} (k : Nat) (hk : k < 28) (a0 : Int32) (a1 : Int32) (σ : PI) (Q : Int32 → PI → Prop) (h : wp_X3_isAway k a0 a1 σ Q) : Ct l yX3_isAway cX3_isAway 3 (some .boolean) 1 X [.ref (X.1 (tc k 0)), .int a0, .int a1] σ (qI Q) := by
  refine Ct_of (L := [some (.ref (X.1 (tc k 0))), some (.int a0), some (.int a1)]) (by decide) (Nat.le_of_ble_eq_true rfl) rfl (fun M hl cx => ?_)
  subst hl
  unfold wp_X3_isAway at h
  refine J_aload_n cx 0 dX3_isAway_0 rfl rfl ?_
  refine J_getI cx dX3_isAway_1 F_X3_49 (tc_lt hk (by decide)) (kq_t0 hk) rfl ?_
  refine J_iload_n cx 1 dX3_isAway_4 rfl rfl ?_
  refine J_cN cx dX3_isAway_5 N_X3_84 (by decide) (ct_X4_bit   _ _ _ _ h) rfl rfl (Nat.le_of_ble_eq_true rfl) (k_i (fun r2 τ1 h => ?_))
  refine J_if_ne cx (tgt := 24) dX3_isAway_8 (by decide) (fun q3 => ?_) (fun q3 => ?_)
  · replace h := h.1 q3
    refine J_iconst cx dX3_isAway_24 (by decide : _ = ((nI 0) : Int32)) ?_
    exact J_zret cx dX3_isAway_25 (Or.inl rfl) h
  · replace h := h.2 q3
    refine J_aload_n cx 0 dX3_isAway_11 rfl rfl ?_
    refine J_iload_n cx 1 dX3_isAway_12 rfl rfl ?_
    refine J_cV cx dX3_isAway_13 V_X3_64 (by decide) (tc_lt hk (by decide)) (kq_t0 hk) (ct_X3_houseToday k hk _ _ _ h) rfl rfl (Nat.le_of_ble_eq_true rfl) (k_i (fun r5 τ4 h => ?_))
    refine J_iload_n cx 2 dX3_isAway_16 rfl rfl ?_
    refine J_icmp_ne cx (tgt := 24) dX3_isAway_17 (by decide) (fun q6 => ?_) (fun q6 => ?_)
    · replace h := h.1 q6
      refine J_iconst cx dX3_isAway_24 (by decide : _ = ((nI 0) : Int32)) ?_
      exact J_zret cx dX3_isAway_25 (Or.inl rfl) h
    · replace h := h.2 q6
      refine J_iconst cx dX3_isAway_20 (by decide : _ = ((nI 1) : Int32)) ?_
      refine J_goto cx (tgt := 25) dX3_isAway_21 (by decide) ?_
      exact J_zret cx dX3_isAway_25 (Or.inr rfl) h
def w_X3_awayFrom_27 (k : Nat) (K4 : (Int32 × Int32 × Int32 × PI → Prop)) (Q : Int32 → PI → Prop) (l1 : Int32) (l2 : Int32) (l3 : Int32) (σ : PI) : Prop := K4 (l1, l2, (l3 + (nI 1)), σ)
set_option maxRecDepth 100000 in
set_option maxHeartbeats 4000000 in
theorem j_X3_awayFrom_27 {M : MC} {X : XP} {Q : Int32 → PI → Prop} (k : Nat) (hk : k < 28) (K4 : (Int32 × Int32 × Int32 × PI → Prop)) (hK4 : ∀ (l1 : Int32) (l2 : Int32) (l3 : Int32) (σ : PI), K4 (l1, l2, l3, σ) → J M X (QF M X (qI Q)) σ 4 [some (.ref (X.1 (tc k 0))), some (.int l1), some (.int l2), some (.int l3)] []) (cx : Cx M X RX3 cX3_awayFrom 4 (some .int) 2) (l1 : Int32) (l2 : Int32) (l3 : Int32) (σ : PI) (h : w_X3_awayFrom_27 k K4 Q l1 l2 l3 σ) : J M X (QF M X (qI Q)) σ 27 [some (.ref (X.1 (tc k 0))), some (.int l1), some (.int l2), some (.int l3)] [] := by
  unfold w_X3_awayFrom_27 at h
  refine J_iinc cx dX3_awayFrom_27 rfl (by decide : _ = ((nI 1) : Int32)) (by decide) rfl rfl ?_
  refine J_goto cx (tgt := 4) dX3_awayFrom_30 (by decide) ?_
  exact hK4   _ _ _ _ h
def B_X3_awayFrom_4 (k : Nat) (K4 : (Int32 × Int32 × Int32 × PI → Prop)) (Q : Int32 → PI → Prop) (l1 : Int32) (l2 : Int32) (l3 : Int32) (σ : PI) : Prop := ((σ (tc k 0) 9) ≤ l3 → Q l2 σ) ∧ (¬ (σ (tc k 0) 9) ≤ l3 → wp_X3_isAway k l3 l1 σ (fun r3 τ2 => ((r3 = (nI 0) → w_X3_awayFrom_27 k K4 Q l1 l2 l3 τ2) ∧ (¬ r3 = (nI 0) → ∀ x5 : Int32, x5 = (l2 ||| ((nI 1) <<< (l3 &&& 31))) → (w_X3_awayFrom_27 k K4 Q l1 x5 l3 τ2)))))
def w_X3_awayFrom_4 (k : Nat) (Q : Int32 → PI → Prop) (l1 : Int32) (l2 : Int32) (l3 : Int32) (σ : PI) : Prop := ∃ n, Lp (fun K a => B_X3_awayFrom_4 k  K Q a.1 a.2.1 a.2.2.1 a.2.2.2) n (l1, l2, l3, σ)
set_option maxRecDepth 100000 in
set_option maxHeartbeats 4000000 in
theorem j_X3_awayFrom_4 {M : MC} {X : XP} {Q : Int32 → PI → Prop} (k : Nat) (hk : k < 28) (cx : Cx M X RX3 cX3_awayFrom 4 (some .int) 2) (l1 : Int32) (l2 : Int32) (l3 : Int32) (σ : PI) (h : w_X3_awayFrom_4 k  Q l1 l2 l3 σ) : J M X (QF M X (qI Q)) σ 4 [some (.ref (X.1 (tc k 0))), some (.int l1), some (.int l2), some (.int l3)] [] := by
  refine Lp_J (P := fun (a : Int32 × Int32 × Int32 × PI) => J M X (QF M X (qI Q)) (a.2.2.2) 4 [some (.ref (X.1 (tc k 0))), some (.int a.1), some (.int a.2.1), some (.int a.2.2.1)] []) (fun K4 hK a h => ?_) h
  obtain ⟨l1, l2, l3, σ⟩ := a
  have hK4 : ∀ (l1 : Int32) (l2 : Int32) (l3 : Int32) (σ : PI), K4 (l1, l2, l3, σ) → J M X (QF M X (qI Q)) σ 4 [some (.ref (X.1 (tc k 0))), some (.int l1), some (.int l2), some (.int l3)] [] := fun l1 l2 l3 σ q => hK _ q
  replace h : B_X3_awayFrom_4 k  K4 Q l1 l2 l3 σ := h
  show J M X (QF M X (qI Q)) σ 4 [some (.ref (X.1 (tc k 0))), some (.int l1), some (.int l2), some (.int l3)] []
  unfold B_X3_awayFrom_4 at h
  refine J_iload_n cx 3 dX3_awayFrom_4 rfl rfl ?_
  refine J_aload_n cx 0 dX3_awayFrom_5 rfl rfl ?_
  refine J_getI cx dX3_awayFrom_6 F_X3_40 (tc_lt hk (by decide)) (kq_t0 hk) rfl ?_
  refine J_icmp_ge cx (tgt := 33) dX3_awayFrom_9 (by decide) (fun q1 => ?_) (fun q1 => ?_)
  · replace h := h.1 q1
    refine J_iload_n cx 2 dX3_awayFrom_33 rfl rfl ?_
    exact J_iret cx dX3_awayFrom_34 h
  · replace h := h.2 q1
    refine J_aload_n cx 0 dX3_awayFrom_12 rfl rfl ?_
    refine J_iload_n cx 3 dX3_awayFrom_13 rfl rfl ?_
    refine J_iload_n cx 1 dX3_awayFrom_14 rfl rfl ?_
    refine J_cV cx dX3_awayFrom_15 V_X3_87 (by decide) (tc_lt hk (by decide)) (kq_t0 hk) (ct_X3_isAway k hk _ _ _ _ h) rfl rfl (Nat.le_of_ble_eq_true rfl) (k_i (fun r3 τ2 h => ?_))
    refine J_if_eq cx (tgt := 27) dX3_awayFrom_18 (by decide) (fun q4 => ?_) (fun q4 => ?_)
    · replace h := h.1 q4
      exact j_X3_awayFrom_27 k hk K4 hK4 cx   _ _ _ _ h
    · replace h := h.2 q4
      refine J_iload_n cx 2 dX3_awayFrom_21 rfl rfl ?_
      refine J_iconst cx dX3_awayFrom_22 (by decide : _ = ((nI 1) : Int32)) ?_
      refine J_iload_n cx 3 dX3_awayFrom_23 rfl rfl ?_
      refine J_ishl cx dX3_awayFrom_24 ?_
      refine J_ior cx dX3_awayFrom_25 ?_
      refine J_topi (fun x5 e_x5 => ?_)
      replace h := h x5 e_x5
      refine J_istore_n cx 2 dX3_awayFrom_26 rfl (by decide) rfl rfl ?_
      exact j_X3_awayFrom_27 k hk K4 hK4 cx   _ _ _ _ h
def wp_X3_awayFrom (k : Nat) (a0 : Int32) (σ : PI) (Q : Int32 → PI → Prop) : Prop := w_X3_awayFrom_4 k  Q a0 (nI 0) (nI 0) σ
set_option maxRecDepth 100000 in
set_option maxHeartbeats 4000000 in
theorem ct_X3_awayFrom {l : Launch} {X : XP} (k : Nat) (hk : k < 28) (a0 : Int32) (σ : PI) (Q : Int32 → PI → Prop) (h : wp_X3_awayFrom k a0 σ Q) : Ct l yX3_awayFrom cX3_awayFrom 4 (some .int) 2 X [.ref (X.1 (tc k 0)), .int a0] σ (qI Q) := by
  refine Ct_of (L := [some (.ref (X.1 (tc k 0))), some (.int a0), none, none]) (by decide) (Nat.le_of_ble_eq_true rfl) rfl (fun M hl cx => ?_)
  subst hl
  unfold wp_X3_awayFrom at h
  refine J_iconst cx dX3_awayFrom_0 (by decide : _ = ((nI 0) : Int32)) ?_
  refine J_istore_n cx 2 dX3_awayFrom_1 rfl (by decide) rfl rfl ?_
  refine J_iconst cx dX3_awayFrom_2 (by decide : _ = ((nI 0) : Int32)) ?_
  refine J_istore_n cx 3 dX3_awayFrom_3 rfl (by decide) rfl rfl ?_
  exact j_X3_awayFrom_4 k hk   cx   _ _ _ _ h
def w_X3_madeAt_29 (k : Nat) (K4 : (Int32 × Int32 × Int32 × PI → Prop)) (Q : Int32 → PI → Prop) (l1 : Int32) (l2 : Int32) (l3 : Int32) (σ : PI) : Prop := K4 (l1, l2, (l3 + (nI 1)), σ)
set_option maxRecDepth 100000 in
set_option maxHeartbeats 4000000 in
theorem j_X3_madeAt_29 {M : MC} {X : XP} {Q : Int32 → PI → Prop} (k : Nat) (hk : k < 28) (K4 : (Int32 × Int32 × Int32 × PI → Prop)) (hK4 : ∀ (l1 : Int32) (l2 : Int32) (l3 : Int32) (σ : PI), K4 (l1, l2, l3, σ) → J M X (QF M X (qI Q)) σ 4 [some (.ref (X.1 (tc k 0))), some (.int l1), some (.int l2), some (.int l3)] []) (cx : Cx M X RX3 cX3_madeAt 4 (some .int) 2) (l1 : Int32) (l2 : Int32) (l3 : Int32) (σ : PI) (h : w_X3_madeAt_29 k K4 Q l1 l2 l3 σ) : J M X (QF M X (qI Q)) σ 29 [some (.ref (X.1 (tc k 0))), some (.int l1), some (.int l2), some (.int l3)] [] := by
  unfold w_X3_madeAt_29 at h
  refine J_iinc cx dX3_madeAt_29 rfl (by decide : _ = ((nI 1) : Int32)) (by decide) rfl rfl ?_
  refine J_goto cx (tgt := 4) dX3_madeAt_32 (by decide) ?_
  exact hK4   _ _ _ _ h
def B_X3_madeAt_4 (k : Nat) (K4 : (Int32 × Int32 × Int32 × PI → Prop)) (Q : Int32 → PI → Prop) (l1 : Int32) (l2 : Int32) (l3 : Int32) (σ : PI) : Prop := ((σ (tc k 0) 9) ≤ l3 → Q l2 σ) ∧ (¬ (σ (tc k 0) 9) ≤ l3 → wp_X3_isAway k l3 l1 σ (fun r3 τ2 => ((r3 = (nI 0) → w_X3_madeAt_29 k K4 Q l1 l2 l3 τ2) ∧ (¬ r3 = (nI 0) → wp_X3_makesToday k l3 τ2 (fun r6 τ5 => (∀ x7 : Int32, x7 = (l2 + r6) → (w_X3_madeAt_29 k K4 Q l1 x7 l3 τ5)))))))
def w_X3_madeAt_4 (k : Nat) (Q : Int32 → PI → Prop) (l1 : Int32) (l2 : Int32) (l3 : Int32) (σ : PI) : Prop := ∃ n, Lp (fun K a => B_X3_madeAt_4 k  K Q a.1 a.2.1 a.2.2.1 a.2.2.2) n (l1, l2, l3, σ)
set_option maxRecDepth 100000 in
set_option maxHeartbeats 4000000 in
theorem j_X3_madeAt_4 {M : MC} {X : XP} {Q : Int32 → PI → Prop} (k : Nat) (hk : k < 28) (cx : Cx M X RX3 cX3_madeAt 4 (some .int) 2) (l1 : Int32) (l2 : Int32) (l3 : Int32) (σ : PI) (h : w_X3_madeAt_4 k  Q l1 l2 l3 σ) : J M X (QF M X (qI Q)) σ 4 [some (.ref (X.1 (tc k 0))), some (.int l1), some (.int l2), some (.int l3)] [] := by
  refine Lp_J (P := fun (a : Int32 × Int32 × Int32 × PI) => J M X (QF M X (qI Q)) (a.2.2.2) 4 [some (.ref (X.1 (tc k 0))), some (.int a.1), some (.int a.2.1), some (.int a.2.2.1)] []) (fun K4 hK a h => ?_) h
  obtain ⟨l1, l2, l3, σ⟩ := a
  have hK4 : ∀ (l1 : Int32) (l2 : Int32) (l3 : Int32) (σ : PI), K4 (l1, l2, l3, σ) → J M X (QF M X (qI Q)) σ 4 [some (.ref (X.1 (tc k 0))), some (.int l1), some (.int l2), some (.int l3)] [] := fun l1 l2 l3 σ q => hK _ q
  replace h : B_X3_madeAt_4 k  K4 Q l1 l2 l3 σ := h
  show J M X (QF M X (qI Q)) σ 4 [some (.ref (X.1 (tc k 0))), some (.int l1), some (.int l2), some (.int l3)] []
  unfold B_X3_madeAt_4 at h
  refine J_iload_n cx 3 dX3_madeAt_4 rfl rfl ?_
  refine J_aload_n cx 0 dX3_madeAt_5 rfl rfl ?_
  refine J_getI cx dX3_madeAt_6 F_X3_40 (tc_lt hk (by decide)) (kq_t0 hk) rfl ?_
  refine J_icmp_ge cx (tgt := 35) dX3_madeAt_9 (by decide) (fun q1 => ?_) (fun q1 => ?_)
  · replace h := h.1 q1
    refine J_iload_n cx 2 dX3_madeAt_35 rfl rfl ?_
    exact J_iret cx dX3_madeAt_36 h
  · replace h := h.2 q1
    refine J_aload_n cx 0 dX3_madeAt_12 rfl rfl ?_
    refine J_iload_n cx 3 dX3_madeAt_13 rfl rfl ?_
    refine J_iload_n cx 1 dX3_madeAt_14 rfl rfl ?_
    refine J_cV cx dX3_madeAt_15 V_X3_87 (by decide) (tc_lt hk (by decide)) (kq_t0 hk) (ct_X3_isAway k hk _ _ _ _ h) rfl rfl (Nat.le_of_ble_eq_true rfl) (k_i (fun r3 τ2 h => ?_))
    refine J_if_eq cx (tgt := 29) dX3_madeAt_18 (by decide) (fun q4 => ?_) (fun q4 => ?_)
    · replace h := h.1 q4
      exact j_X3_madeAt_29 k hk K4 hK4 cx   _ _ _ _ h
    · replace h := h.2 q4
      refine J_iload_n cx 2 dX3_madeAt_21 rfl rfl ?_
      refine J_aload_n cx 0 dX3_madeAt_22 rfl rfl ?_
      refine J_iload_n cx 3 dX3_madeAt_23 rfl rfl ?_
      refine J_cV cx dX3_madeAt_24 V_X3_91 (by decide) (tc_lt hk (by decide)) (kq_t0 hk) (ct_X3_makesToday k hk _ _ _ h) rfl rfl (Nat.le_of_ble_eq_true rfl) (k_i (fun r6 τ5 h => ?_))
      refine J_iadd cx dX3_madeAt_27 ?_
      refine J_topi (fun x7 e_x7 => ?_)
      replace h := h x7 e_x7
      refine J_istore_n cx 2 dX3_madeAt_28 rfl (by decide) rfl rfl ?_
      exact j_X3_madeAt_29 k hk K4 hK4 cx   _ _ _ _ h
def wp_X3_madeAt (k : Nat) (a0 : Int32) (σ : PI) (Q : Int32 → PI → Prop) : Prop := w_X3_madeAt_4 k  Q a0 (nI 0) (nI 0) σ
set_option maxRecDepth 100000 in
set_option maxHeartbeats 4000000 in
theorem ct_X3_madeAt {l : Launch} {X : XP} (k : Nat) (hk : k < 28) (a0 : Int32) (σ : PI) (Q : Int32 → PI → Prop) (h : wp_X3_madeAt k a0 σ Q) : Ct l yX3_madeAt cX3_madeAt 4 (some .int) 2 X [.ref (X.1 (tc k 0)), .int a0] σ (qI Q) := by
  refine Ct_of (L := [some (.ref (X.1 (tc k 0))), some (.int a0), none, none]) (by decide) (Nat.le_of_ble_eq_true rfl) rfl (fun M hl cx => ?_)
  subst hl
  unfold wp_X3_madeAt at h
  refine J_iconst cx dX3_madeAt_0 (by decide : _ = ((nI 0) : Int32)) ?_
  refine J_istore_n cx 2 dX3_madeAt_1 rfl (by decide) rfl rfl ?_
  refine J_iconst cx dX3_madeAt_2 (by decide : _ = ((nI 0) : Int32)) ?_
  refine J_istore_n cx 3 dX3_madeAt_3 rfl (by decide) rfl rfl ?_
  exact j_X3_madeAt_4 k hk   cx   _ _ _ _ h
def B_X3_passDays_2 (k : Nat) (K2 : (Int32 × Int32 × PI → Prop)) (Q : PI → Prop) (l1 : Int32) (l2 : Int32) (σ : PI) : Prop := (l1 ≤ l2 → Q σ) ∧ (¬ l1 ≤ l2 → wp_X3_passDay k σ (fun r3 τ2 => (K2 (l1, (l2 + (nI 1)), τ2))))
def w_X3_passDays_2 (k : Nat) (Q : PI → Prop) (l1 : Int32) (l2 : Int32) (σ : PI) : Prop := ∃ n, Lp (fun K a => B_X3_passDays_2 k  K Q a.1 a.2.1 a.2.2) n (l1, l2, σ)
set_option maxRecDepth 100000 in
set_option maxHeartbeats 4000000 in
theorem j_X3_passDays_2 {M : MC} {X : XP} {Q : PI → Prop} (k : Nat) (hk : k < 28) (cx : Cx M X RX3 cX3_passDays 3 none 4) (l1 : Int32) (l2 : Int32) (σ : PI) (h : w_X3_passDays_2 k  Q l1 l2 σ) : J M X (QF M X (qV Q)) σ 2 [some (.ref (X.1 (tc k 0))), some (.int l1), some (.int l2)] [] := by
  refine Lp_J (P := fun (a : Int32 × Int32 × PI) => J M X (QF M X (qV Q)) (a.2.2) 2 [some (.ref (X.1 (tc k 0))), some (.int a.1), some (.int a.2.1)] []) (fun K2 hK a h => ?_) h
  obtain ⟨l1, l2, σ⟩ := a
  have hK2 : ∀ (l1 : Int32) (l2 : Int32) (σ : PI), K2 (l1, l2, σ) → J M X (QF M X (qV Q)) σ 2 [some (.ref (X.1 (tc k 0))), some (.int l1), some (.int l2)] [] := fun l1 l2 σ q => hK _ q
  replace h : B_X3_passDays_2 k  K2 Q l1 l2 σ := h
  show J M X (QF M X (qV Q)) σ 2 [some (.ref (X.1 (tc k 0))), some (.int l1), some (.int l2)] []
  unfold B_X3_passDays_2 at h
  refine J_iload_n cx 2 dX3_passDays_2 rfl rfl ?_
  refine J_iload_n cx 1 dX3_passDays_3 rfl rfl ?_
  refine J_icmp_ge cx (tgt := 18) dX3_passDays_4 (by decide) (fun q1 => ?_) (fun q1 => ?_)
  · replace h := h.1 q1
    exact J_vret cx dX3_passDays_18 h
  · replace h := h.2 q1
    refine J_aload_n cx 0 dX3_passDays_7 rfl rfl ?_
    refine J_cV cx dX3_passDays_8 V_X3_100 (by decide) (tc_lt hk (by decide)) (kq_t0 hk) (ct_X3_passDay k hk  _ _ h) rfl rfl (Nat.le_of_ble_eq_true rfl) (k_i (fun r3 τ2 h => ?_))
    refine J_pop cx dX3_passDays_11 rfl ?_
    refine J_iinc cx dX3_passDays_12 rfl (by decide : _ = ((nI 1) : Int32)) (by decide) rfl rfl ?_
    refine J_goto cx (tgt := 2) dX3_passDays_15 (by decide) ?_
    exact hK2   _ _ _ h
def wp_X3_passDays (k : Nat) (a0 : Int32) (σ : PI) (Q : PI → Prop) : Prop := w_X3_passDays_2 k  Q a0 (nI 0) σ
set_option maxRecDepth 100000 in
set_option maxHeartbeats 4000000 in
theorem ct_X3_passDays {l : Launch} {X : XP} (k : Nat) (hk : k < 28) (a0 : Int32) (σ : PI) (Q : PI → Prop) (h : wp_X3_passDays k a0 σ Q) : Ct l yX3_passDays cX3_passDays 3 none 4 X [.ref (X.1 (tc k 0)), .int a0] σ (qV Q) := by
  refine Ct_of (L := [some (.ref (X.1 (tc k 0))), some (.int a0), none]) (by decide) (Nat.le_of_ble_eq_true rfl) rfl (fun M hl cx => ?_)
  subst hl
  unfold wp_X3_passDays at h
  refine J_iconst cx dX3_passDays_0 (by decide : _ = ((nI 0) : Int32)) ?_
  refine J_istore_n cx 2 dX3_passDays_1 rfl (by decide) rfl rfl ?_
  exact j_X3_passDays_2 k hk   cx   _ _ _ h
def wp_J6_bitCount_0f7a4 (a0 : Int32) (σ : PI) (Q : Int32 → PI → Prop) : Prop := ∀ x1 : Int32, x1 = (a0 - (((a0 : Int32).toUInt32 >>> (((nI 1) : Int32).toUInt32 &&& Int32.toUInt32 31)).toInt32 &&& (nI 1431655765))) → (∀ x2 : Int32, x2 = ((x1 &&& (nI 858993459)) + (((x1 : Int32).toUInt32 >>> (((nI 2) : Int32).toUInt32 &&& Int32.toUInt32 31)).toInt32 &&& (nI 858993459))) → (∀ x3 : Int32, x3 = ((x2 + ((x2 : Int32).toUInt32 >>> (((nI 4) : Int32).toUInt32 &&& Int32.toUInt32 31)).toInt32) &&& (nI 252645135)) → (∀ x4 : Int32, x4 = (x3 + ((x3 : Int32).toUInt32 >>> (((nI 8) : Int32).toUInt32 &&& Int32.toUInt32 31)).toInt32) → (∀ x5 : Int32, x5 = (x4 + ((x4 : Int32).toUInt32 >>> (((nI 16) : Int32).toUInt32 &&& Int32.toUInt32 31)).toInt32) → (Q (x5 &&& (nI 63)) σ)))))
set_option maxRecDepth 100000 in
set_option maxHeartbeats 4000000 in
theorem ct_J6_bitCount_0f7a4 {l : Launch} {X : XP} (a0 : Int32) (σ : PI) (Q : Int32 → PI → Prop) (h : wp_J6_bitCount_0f7a4  a0 σ Q) : Ct l yJ6_bitCount_0f7a4 cJ6_bitCount_0f7a4 1 (some .int) 0 X [.int a0] σ (qI Q) := by
  refine Ct_of (L := [some (.int a0)]) (by decide) (Nat.le_of_ble_eq_true rfl) rfl (fun M hl cx => ?_)
  subst hl
  unfold wp_J6_bitCount_0f7a4 at h
  refine J_iload_n cx 0 dJ6_bitCount_0f7a4_0 rfl rfl ?_
  refine J_iload_n cx 0 dJ6_bitCount_0f7a4_1 rfl rfl ?_
  refine J_iconst cx dJ6_bitCount_0f7a4_2 (by decide : _ = ((nI 1) : Int32)) ?_
  refine J_iushr cx dJ6_bitCount_0f7a4_3 ?_
  refine J_ldc_w cx (v := (nI 1431655765)) dJ6_bitCount_0f7a4_4 gw_478 ?_
  refine J_iand cx dJ6_bitCount_0f7a4_7 ?_
  refine J_isub cx dJ6_bitCount_0f7a4_8 ?_
  refine J_topi (fun x1 e_x1 => ?_)
  replace h := h x1 e_x1
  refine J_istore_n cx 0 dJ6_bitCount_0f7a4_9 rfl (by decide) rfl rfl ?_
  refine J_iload_n cx 0 dJ6_bitCount_0f7a4_10 rfl rfl ?_
  refine J_ldc_w cx (v := (nI 858993459)) dJ6_bitCount_0f7a4_11 gw_479 ?_
  refine J_iand cx dJ6_bitCount_0f7a4_14 ?_
  refine J_iload_n cx 0 dJ6_bitCount_0f7a4_15 rfl rfl ?_
  refine J_iconst cx dJ6_bitCount_0f7a4_16 (by decide : _ = ((nI 2) : Int32)) ?_
  refine J_iushr cx dJ6_bitCount_0f7a4_17 ?_
  refine J_ldc_w cx (v := (nI 858993459)) dJ6_bitCount_0f7a4_18 gw_479 ?_
  refine J_iand cx dJ6_bitCount_0f7a4_21 ?_
  refine J_iadd cx dJ6_bitCount_0f7a4_22 ?_
  refine J_topi (fun x2 e_x2 => ?_)
  replace h := h x2 e_x2
  refine J_istore_n cx 0 dJ6_bitCount_0f7a4_23 rfl (by decide) rfl rfl ?_
  refine J_iload_n cx 0 dJ6_bitCount_0f7a4_24 rfl rfl ?_
  refine J_iload_n cx 0 dJ6_bitCount_0f7a4_25 rfl rfl ?_
  refine J_iconst cx dJ6_bitCount_0f7a4_26 (by decide : _ = ((nI 4) : Int32)) ?_
  refine J_iushr cx dJ6_bitCount_0f7a4_27 ?_
  refine J_iadd cx dJ6_bitCount_0f7a4_28 ?_
  refine J_ldc_w cx (v := (nI 252645135)) dJ6_bitCount_0f7a4_29 gw_480 ?_
  refine J_iand cx dJ6_bitCount_0f7a4_32 ?_
  refine J_topi (fun x3 e_x3 => ?_)
  replace h := h x3 e_x3
  refine J_istore_n cx 0 dJ6_bitCount_0f7a4_33 rfl (by decide) rfl rfl ?_
  refine J_iload_n cx 0 dJ6_bitCount_0f7a4_34 rfl rfl ?_
  refine J_iload_n cx 0 dJ6_bitCount_0f7a4_35 rfl rfl ?_
  refine J_bipush cx dJ6_bitCount_0f7a4_36 (by decide : _ = ((nI 8) : Int32)) ?_
  refine J_iushr cx dJ6_bitCount_0f7a4_38 ?_
  refine J_iadd cx dJ6_bitCount_0f7a4_39 ?_
  refine J_topi (fun x4 e_x4 => ?_)
  replace h := h x4 e_x4
  refine J_istore_n cx 0 dJ6_bitCount_0f7a4_40 rfl (by decide) rfl rfl ?_
  refine J_iload_n cx 0 dJ6_bitCount_0f7a4_41 rfl rfl ?_
  refine J_iload_n cx 0 dJ6_bitCount_0f7a4_42 rfl rfl ?_
  refine J_bipush cx dJ6_bitCount_0f7a4_43 (by decide : _ = ((nI 16) : Int32)) ?_
  refine J_iushr cx dJ6_bitCount_0f7a4_45 ?_
  refine J_iadd cx dJ6_bitCount_0f7a4_46 ?_
  refine J_topi (fun x5 e_x5 => ?_)
  replace h := h x5 e_x5
  refine J_istore_n cx 0 dJ6_bitCount_0f7a4_47 rfl (by decide) rfl rfl ?_
  refine J_iload_n cx 0 dJ6_bitCount_0f7a4_48 rfl rfl ?_
  refine J_bipush cx dJ6_bitCount_0f7a4_49 (by decide : _ = ((nI 63) : Int32)) ?_
  refine J_iand cx dJ6_bitCount_0f7a4_51 ?_
  exact J_iret cx dJ6_bitCount_0f7a4_52 h
def w_X3_ofKind_28 (k : Nat) (K4 : (Int32 × Int32 × Int32 × PI → Prop)) (Q : Int32 → PI → Prop) (l1 : Int32) (l2 : Int32) (l3 : Int32) (σ : PI) : Prop := K4 (l1, l2, (l3 + (nI 1)), σ)
set_option maxRecDepth 100000 in
set_option maxHeartbeats 4000000 in
theorem j_X3_ofKind_28 {M : MC} {X : XP} {Q : Int32 → PI → Prop} (k : Nat) (hk : k < 28) (K4 : (Int32 × Int32 × Int32 × PI → Prop)) (hK4 : ∀ (l1 : Int32) (l2 : Int32) (l3 : Int32) (σ : PI), K4 (l1, l2, l3, σ) → J M X (QF M X (qI Q)) σ 4 [some (.ref (X.1 (tc k 0))), some (.int l1), some (.int l2), some (.int l3)] []) (cx : Cx M X RX3 cX3_ofKind 4 (some .int) 0) (l1 : Int32) (l2 : Int32) (l3 : Int32) (σ : PI) (h : w_X3_ofKind_28 k K4 Q l1 l2 l3 σ) : J M X (QF M X (qI Q)) σ 28 [some (.ref (X.1 (tc k 0))), some (.int l1), some (.int l2), some (.int l3)] [] := by
  unfold w_X3_ofKind_28 at h
  refine J_iinc cx dX3_ofKind_28 rfl (by decide : _ = ((nI 1) : Int32)) (by decide) rfl rfl ?_
  refine J_goto cx (tgt := 4) dX3_ofKind_31 (by decide) ?_
  exact hK4   _ _ _ _ h
def B_X3_ofKind_4 (k : Nat) (K4 : (Int32 × Int32 × Int32 × PI → Prop)) (Q : Int32 → PI → Prop) (l1 : Int32) (l2 : Int32) (l3 : Int32) (σ : PI) : Prop := ((σ (tc k 0) 9) ≤ l3 → Q l2 σ) ∧ (¬ (σ (tc k 0) 9) ≤ l3 → vp_in l3 6 ∧ ((¬ (σ (tc k 3) (l3 : Int32).toNatClampNeg) = l1 → w_X3_ofKind_28 k K4 Q l1 l2 l3 σ) ∧ ((σ (tc k 3) (l3 : Int32).toNatClampNeg) = l1 → ∀ x4 : Int32, x4 = (l2 ||| ((nI 1) <<< (l3 &&& 31))) → (w_X3_ofKind_28 k K4 Q l1 x4 l3 σ))))
def w_X3_ofKind_4 (k : Nat) (Q : Int32 → PI → Prop) (l1 : Int32) (l2 : Int32) (l3 : Int32) (σ : PI) : Prop := ∃ n, Lp (fun K a => B_X3_ofKind_4 k  K Q a.1 a.2.1 a.2.2.1 a.2.2.2) n (l1, l2, l3, σ)
set_option maxRecDepth 100000 in
set_option maxHeartbeats 4000000 in
theorem j_X3_ofKind_4 {M : MC} {X : XP} {Q : Int32 → PI → Prop} (k : Nat) (hk : k < 28) (cx : Cx M X RX3 cX3_ofKind 4 (some .int) 0) (l1 : Int32) (l2 : Int32) (l3 : Int32) (σ : PI) (h : w_X3_ofKind_4 k  Q l1 l2 l3 σ) : J M X (QF M X (qI Q)) σ 4 [some (.ref (X.1 (tc k 0))), some (.int l1), some (.int l2), some (.int l3)] [] := by
  refine Lp_J (P := fun (a : Int32 × Int32 × Int32 × PI) => J M X (QF M X (qI Q)) (a.2.2.2) 4 [some (.ref (X.1 (tc k 0))), some (.int a.1), some (.int a.2.1), some (.int a.2.2.1)] []) (fun K4 hK a h => ?_) h
  obtain ⟨l1, l2, l3, σ⟩ := a
  have hK4 : ∀ (l1 : Int32) (l2 : Int32) (l3 : Int32) (σ : PI), K4 (l1, l2, l3, σ) → J M X (QF M X (qI Q)) σ 4 [some (.ref (X.1 (tc k 0))), some (.int l1), some (.int l2), some (.int l3)] [] := fun l1 l2 l3 σ q => hK _ q
  replace h : B_X3_ofKind_4 k  K4 Q l1 l2 l3 σ := h
  show J M X (QF M X (qI Q)) σ 4 [some (.ref (X.1 (tc k 0))), some (.int l1), some (.int l2), some (.int l3)] []
  unfold B_X3_ofKind_4 at h
  refine J_iload_n cx 3 dX3_ofKind_4 rfl rfl ?_
  refine J_aload_n cx 0 dX3_ofKind_5 rfl rfl ?_
  refine J_getI cx dX3_ofKind_6 F_X3_40 (tc_lt hk (by decide)) (kq_t0 hk) rfl ?_
  refine J_icmp_ge cx (tgt := 34) dX3_ofKind_9 (by decide) (fun q1 => ?_) (fun q1 => ?_)
  · replace h := h.1 q1
    refine J_iload_n cx 2 dX3_ofKind_34 rfl rfl ?_
    exact J_iret cx dX3_ofKind_35 h
  · replace h := h.2 q1
    refine J_aload_n cx 0 dX3_ofKind_12 rfl rfl ?_
    refine J_getR cx (j := (tc k 3)) dX3_ofKind_13 F_X3_18 (tc_lt hk (by decide)) (kq_t0 hk) rfl (rq_t hk) ?_
    refine J_iload_n cx 3 dX3_ofKind_16 rfl rfl ?_
    obtain ⟨s2, h⟩ := h
    refine J_iald cx dX3_ofKind_17 (tc_lt hk (by decide)) (kq_t hk (by decide)) s2 ?_
    refine J_iload_n cx 1 dX3_ofKind_18 rfl rfl ?_
    refine J_icmp_ne cx (tgt := 28) dX3_ofKind_19 (by decide) (fun q3 => ?_) (fun q3 => ?_)
    · replace h := h.1 q3
      exact j_X3_ofKind_28 k hk K4 hK4 cx   _ _ _ _ h
    · replace h := h.2 q3
      refine J_iload_n cx 2 dX3_ofKind_22 rfl rfl ?_
      refine J_iconst cx dX3_ofKind_23 (by decide : _ = ((nI 1) : Int32)) ?_
      refine J_iload_n cx 3 dX3_ofKind_24 rfl rfl ?_
      refine J_ishl cx dX3_ofKind_25 ?_
      refine J_ior cx dX3_ofKind_26 ?_
      refine J_topi (fun x4 e_x4 => ?_)
      replace h := h x4 e_x4
      refine J_istore_n cx 2 dX3_ofKind_27 rfl (by decide) rfl rfl ?_
      exact j_X3_ofKind_28 k hk K4 hK4 cx   _ _ _ _ h
def wp_X3_ofKind (k : Nat) (a0 : Int32) (σ : PI) (Q : Int32 → PI → Prop) : Prop := w_X3_ofKind_4 k  Q a0 (nI 0) (nI 0) σ
set_option maxRecDepth 100000 in
set_option maxHeartbeats 4000000 in
theorem ct_X3_ofKind {l : Launch} {X : XP} (k : Nat) (hk : k < 28) (a0 : Int32) (σ : PI) (Q : Int32 → PI → Prop) (h : wp_X3_ofKind k a0 σ Q) : Ct l yX3_ofKind cX3_ofKind 4 (some .int) 0 X [.ref (X.1 (tc k 0)), .int a0] σ (qI Q) := by
  refine Ct_of (L := [some (.ref (X.1 (tc k 0))), some (.int a0), none, none]) (by decide) (Nat.le_of_ble_eq_true rfl) rfl (fun M hl cx => ?_)
  subst hl
  unfold wp_X3_ofKind at h
  refine J_iconst cx dX3_ofKind_0 (by decide : _ = ((nI 0) : Int32)) ?_
  refine J_istore_n cx 2 dX3_ofKind_1 rfl (by decide) rfl rfl ?_
  refine J_iconst cx dX3_ofKind_2 (by decide : _ = ((nI 0) : Int32)) ?_
  refine J_istore_n cx 3 dX3_ofKind_3 rfl (by decide) rfl rfl ?_
  exact j_X3_ofKind_4 k hk   cx   _ _ _ _ h
def wp_X3_sendByDraw (k : Nat) (a0 : Int64) (σ : PI) (Q : PI → Prop) : Prop := (¬ (lg_cmp (a0 - a0 / (lN 4) * (lN 4)) (lN 0)) = (nI 0) → Q σ) ∧ ((lg_cmp (a0 - a0 / (lN 4) * (lN 4)) (lN 0)) = (nI 0) → ((σ (tc k 0) 9) ≤ (nI 0) → Q σ) ∧ (¬ (σ (tc k 0) 9) ≤ (nI 0) → ((σ (tc k 0) 8) ≤ (nI 0) → Q σ) ∧ (¬ (σ (tc k 0) 8) ≤ (nI 0) → ¬ ((σ (tc k 0) 9) : Int32).toInt64 = (lN 0) ∧ (¬ ((σ (tc k 0) 8) : Int32).toInt64 = (lN 0) ∧ (wp_X3_sendTo k ((a0 - a0 / ((σ (tc k 0) 9) : Int32).toInt64 * ((σ (tc k 0) 9) : Int32).toInt64) : Int64).toInt32 ((a0 - a0 / ((σ (tc k 0) 8) : Int32).toInt64 * ((σ (tc k 0) 8) : Int32).toInt64) : Int64).toInt32 σ (fun τ6 => (Q τ6)))))))
set_option maxRecDepth 100000 in
set_option maxHeartbeats 4000000 in
theorem ct_X3_sendByDraw {l : Launch} {X : XP} (k : Nat) (hk : k < 28) (a0 : Int64) (σ : PI) (Q : PI → Prop) (h : wp_X3_sendByDraw k a0 σ Q) : Ct l yX3_sendByDraw cX3_sendByDraw 3 none 1 X [.ref (X.1 (tc k 0)), .long a0] σ (qV Q) := by
  refine Ct_of (L := [some (.ref (X.1 (tc k 0))), some (.long a0), none]) (by decide) (Nat.le_of_ble_eq_true rfl) rfl (fun M hl cx => ?_)
  subst hl
  unfold wp_X3_sendByDraw at h
  refine J_lload_n cx 1 dX3_sendByDraw_0 rfl rfl ?_
  refine J_ldc2 cx (v := (lN 4)) dX3_sendByDraw_1 gw_584 ?_
  refine J_lrem cx dX3_sendByDraw_4 (by decide) ?_
  refine J_lconst cx dX3_sendByDraw_5 (by decide : _ = ((lN 0) : Int64)) ?_
  refine J_lcmp cx dX3_sendByDraw_6 ?_
  refine J_if_ne cx (tgt := 44) dX3_sendByDraw_7 (by decide) (fun q1 => ?_) (fun q1 => ?_)
  · replace h := h.1 q1
    exact J_vret cx dX3_sendByDraw_44 h
  · replace h := h.2 q1
    refine J_aload_n cx 0 dX3_sendByDraw_10 rfl rfl ?_
    refine J_getI cx dX3_sendByDraw_11 F_X3_40 (tc_lt hk (by decide)) (kq_t0 hk) rfl ?_
    refine J_if_le cx (tgt := 44) dX3_sendByDraw_14 (by decide) (fun q2 => ?_) (fun q2 => ?_)
    · replace h := h.1 q2
      exact J_vret cx dX3_sendByDraw_44 h
    · replace h := h.2 q2
      refine J_aload_n cx 0 dX3_sendByDraw_17 rfl rfl ?_
      refine J_getI cx dX3_sendByDraw_18 F_X3_36 (tc_lt hk (by decide)) (kq_t0 hk) rfl ?_
      refine J_if_le cx (tgt := 44) dX3_sendByDraw_21 (by decide) (fun q3 => ?_) (fun q3 => ?_)
      · replace h := h.1 q3
        exact J_vret cx dX3_sendByDraw_44 h
      · replace h := h.2 q3
        refine J_aload_n cx 0 dX3_sendByDraw_24 rfl rfl ?_
        refine J_lload_n cx 1 dX3_sendByDraw_25 rfl rfl ?_
        refine J_aload_n cx 0 dX3_sendByDraw_26 rfl rfl ?_
        refine J_getI cx dX3_sendByDraw_27 F_X3_40 (tc_lt hk (by decide)) (kq_t0 hk) rfl ?_
        refine J_i2l cx dX3_sendByDraw_30 ?_
        obtain ⟨s4, h⟩ := h
        refine J_lrem cx dX3_sendByDraw_31 s4 ?_
        refine J_l2i cx dX3_sendByDraw_32 ?_
        refine J_lload_n cx 1 dX3_sendByDraw_33 rfl rfl ?_
        refine J_aload_n cx 0 dX3_sendByDraw_34 rfl rfl ?_
        refine J_getI cx dX3_sendByDraw_35 F_X3_36 (tc_lt hk (by decide)) (kq_t0 hk) rfl ?_
        refine J_i2l cx dX3_sendByDraw_38 ?_
        obtain ⟨s5, h⟩ := h
        refine J_lrem cx dX3_sendByDraw_39 s5 ?_
        refine J_l2i cx dX3_sendByDraw_40 ?_
        refine J_cV cx dX3_sendByDraw_41 V_X3_96 (by decide) (tc_lt hk (by decide)) (kq_t0 hk) (ct_X3_sendTo k hk _ _ _ _ h) rfl rfl (Nat.le_of_ble_eq_true rfl) (k_v (fun τ6 h => ?_))
        exact J_vret cx dX3_sendByDraw_44 h
