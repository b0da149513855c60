/-! ===== the law's loop ===== -/
theorem and63 (x : Int32) : ∃ a, a < 64 ∧ (x &&& nI 63) = nI a := by
  have e : (x &&& nI 63).toBitVec = x.toBitVec &&& 63#32 := rfl
  refine ⟨(x.toBitVec &&& 63#32).toNat, ?_, ?_⟩
  · rw [BitVec.toNat_and]
    have := Nat.and_le_right (n := x.toBitVec.toNat) (m := (63#32).toNat)
    have h63 : (63#32).toNat = 63 := by decide
    omega
  · apply Int32.toBitVec_inj.mp
    rw [e]
    show _ = BitVec.ofNat 32 _
    rw [BitVec.ofNat_toNat, BitVec.setWidth_eq]
section LP
variable {M : MC} {X : XP} {Q : State → Prop} {b Ln : Nat} {xs : Nat → Int32}
set_option maxRecDepth 100000 in
set_option maxHeartbeats 4000000 in
theorem law_loop (lc : LC M X b Ln xs) (hfin : ∀ σ i, J M X Q σ 1555 (LL X b i) []) : ∀ n i σ, Ln + 1 ≤ i + n → i ≤ 3072 → Rel σ → J M X Q σ 18 (LL X b i) [] := by
  have hl := lc.l
  intro n
  induction n with
  | zero =>
    intro i σ h1 h2 hR
    refine J_iload_n lc.cx 3 dL_law_18 rfl rfl ?_
    refine J_aload_n lc.cx 0 dL_law_19 rfl rfl ?_
    refine J_slen lc dL_law_20 ?_
    refine J_bipush lc.cx dL_law_21 (by decide : _ = nI 6) ?_
    refine J_isub lc.cx dL_law_23 ?_
    refine J_icmp_gt (tgt := 1555) lc.cx dL_law_24 (by decide) (fun _ => hfin σ i) (fun z => absurd ?_ z)
    show nI Ln - nI 6 < nI i
    rw [Int32.lt_iff_toInt_lt, sub_nI (by omega) (by omega), nI_toInt (by omega)]
    omega
  | succ n ih =>
    intro i σ h1 h2 hR
    refine J_iload_n lc.cx 3 dL_law_18 rfl rfl ?_
    refine J_aload_n lc.cx 0 dL_law_19 rfl rfl ?_
    refine J_slen lc dL_law_20 ?_
    refine J_bipush lc.cx dL_law_21 (by decide : _ = nI 6) ?_
    refine J_isub lc.cx dL_law_23 ?_
    refine J_icmp_gt (tgt := 1555) lc.cx dL_law_24 (by decide) (fun _ => hfin σ i) (fun z => ?_)
    have hi : i + 5 < Ln := by
      have z' : ¬ nI Ln - nI 6 < nI i := z
      rw [Int32.lt_iff_toInt_lt, sub_nI (by omega) (by omega), nI_toInt (by omega)] at z'
      omega
    have K : ∀ τ, Rel τ → J M X Q τ 1549 (LL X b i) [] := by
      intro τ hτ
      refine J_iinc (L' := LL X b (i + 6)) lc.cx dL_law_1549 rfl (by decide : _ = nI 6) (by omega) rfl (by rw [nI_add]; rfl) ?_
      refine J_goto (tgt := 18) lc.cx dL_law_1552 (by decide) ?_
      exact ih (i + 6) τ (by omega) (by omega) hτ
    refine J_aload_n lc.cx 0 dL_law_27 rfl rfl ?_
    refine J_iload_n lc.cx 3 dL_law_28 rfl rfl ?_
    refine J_scr lc (vpN (by omega) (by omega)) dL_law_29 ?_
    refine J_bipush lc.cx dL_law_30 (by decide : _ = nI 63) ?_
    refine J_iand lc.cx dL_law_32 ?_
    obtain ⟨a, ha, ea⟩ := and63 (xs (nI i).toNatClampNeg)
    rw [ea]
    by_cases h40 : a < 40
    · rcases (show a = 0 ∨ a = 1 ∨ a = 2 ∨ a = 3 ∨ a = 4 ∨ a = 5 ∨ a = 6 ∨ a = 7 ∨ a = 8 ∨ a = 9 ∨ a = 10 ∨ a = 11 ∨ a = 12 ∨ a = 13 ∨ a = 14 ∨ a = 15 ∨ a = 16 ∨ a = 17 ∨ a = 18 ∨ a = 19 ∨ a = 20 ∨ a = 21 ∨ a = 22 ∨ a = 23 ∨ a = 24 ∨ a = 25 ∨ a = 26 ∨ a = 27 ∨ a = 28 ∨ a = 29 ∨ a = 30 ∨ a = 31 ∨ a = 32 ∨ a = 33 ∨ a = 34 ∨ a = 35 ∨ a = 36 ∨ a = 37 ∨ a = 38 ∨ a = 39 by omega) with rfl | rfl | rfl | rfl | rfl | rfl | rfl | rfl | rfl | rfl | rfl | rfl | rfl | rfl | rfl | rfl | rfl | rfl | rfl | rfl | rfl | rfl | rfl | rfl | rfl | rfl | rfl | rfl | rfl | rfl | rfl | rfl | rfl | rfl | rfl | rfl | rfl | rfl | rfl | rfl
      · exact J_tsI lc.cx (nI 0) rfl dL_law_33 (by decide) (by decide) rfl (by decide) (law_0 lc hi hR K)
      · exact J_tsI lc.cx (nI 1) rfl dL_law_33 (by decide) (by decide) rfl (by decide) (law_1 lc hi hR K)
      · exact J_tsI lc.cx (nI 2) rfl dL_law_33 (by decide) (by decide) rfl (by decide) (law_2 lc hi hR K)
      · exact J_tsI lc.cx (nI 3) rfl dL_law_33 (by decide) (by decide) rfl (by decide) (law_3 lc hi hR K)
      · exact J_tsI lc.cx (nI 4) rfl dL_law_33 (by decide) (by decide) rfl (by decide) (law_4 lc hi hR K)
      · exact J_tsI lc.cx (nI 5) rfl dL_law_33 (by decide) (by decide) rfl (by decide) (law_5 lc hi hR K)
      · exact J_tsI lc.cx (nI 6) rfl dL_law_33 (by decide) (by decide) rfl (by decide) (law_6 lc hi hR K)
      · exact J_tsI lc.cx (nI 7) rfl dL_law_33 (by decide) (by decide) rfl (by decide) (law_7 lc hi hR K)
      · exact J_tsI lc.cx (nI 8) rfl dL_law_33 (by decide) (by decide) rfl (by decide) (law_8 lc hi hR K)
      · exact J_tsI lc.cx (nI 9) rfl dL_law_33 (by decide) (by decide) rfl (by decide) (law_9 lc hi hR K)
      · exact J_tsI lc.cx (nI 10) rfl dL_law_33 (by decide) (by decide) rfl (by decide) (law_10 lc hi hR K)
      · exact J_tsI lc.cx (nI 11) rfl dL_law_33 (by decide) (by decide) rfl (by decide) (law_11 lc hi hR K)
      · exact J_tsI lc.cx (nI 12) rfl dL_law_33 (by decide) (by decide) rfl (by decide) (law_12 lc hi hR K)
      · exact J_tsI lc.cx (nI 13) rfl dL_law_33 (by decide) (by decide) rfl (by decide) (law_13 lc hi hR K)
      · exact J_tsI lc.cx (nI 14) rfl dL_law_33 (by decide) (by decide) rfl (by decide) (law_14 lc hi hR K)
      · exact J_tsI lc.cx (nI 15) rfl dL_law_33 (by decide) (by decide) rfl (by decide) (law_15 lc hi hR K)
      · exact J_tsI lc.cx (nI 16) rfl dL_law_33 (by decide) (by decide) rfl (by decide) (law_16 lc hi hR K)
      · exact J_tsI lc.cx (nI 17) rfl dL_law_33 (by decide) (by decide) rfl (by decide) (law_17 lc hi hR K)
      · exact J_tsI lc.cx (nI 18) rfl dL_law_33 (by decide) (by decide) rfl (by decide) (law_18 lc hi hR K)
      · exact J_tsI lc.cx (nI 19) rfl dL_law_33 (by decide) (by decide) rfl (by decide) (law_19 lc hi hR K)
      · exact J_tsI lc.cx (nI 20) rfl dL_law_33 (by decide) (by decide) rfl (by decide) (law_20 lc hi hR K)
      · exact J_tsI lc.cx (nI 21) rfl dL_law_33 (by decide) (by decide) rfl (by decide) (law_21 lc hi hR K)
      · exact J_tsI lc.cx (nI 22) rfl dL_law_33 (by decide) (by decide) rfl (by decide) (law_22 lc hi hR K)
      · exact J_tsI lc.cx (nI 23) rfl dL_law_33 (by decide) (by decide) rfl (by decide) (law_23 lc hi hR K)
      · exact J_tsI lc.cx (nI 24) rfl dL_law_33 (by decide) (by decide) rfl (by decide) (law_24 lc hi hR K)
      · exact J_tsI lc.cx (nI 25) rfl dL_law_33 (by decide) (by decide) rfl (by decide) (law_25 lc hi hR K)
      · exact J_tsI lc.cx (nI 26) rfl dL_law_33 (by decide) (by decide) rfl (by decide) (law_26 lc hi hR K)
      · exact J_tsI lc.cx (nI 27) rfl dL_law_33 (by decide) (by decide) rfl (by decide) (law_27 lc hi hR K)
      · exact J_tsI lc.cx (nI 28) rfl dL_law_33 (by decide) (by decide) rfl (by decide) (law_28 lc hi hR K)
      · exact J_tsI lc.cx (nI 29) rfl dL_law_33 (by decide) (by decide) rfl (by decide) (law_29 lc hi hR K)
      · exact J_tsI lc.cx (nI 30) rfl dL_law_33 (by decide) (by decide) rfl (by decide) (law_30 lc hi hR K)
      · exact J_tsI lc.cx (nI 31) rfl dL_law_33 (by decide) (by decide) rfl (by decide) (law_31 lc hi hR K)
      · exact J_tsI lc.cx (nI 32) rfl dL_law_33 (by decide) (by decide) rfl (by decide) (law_32 lc hi hR K)
      · exact J_tsI lc.cx (nI 33) rfl dL_law_33 (by decide) (by decide) rfl (by decide) (law_33 lc hi hR K)
      · exact J_tsI lc.cx (nI 34) rfl dL_law_33 (by decide) (by decide) rfl (by decide) (law_34 lc hi hR K)
      · exact J_tsI lc.cx (nI 35) rfl dL_law_33 (by decide) (by decide) rfl (by decide) (law_35 lc hi hR K)
      · exact J_tsI lc.cx (nI 36) rfl dL_law_33 (by decide) (by decide) rfl (by decide) (law_36 lc hi hR K)
      · exact J_tsI lc.cx (nI 37) rfl dL_law_33 (by decide) (by decide) rfl (by decide) (law_37 lc hi hR K)
      · exact J_tsI lc.cx (nI 38) rfl dL_law_33 (by decide) (by decide) rfl (by decide) (law_38 lc hi hR K)
      · exact J_tsI lc.cx (nI 39) rfl dL_law_33 (by decide) (by decide) rfl (by decide) (law_39 lc hi hR K)
    · refine J_tsO (tgt := 1549) lc.cx dL_law_33 (Or.inr ?_) (by decide) (K σ hR)
      rw [nI_toInt (by omega)]
      omega
end LP
