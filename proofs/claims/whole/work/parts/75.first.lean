/-! ===== the first world ===== -/
def s0 : PI := fun i k => if i = 278 then sz0 8 k else 0
theorem s0_z {i : Nat} (h : i ≠ 278) : s0 i = fun _ => 0 := by funext k; unfold s0; rw [if_neg h]
theorem s0_s : s0 278 = sz0 8 := by funext k; unfold s0; rw [if_pos rfl]
theorem s0_v {i k : Nat} (h : i ≠ 278) : s0 i k = nI 0 := by rw [s0_z h]; rfl
theorem rel0 : Rel s0 := by
  have z0 : ∀ i k, i ≠ 278 → s0 i k = nI 0 := fun i k h => s0_v h
  refine ⟨fun r hr => Or.inr ⟨z0 _ _ (by unfold rc; omega), ?_⟩, by rw [z0 _ _ (by omega), z0 _ _ (by omega)], by rw [z0 _ _ (by omega), z0 _ _ (by omega)], ⟨0, by omega, z0 _ _ (by omega), z0 _ _ (by omega), fun i hi => by omega⟩, ⟨0, by omega, z0 _ _ (by omega), z0 _ _ (by omega), fun i hi => by omega⟩, ⟨fun _ => 0, ⟨⟨z0 _ _ (by unfold tc; omega), z0 _ _ (by unfold tc; omega), z0 _ _ (by unfold tc; omega), z0 _ _ (by unfold tc; omega), z0 _ _ (by unfold tc; omega), z0 _ _ (by unfold tc; omega)⟩, fun i hi => absurd hi (Nat.not_lt_zero i), fun l hl => absurd hl (Nat.not_lt_zero l)⟩, fun i hi => z0 _ _ (by omega), z0 _ _ (by unfold tc; omega), z0 _ _ (by omega), Or.inr ⟨z0 _ _ (by omega), fun _ _ => rfl⟩⟩, ⟨0, fun _ _ => 0, by omega, ⟨0, by omega, z0 _ _ (by omega), z0 _ _ (by omega), fun j hj => by omega⟩, ⟨z0 _ _ (by omega), fun j hj => by omega⟩, fun h => by omega, fun j hj => by omega⟩, fun k hk => Or.inr ⟨z0 _ _ (by omega), z0 _ _ (by unfold tc; omega)⟩⟩
  rw [s0_s]; unfold sz0; rw [if_pos hr]
section FS
variable {D : va_G} {cy : Nat → ClassId} {sad : Nat → Nat} {A : Nat → Prop} {h0 qR qI qA qa qd qt qb : Nat} {tq rq' : Nat → Nat → Nat} {mq : Nat → Nat}
/-- where each cell lies -/
def adr (h0 qR qI qA qa qd qt qb : Nat) (tq rq' : Nat → Nat → Nat) (mq : Nat → Nat) (i : Nat) : Nat := if i < 252 then tq (i / 9) (i % 9) else if i < 260 then [h0, qR, qI, qA, qa, qd, qt, qb].getD (i - 252) 0 else if i < 276 then rq' ((i - 260) / 2) ((i - 260) % 2) else mq (i - 276)
theorem arr_cg {cA : ClassId} {n : Nat} {f g : Nat → Option Nat} (h : ∀ j, j < n → f j = g j) : vp_cell cA (n, .inr (.inr (.inr (.inr f)))) = vp_cell cA (n, .inr (.inr (.inr (.inr g)))) := by
  show arrV cA n (fun j => va_rf (f j)) = arrV cA n (fun j => va_rf (g j))
  unfold arrV
  congr 1
  congr 1
  funext j
  dsimp only
  rw [h j.val j.isLt]
def fstW (cy : Nat → ClassId) (h0 qR qI qA qa qd qt qb : Nat) (tq rq' : Nat → Nat → Nat) (mq : Nat → Nat) : va_W := ([] ++ (tblks cy tq 28 ++ (la8 cy h0 qR qI qA qa qd qt qb tq rq' ++ rblks cy rq' 8))) ++ mblk cy mq
theorem len_t {n : Nat} : (tblks cy tq n).length = 9 * n := by simp [tblks]
theorem len_r {n : Nat} : (rblks cy rq' n).length = 2 * n := by simp [rblks]
theorem len_l : (la8 cy h0 qR qI qA qa qd qt qb tq rq').length = 8 := rfl
theorem fw_t {i : Nat} (h : i < 252) : (fstW cy h0 qR qI qA qa qd qt qb tq rq' mq)[i]? = some (tq (i / 9) (i % 9), tent cy (tq (i / 9)) (i % 9)) := by
  unfold fstW
  rw [List.nil_append, List.getElem?_append_left (by rw [List.length_append, List.length_append, len_t, len_l, len_r]; omega), List.getElem?_append_left (by rw [len_t]; omega)]
  simp [tblks, List.getElem?_map, List.getElem?_range, show i < 9 * 28 by omega]
theorem fw_l {j : Nat} (h : j < 8) : (fstW cy h0 qR qI qA qa qd qt qb tq rq' mq)[252 + j]? = (la8 cy h0 qR qI qA qa qd qt qb tq rq')[j]? := by
  unfold fstW
  rw [List.nil_append, List.getElem?_append_left (by rw [List.length_append, List.length_append, len_t, len_l, len_r]; omega), List.getElem?_append_right (by rw [len_t]; omega), List.getElem?_append_left (by rw [len_t, len_l]; omega), len_t, show 252 + j - 9 * 28 = j by omega]
theorem fw_r {j : Nat} (h : j < 16) : (fstW cy h0 qR qI qA qa qd qt qb tq rq' mq)[260 + j]? = some (rq' (j / 2) (j % 2), rent cy (rq' (j / 2)) (j % 2)) := by
  unfold fstW
  rw [List.nil_append, List.getElem?_append_left (by rw [List.length_append, List.length_append, len_t, len_l, len_r]; omega), List.getElem?_append_right (by rw [len_t]; omega), List.getElem?_append_right (by rw [len_t, len_l]; omega), len_t, len_l, show 260 + j - 9 * 28 - 8 = j by omega]
  simp [rblks, List.getElem?_map, List.getElem?_range, show j < 2 * 8 by omega]
theorem fw_m {j : Nat} (h : j < 13) : (fstW cy h0 qR qI qA qa qd qt qb tq rq' mq)[276 + j]? = some (mq j, ment cy mq j) := by
  unfold fstW
  rw [List.nil_append, List.getElem?_append_right (by rw [List.length_append, List.length_append, len_t, len_l, len_r]; omega), List.length_append, List.length_append, len_t, len_l, len_r, show 276 + j - (9 * 28 + (8 + 2 * 8)) = j by omega]
  simp [mblk, List.getElem?_map, List.getElem?_range, h]
theorem ad_t {k j : Nat} (hk : k < 28) (hj : j < 9) : adr h0 qR qI qA qa qd qt qb tq rq' mq (tc k j) = tq k j := by
  unfold adr tc
  rw [if_pos (by omega), show (9 * k + j) / 9 = k by omega, show (9 * k + j) % 9 = j by omega]
theorem ad_r {r j : Nat} (hr : r < 8) (hj : j < 2) : adr h0 qR qI qA qa qd qt qb tq rq' mq (rc r j) = rq' r j := by
  unfold adr rc
  rw [if_neg (by omega), if_neg (by omega), if_pos (by omega), show (260 + 2 * r + j - 260) / 2 = r by omega, show (260 + 2 * r + j - 260) % 2 = j by omega]
def X0 (D : va_G) (cy : Nat → ClassId) (sad : Nat → Nat) (A : Nat → Prop) (h0 qR qI qA qa qd qt qb : Nat) (tq rq' : Nat → Nat → Nat) (mq : Nat → Nat) : XP := (adr h0 qR qI qA qa qd qt qb tq rq' mq, D, cy, sad, A)
theorem fs_t {k : Nat} (hk : k < 28) : fsO (X0 D cy sad A h0 qR qI qA qa qd qt qb tq rq' mq) s0 3 (tc k 0) = [.ref (tq k 1), .ref (tq k 2), .ref (tq k 3), .ref (tq k 4), .ref (tq k 5), .ref (tq k 6), .ref (tq k 7), .ref (tq k 8), .int 0, .int 0, .int 0, .int 0, .int 0, .int 0, .int 0] := by
  have hr : ∀ j, j < 8 → va_rf ((rq (tc k 0) j).map (X0 D cy sad A h0 qR qI qA qa qd qt qb tq rq' mq).1) = .ref (tq k (j + 1)) := fun j hj => by
    rw [rq_t hk]
    show Value.ref (adr h0 qR qI qA qa qd qt qb tq rq' mq (tc k (j + 1))) = _
    rw [ad_t hk (by omega)]
  have hz : ∀ j, Value.int (s0 (tc k 0) j) = .int 0 := fun j => by rw [s0_z (by unfold tc; omega)]
  show [va_rf ((rq (tc k 0) 0).map _), va_rf ((rq (tc k 0) 1).map _), va_rf ((rq (tc k 0) 2).map _), va_rf ((rq (tc k 0) 3).map _), va_rf ((rq (tc k 0) 4).map _), va_rf ((rq (tc k 0) 5).map _), va_rf ((rq (tc k 0) 6).map _), va_rf ((rq (tc k 0) 7).map _), .int (s0 (tc k 0) 8), .int (s0 (tc k 0) 9), .int (s0 (tc k 0) 10), .int (s0 (tc k 0) 11), .int (s0 (tc k 0) 12), .int (s0 (tc k 0) 13), .int (s0 (tc k 0) 14)] = _
  rw [hr 0 (by omega), hr 1 (by omega), hr 2 (by omega), hr 3 (by omega), hr 4 (by omega), hr 5 (by omega), hr 6 (by omega), hr 7 (by omega), hz, hz, hz, hz, hz, hz, hz]
theorem en_t {k j : Nat} (hk : k < 28) (hj : j < 9) : ent (X0 D cy sad A h0 qR qI qA qa qd qt qb tq rq' mq) s0 (tc k j) = tent cy (tq k) j := by
  unfold tent
  by_cases h : j = 0
  · subst h
    rw [if_pos rfl, ent_o (kq_t0 hk) (by omega), fs_t hk]
  · rw [if_neg h, ent_i (q := 6) (n := tln j) ?_ (by omega) (by omega), s0_z (by unfold tc; omega)]
    · rfl
    · rw [kq_t hk hj, if_neg h]
      unfold tln
      split
      · rfl
      · split
        · rfl
        · split
          · rfl
          · split <;> rfl
theorem en_r {r j : Nat} (hr : r < 8) (hj : j < 2) : ent (X0 D cy sad A h0 qR qI qA qa qd qt qb tq rq' mq) s0 (rc r j) = rent cy (rq' r) j := by
  unfold rent
  by_cases h : j = 0
  · subst h
    rw [if_pos rfl, ent_o (kq_r0 hr) (by omega)]
    have h1 : va_rf ((rq (rc r 0) 0).map (X0 D cy sad A h0 qR qI qA qa qd qt qb tq rq' mq).1) = .ref (rq' r 1) := by
      rw [rq_r hr]
      show Value.ref (adr h0 qR qI qA qa qd qt qb tq rq' mq (rc r 1)) = _
      rw [ad_r hr (by omega)]
    have hz : ∀ j, Value.int (s0 (rc r 0) j) = .int 0 := fun j => by rw [s0_z (by unfold rc; omega)]
    have : fsO (X0 D cy sad A h0 qR qI qA qa qd qt qb tq rq' mq) s0 2 (rc r 0) = [.ref (rq' r 1), .int 0, .int 0, .int 0] := by
      show [va_rf ((rq (rc r 0) 0).map _), .int (s0 (rc r 0) 1), .int (s0 (rc r 0) 2), .int (s0 (rc r 0) 3)] = _
      rw [h1, hz, hz, hz]
    rw [this]
  · obtain rfl : j = 1 := by omega
    rw [if_neg h, ent_i (kq_r1 hr) (by omega) (by omega), s0_z (by unfold rc; omega)]
    rfl
theorem en_a {i c n : Nat} (hc : kq i = (c, n)) (h6 : ¬ c < 6) (h8 : c < 8) (hs : i ≠ 278) : ent (X0 D cy sad A h0 qR qI qA qa qd qt qb tq rq' mq) s0 i = .inl (cy c, n, .inl (fun _ => 0)) := by
  rw [ent_i hc h6 h8, s0_z hs]; rfl
/-- every cell stands where it should -/
theorem fw_all {i : Nat} (hi : i < 289) : ∃ e, (fstW cy h0 qR qI qA qa qd qt qb tq rq' mq)[i]? = some (adr h0 qR qI qA qa qd qt qb tq rq' mq i, e) ∧ ∀ H, va_at D vwCl (adr h0 qR qI qA qa qd qt qb tq rq' mq i, e) H → va_at D vwCl (adr h0 qR qI qA qa qd qt qb tq rq' mq i, ent (X0 D cy sad A h0 qR qI qA qa qd qt qb tq rq' mq) s0 i) H := by
  by_cases h1 : i < 252
  · obtain ⟨k, j, hk, hj, rfl⟩ : ∃ k j, k < 28 ∧ j < 9 ∧ i = tc k j := ⟨i / 9, i % 9, by omega, by omega, by unfold tc; omega⟩
    refine ⟨tent cy (tq k) j, ?_, fun H h => by rw [en_t hk hj]; exact h⟩
    rw [fw_t h1, ad_t hk hj]
    have e1 : tc k j / 9 = k := by unfold tc; omega
    have e2 : tc k j % 9 = j := by unfold tc; omega
    rw [e1, e2]
  by_cases h3 : 276 ≤ i
  · obtain ⟨j, hj, rfl⟩ : ∃ j, j < 13 ∧ i = 276 + j := ⟨i - 276, by omega, by omega⟩
    have ea : adr h0 qR qI qA qa qd qt qb tq rq' mq (276 + j) = mq j := by
      unfold adr
      rw [if_neg (by omega), if_neg (by omega), if_neg (by omega), show 276 + j - 276 = j by omega]
    refine ⟨ment cy mq j, by rw [ea]; exact fw_m hj, fun H h => ?_⟩
    have : ent (X0 D cy sad A h0 qR qI qA qa qd qt qb tq rq' mq) s0 (276 + j) = ment cy mq j := by
      rcases (show j = 0 ∨ j = 1 ∨ j = 2 ∨ j = 3 ∨ j = 4 ∨ j = 5 ∨ j = 6 ∨ j = 7 ∨ j = 8 ∨ j = 9 ∨ j = 10 ∨ j = 11 ∨ j = 12 by omega) with rfl | rfl | rfl | rfl | rfl | rfl | rfl | rfl | rfl | rfl | rfl | rfl | rfl
      · rfl
      · exact en_a (c := 6) (n := 8) rfl (by omega) (by omega) (by omega)
      · show ent _ s0 278 = _
        rw [ent_i (q := 6) (n := 8) rfl (by omega) (by omega), s0_s]; rfl
      · exact en_a (c := 6) (n := 320) rfl (by omega) (by omega) (by omega)
      · exact en_a (c := 6) (n := 70) rfl (by omega) (by omega) (by omega)
      · exact en_a (c := 6) (n := 40) rfl (by omega) (by omega) (by omega)
      · exact en_a (c := 6) (n := 120) rfl (by omega) (by omega) (by omega)
      · exact en_a (c := 6) (n := 70) rfl (by omega) (by omega) (by omega)
      · exact en_a (c := 6) (n := 1680) rfl (by omega) (by omega) (by omega)
      · exact en_a (c := 6) (n := 70) rfl (by omega) (by omega) (by omega)
      · exact en_a (c := 7) (n := 2) rfl (by omega) (by omega) (by omega)
      · exact en_a (c := 6) (n := 140) rfl (by omega) (by omega) (by omega)
      · exact en_a (c := 6) (n := 16) rfl (by omega) (by omega) (by omega)
    rw [this]; exact h
  by_cases h2 : 260 ≤ i
  · obtain ⟨r, j, hr, hj, rfl⟩ : ∃ r j, r < 8 ∧ j < 2 ∧ i = rc r j := ⟨(i - 260) / 2, (i - 260) % 2, by omega, by omega, by unfold rc; omega⟩
    refine ⟨rent cy (rq' r) j, ?_, fun H h => by rw [en_r hr hj]; exact h⟩
    rw [ad_r hr hj, show rc r j = 260 + (2 * r + j) by unfold rc; omega, fw_r (by omega), show (2 * r + j) / 2 = r by omega, show (2 * r + j) % 2 = j by omega]
  · obtain ⟨j, hj, rfl⟩ : ∃ j, j < 8 ∧ i = 252 + j := ⟨i - 252, by omega, by omega⟩
    rw [fw_l hj]
    rcases (show j = 0 ∨ j = 1 ∨ j = 2 ∨ j = 3 ∨ j = 4 ∨ j = 5 ∨ j = 6 ∨ j = 7 by omega) with rfl | rfl | rfl | rfl | rfl | rfl | rfl | rfl
    · exact ⟨_, rfl, fun H h => h⟩
    · refine ⟨_, rfl, fun H h => ?_⟩
      show H[_]? = some (vp_cell (cy 8) (8, .inr (.inr (.inr (.inr (fun j => (rq 253 j).map _))))))
      rw [arr_cg (g := rfs rq' 8) (fun j hj => ?_)]
      · exact h
      · rw [rq_rows]
        show some (adr h0 qR qI qA qa qd qt qb tq rq' mq (rc j 0)) = _
        rw [ad_r hj (by omega)]; unfold rfs; rw [if_pos hj]
    · refine ⟨_, rfl, fun H h => ?_⟩
      show H[_]? = some (vp_cell (cy 9) (2, .inr (.inr (.inr (.inr (fun j => (rq 254 j).map _))))))
      rw [arr_cg (g := rfs (fun k => tq (k + 2)) 2) (fun j hj => ?_)]
      · exact h
      · rw [rq_imgs]
        show some (adr h0 qR qI qA qa qd qt qb tq rq' mq (tc (2 + j) 0)) = _
        rw [ad_t (by omega) (by omega)]; unfold rfs; rw [if_pos hj, Nat.add_comm]
    · refine ⟨_, rfl, fun H h => ?_⟩
      show H[_]? = some (vp_cell (cy 9) (24, .inr (.inr (.inr (.inr (fun j => (rq 255 j).map _))))))
      rw [arr_cg (g := rfs (fun k => tq (k + 4)) 24) (fun j hj => ?_)]
      · exact h
      · rw [rq_bef]
        show some (adr h0 qR qI qA qa qd qt qb tq rq' mq (tc (4 + j) 0)) = _
        rw [ad_t (by omega) (by omega)]; unfold rfs; rw [if_pos hj, Nat.add_comm]
    · exact ⟨_, rfl, fun H h => h⟩
    · exact ⟨_, rfl, fun H h => h⟩
    · exact ⟨_, rfl, fun H h => h⟩
    · exact ⟨_, rfl, fun H h => h⟩
theorem fw_P {H : Heap} (hP : va_P D vwCl (fstW cy h0 qR qI qA qa qd qt qb tq rq' mq) H) : va_P D vwCl (wl (X0 D cy sad A h0 qR qI qA qa qd qt qb tq rq' mq) s0) H := by
  intro i q hq
  by_cases hi : i < 289
  · rw [wl_get hi] at hq
    cases hq
    obtain ⟨e, h1, h2⟩ := fw_all (D := D) (cy := cy) (sad := sad) (A := A) (h0 := h0) (qR := qR) (qI := qI) (qA := qA) (qa := qa) (qd := qd) (qt := qt) (qb := qb) (tq := tq) (rq' := rq') (mq := mq) hi
    exact h2 H (hP i _ h1)
  · rw [List.getElem?_eq_none (by simp [wl]; omega)] at hq
    cases hq
theorem fw_D (hD : va_D A (fstW cy h0 qR qI qA qa qd qt qb tq rq' mq)) : AD (X0 D cy sad A h0 qR qI qA qa qd qt qb tq rq' mq) := by
  have get := fun {i : Nat} (hi : i < 289) => fw_all (D := D) (cy := cy) (sad := sad) (A := A) (h0 := h0) (qR := qR) (qI := qI) (qA := qA) (qa := qa) (qd := qd) (qt := qt) (qb := qb) (tq := tq) (rq' := rq') (mq := mq) hi
  refine ⟨fun i j hi hj e => ?_, fun i hi => ?_⟩
  · obtain ⟨e1, h1, -⟩ := get hi
    obtain ⟨e2, h2, -⟩ := get hj
    exact hD.1 i j _ _ h1 h2 e
  · obtain ⟨e1, h1, -⟩ := get hi
    exact hD.2 i _ h1
end FS
