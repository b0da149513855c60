/-! ===== the constructors ===== -/
def tln (j : Nat) : Nat := if j = 7 then 30 else if j = 1 then 5 else if j = 2 then 5 else if j = 8 then 5 else 6
def tent (cy : Nat → ClassId) (q : Nat → Nat) (j : Nat) : va_E := if j = 0 then .inr (3, [.ref (q 1), .ref (q 2), .ref (q 3), .ref (q 4), .ref (q 5), .ref (q 6), .ref (q 7), .ref (q 8), .int 0, .int 0, .int 0, .int 0, .int 0, .int 0, .int 0]) else .inl (cy 6, tln j, .inl (fun _ => 0))
def tblk (cy : Nat → ClassId) (q : Nat → Nat) : va_W := (List.range 9).map (fun j => (q j, tent cy q j))
def tblks (cy : Nat → ClassId) (tq : Nat → Nat → Nat) (n : Nat) : va_W := (List.range (9 * n)).map (fun x => (tq (x / 9) (x % 9), tent cy (tq (x / 9)) (x % 9)))
def rent (cy : Nat → ClassId) (q : Nat → Nat) (j : Nat) : va_E := if j = 0 then .inr (2, [.ref (q 1), .int 0, .int 0, .int 0]) else .inl (cy 6, 40, .inl (fun _ => 0))
def rblk (cy : Nat → ClassId) (q : Nat → Nat) : va_W := (List.range 2).map (fun j => (q j, rent cy q j))
def rblks (cy : Nat → ClassId) (rq' : Nat → Nat → Nat) (n : Nat) : va_W := (List.range (2 * n)).map (fun x => (rq' (x / 2) (x % 2), rent cy (rq' (x / 2)) (x % 2)))
theorem rng_app {α : Type} (f g : Nat → α) (a c : Nat) : (List.range a).map f ++ (List.range c).map g = (List.range (a + c)).map (fun x => if x < a then f x else g (x - a)) := by
  apply List.ext_getElem?
  intro i
  by_cases h : i < a
  · rw [List.getElem?_append_left (by simp; exact h)]
    simp [List.getElem?_map, List.getElem?_range, h, show i < a + c by omega]
  · rw [List.getElem?_append_right (by simp; omega)]
    by_cases h2 : i < a + c
    · simp [List.getElem?_map, List.getElem?_range, h, h2, show i - a < c by omega]
    · rw [List.getElem?_eq_none (by simp; omega), List.getElem?_eq_none (by simp; omega)]
theorem map_cg {α : Type} {f g : Nat → α} {n : Nat} (h : ∀ x, x < n → f x = g x) : (List.range n).map f = (List.range n).map g := List.map_congr_left (fun x hx => h x (List.mem_range.mp hx))
theorem tblks_app {cy : Nat → ClassId} {tq tq' : Nat → Nat → Nat} {a c : Nat} : tblks cy tq a ++ tblks cy tq' c = tblks cy (fun k => if k < a then tq k else tq' (k - a)) (a + c) := by
  unfold tblks
  rw [rng_app, show 9 * a + 9 * c = 9 * (a + c) by omega]
  refine map_cg (fun x hx => ?_)
  dsimp only
  by_cases h : x < 9 * a
  · rw [if_pos h, if_pos (show x / 9 < a by omega)]
  · rw [if_neg h, if_neg (show ¬ x / 9 < a by omega), show (x - 9 * a) / 9 = x / 9 - a by omega, show (x - 9 * a) % 9 = x % 9 by omega]
theorem tblk_1 {cy : Nat → ClassId} {q : Nat → Nat} : tblk cy q = tblks cy (fun _ => q) 1 := by
  unfold tblk tblks
  refine map_cg (fun x hx => ?_)
  rw [show x % 9 = x by omega]
theorem tblks_s {cy : Nat → ClassId} {tq : Nat → Nat → Nat} {q : Nat → Nat} {i : Nat} : tblks cy tq i ++ tblk cy q = tblks cy (fun k => if k < i then tq k else q) (i + 1) := by
  rw [tblk_1, tblks_app]
theorem rblks_s {cy : Nat → ClassId} {tq : Nat → Nat → Nat} {q : Nat → Nat} {i : Nat} : rblks cy tq i ++ rblk cy q = rblks cy (fun k => if k < i then tq k else q) (i + 1) := by
  unfold rblks rblk
  rw [rng_app, show 2 * i + 2 = 2 * (i + 1) by omega]
  refine map_cg (fun x hx => ?_)
  dsimp only
  by_cases h : x < 2 * i
  · rw [if_pos h, if_pos (show x / 2 < i by omega)]
  · rw [if_neg h, if_neg (show ¬ x / 2 < i by omega), show x - 2 * i = x % 2 by omega]
def rfs (tq : Nat → Nat → Nat) (n : Nat) : Nat → Option Nat := fun j => if j < n then some (tq j 0) else none
theorem rfs_s {tq : Nat → Nat → Nat} {q : Nat → Nat} {i v : Nat} (h : q 0 = v) : va_up (rfs tq i) i (some v) = rfs (fun k => if k < i then tq k else q) (i + 1) := by
  funext j
  unfold va_up rfs
  dsimp only
  by_cases h1 : j = i
  · subst h1
    rw [if_pos rfl, if_pos (by omega), if_neg (by omega), h]
  · rw [if_neg h1]
    by_cases h2 : j < i
    · rw [if_pos h2, if_pos (by omega), if_pos h2]
    · rw [if_neg h2, if_neg (by omega)]
theorem hd_app {ws w : va_W} {x : Nat × va_E} {t : va_W} (h : w = x :: t) : (ws ++ w)[ws.length]? = some x := by
  rw [List.getElem?_append_right (Nat.le_refl _), Nat.sub_self, h]; rfl
theorem tblk_hd {cy : Nat → ClassId} {q : Nat → Nat} : tblk cy q = (q 0, tent cy q 0) :: (tblk cy q).tail := rfl
theorem rblk_hd {cy : Nat → ClassId} {q : Nat → Nat} : rblk cy q = (q 0, rent cy q 0) :: (rblk cy q).tail := rfl
def fd0 : List Value := [.null, .int 0, .int 0]
theorem fd0_ok : ∀ j, j < 3 → defaultValue (tyX0 j) = vp_V fd0 j := by
  intro j hj
  rcases (show j = 0 ∨ j = 1 ∨ j = 2 by omega) with rfl | rfl | rfl <;> rfl
def fd1 : List Value := [.null, .int 0, .int 0, .int 0, .int 0, .int 0, .int 0, .int 0]
theorem fd1_ok : ∀ j, j < 8 → defaultValue (tyX1 j) = vp_V fd1 j := by
  intro j hj
  rcases (show j = 0 ∨ j = 1 ∨ j = 2 ∨ j = 3 ∨ j = 4 ∨ j = 5 ∨ j = 6 ∨ j = 7 by omega) with rfl | rfl | rfl | rfl | rfl | rfl | rfl | rfl <;> rfl
def fd2 : List Value := [.null, .int 0, .int 0, .int 0]
theorem fd2_ok : ∀ j, j < 4 → defaultValue (tyX2 j) = vp_V fd2 j := by
  intro j hj
  rcases (show j = 0 ∨ j = 1 ∨ j = 2 ∨ j = 3 by omega) with rfl | rfl | rfl | rfl <;> rfl
def fd3 : List Value := [.null, .null, .null, .null, .null, .null, .null, .null, .int 0, .int 0, .int 0, .int 0, .int 0, .int 0, .int 0]
theorem fd3_ok : ∀ j, j < 15 → defaultValue (tyX3 j) = vp_V fd3 j := by
  intro j hj
  rcases (show j = 0 ∨ j = 1 ∨ j = 2 ∨ j = 3 ∨ j = 4 ∨ j = 5 ∨ j = 6 ∨ j = 7 ∨ j = 8 ∨ j = 9 ∨ j = 10 ∨ j = 11 ∨ j = 12 ∨ j = 13 ∨ j = 14 by omega) with rfl | rfl | rfl | rfl | rfl | rfl | rfl | rfl | rfl | rfl | rfl | rfl | rfl | rfl | rfl <;> rfl
def fd4 : List Value := [.null, .null, .null, .null, .null, .null, .null, .int 0, .int 0, .int 0]
theorem fd4_ok : ∀ j, j < 10 → defaultValue (tyX4 j) = vp_V fd4 j := by
  intro j hj
  rcases (show j = 0 ∨ j = 1 ∨ j = 2 ∨ j = 3 ∨ j = 4 ∨ j = 5 ∨ j = 6 ∨ j = 7 ∨ j = 8 ∨ j = 9 by omega) with rfl | rfl | rfl | rfl | rfl | rfl | rfl | rfl | rfl | rfl <;> rfl
def fd5 : List Value := [.null, .null, .null, .int 0, .int 0, .null, .int 0, .null, .null, .int 0, .int 0, .int 0, .int 0, .int 0, .int 0, .int 0, .null, .int 0, .null, .int 0, .null, .null, .null, .null, .int 0]
theorem fd5_ok : ∀ j, j < 25 → defaultValue (tyX5 j) = vp_V fd5 j := by
  intro j hj
  rcases (show j = 0 ∨ j = 1 ∨ j = 2 ∨ j = 3 ∨ j = 4 ∨ j = 5 ∨ j = 6 ∨ j = 7 ∨ j = 8 ∨ j = 9 ∨ j = 10 ∨ j = 11 ∨ j = 12 ∨ j = 13 ∨ j = 14 ∨ j = 15 ∨ j = 16 ∨ j = 17 ∨ j = 18 ∨ j = 19 ∨ j = 20 ∨ j = 21 ∨ j = 22 ∨ j = 23 ∨ j = 24 by omega) with rfl | rfl | rfl | rfl | rfl | rfl | rfl | rfl | rfl | rfl | rfl | rfl | rfl | rfl | rfl | rfl | rfl | rfl | rfl | rfl | rfl | rfl | rfl | rfl | rfl <;> rfl
theorem FF_X2_0 : fldF RX2 9 2 0 := ⟨_, _, _, .array .int, rfl, by decide, gt_tb 25 (by decide +kernel) rfl, rfl, rfl, by decide +kernel, fun _ => rfl, fun _ => rfl⟩
theorem FF_X1_0 : fldF RX1 9 1 0 := ⟨_, _, _, .array .int, rfl, by decide, gt_tb 123 (by decide +kernel) rfl, rfl, rfl, by decide +kernel, fun _ => rfl, fun _ => rfl⟩
theorem FF_X3_0 : fldF RX3 9 3 0 := ⟨_, _, _, .array .int, rfl, by decide, gt_tb 50 (by decide +kernel) rfl, rfl, rfl, by decide +kernel, fun _ => rfl, fun _ => rfl⟩
theorem FF_X3_1 : fldF RX3 15 3 1 := ⟨_, _, _, .array .int, rfl, by decide, gt_tb 53 (by decide +kernel) rfl, rfl, rfl, by decide +kernel, fun _ => rfl, fun _ => rfl⟩
theorem FF_X3_2 : fldF RX3 18 3 2 := ⟨_, _, _, .array .int, rfl, by decide, gt_tb 56 (by decide +kernel) rfl, rfl, rfl, by decide +kernel, fun _ => rfl, fun _ => rfl⟩
theorem FF_X3_3 : fldF RX3 21 3 3 := ⟨_, _, _, .array .int, rfl, by decide, gt_tb 59 (by decide +kernel) rfl, rfl, rfl, by decide +kernel, fun _ => rfl, fun _ => rfl⟩
theorem FF_X3_4 : fldF RX3 24 3 4 := ⟨_, _, _, .array .int, rfl, by decide, gt_tb 62 (by decide +kernel) rfl, rfl, rfl, by decide +kernel, fun _ => rfl, fun _ => rfl⟩
theorem FF_X3_5 : fldF RX3 27 3 5 := ⟨_, _, _, .array .int, rfl, by decide, gt_tb 65 (by decide +kernel) rfl, rfl, rfl, by decide +kernel, fun _ => rfl, fun _ => rfl⟩
theorem FF_X3_6 : fldF RX3 30 3 6 := ⟨_, _, _, .array .int, rfl, by decide, gt_tb 68 (by decide +kernel) rfl, rfl, rfl, by decide +kernel, fun _ => rfl, fun _ => rfl⟩
theorem FF_X3_7 : fldF RX3 33 3 7 := ⟨_, _, _, .array .int, rfl, by decide, gt_tb 69 (by decide +kernel) rfl, rfl, rfl, by decide +kernel, fun _ => rfl, fun _ => rfl⟩
theorem FF_X0_0 : fldF RX0 11 0 0 := ⟨_, _, _, .array (.object "LeftAlone$Town"), rfl, by decide, gt_tb 159 (by decide +kernel) rfl, rfl, rfl, by decide +kernel, fun _ => rfl, fun _ => rfl⟩
theorem FF_X4_0 : fldF RX4 11 4 0 := ⟨_, _, _, .array (.object "LeftAlone$Row"), rfl, by decide, gt_tb 170 (by decide +kernel) rfl, rfl, rfl, by decide +kernel, fun _ => rfl, fun _ => rfl⟩
theorem FF_X4_1 : fldF RX4 26 4 1 := ⟨_, _, _, .object "LeftAlone$Reader", rfl, by decide, gt_tb 171 (by decide +kernel) rfl, rfl, rfl, by decide +kernel, fun _ => rfl, fun _ => rfl⟩
theorem FF_X4_2 : fldF RX4 33 4 2 := ⟨_, _, _, .object "LeftAlone$Acts", rfl, by decide, gt_tb 172 (by decide +kernel) rfl, rfl, rfl, by decide +kernel, fun _ => rfl, fun _ => rfl⟩
theorem FF_X4_3 : fldF RX4 37 4 3 := ⟨_, _, _, .object "LeftAlone$Town", rfl, by decide, gt_tb 173 (by decide +kernel) rfl, rfl, rfl, by decide +kernel, fun _ => rfl, fun _ => rfl⟩
theorem FF_X4_4 : fldF RX4 41 4 4 := ⟨_, _, _, .object "LeftAlone$Town", rfl, by decide, gt_tb 174 (by decide +kernel) rfl, rfl, rfl, by decide +kernel, fun _ => rfl, fun _ => rfl⟩
theorem FF_X4_5 : fldF RX4 18 4 5 := ⟨_, _, _, .array (.object "LeftAlone$Town"), rfl, by decide, gt_tb 175 (by decide +kernel) rfl, rfl, rfl, by decide +kernel, fun _ => rfl, fun _ => rfl⟩
theorem FF_X4_6 : fldF RX4 44 4 6 := ⟨_, _, _, .array .int, rfl, by decide, gt_tb 176 (by decide +kernel) rfl, rfl, rfl, by decide +kernel, fun _ => rfl, fun _ => rfl⟩
theorem FF_X5_0 : fldF RX5 7 5 0 := ⟨_, _, _, .array .int, rfl, by decide, gt_tb 653 (by decide +kernel) rfl, rfl, rfl, by decide +kernel, fun _ => rfl, fun _ => rfl⟩
theorem FF_X5_1 : fldF RX5 13 5 1 := ⟨_, _, _, .array .int, rfl, by decide, gt_tb 654 (by decide +kernel) rfl, rfl, rfl, by decide +kernel, fun _ => rfl, fun _ => rfl⟩
theorem FF_X5_2 : fldF RX5 16 5 2 := ⟨_, _, _, .array .int, rfl, by decide, gt_tb 655 (by decide +kernel) rfl, rfl, rfl, by decide +kernel, fun _ => rfl, fun _ => rfl⟩
theorem FF_X5_5 : fldF RX5 19 5 5 := ⟨_, _, _, .array .int, rfl, by decide, gt_tb 658 (by decide +kernel) rfl, rfl, rfl, by decide +kernel, fun _ => rfl, fun _ => rfl⟩
theorem FF_X5_7 : fldF RX5 22 5 7 := ⟨_, _, _, .array .int, rfl, by decide, gt_tb 660 (by decide +kernel) rfl, rfl, rfl, by decide +kernel, fun _ => rfl, fun _ => rfl⟩
theorem FF_X5_8 : fldF RX5 25 5 8 := ⟨_, _, _, .array .int, rfl, by decide, gt_tb 661 (by decide +kernel) rfl, rfl, rfl, by decide +kernel, fun _ => rfl, fun _ => rfl⟩
theorem FF_X5_16 : fldF RX5 28 5 16 := ⟨_, _, _, .array .int, rfl, by decide, gt_tb 669 (by decide +kernel) rfl, rfl, rfl, by decide +kernel, fun _ => rfl, fun _ => rfl⟩
theorem FF_X5_18 : fldF RX5 31 5 18 := ⟨_, _, _, .array .int, rfl, by decide, gt_tb 671 (by decide +kernel) rfl, rfl, rfl, by decide +kernel, fun _ => rfl, fun _ => rfl⟩
theorem FF_X5_20 : fldF RX5 34 5 20 := ⟨_, _, _, .array .int, rfl, by decide, gt_tb 673 (by decide +kernel) rfl, rfl, rfl, by decide +kernel, fun _ => rfl, fun _ => rfl⟩
theorem FF_X5_21 : fldF RX5 37 5 21 := ⟨_, _, _, .array .boolean, rfl, by decide, gt_tb 674 (by decide +kernel) rfl, rfl, rfl, by decide +kernel, fun _ => rfl, fun _ => rfl⟩
theorem FF_X5_22 : fldF RX5 41 5 22 := ⟨_, _, _, .array .int, rfl, by decide, gt_tb 675 (by decide +kernel) rfl, rfl, rfl, by decide +kernel, fun _ => rfl, fun _ => rfl⟩
theorem FF_X5_23 : fldF RX5 44 5 23 := ⟨_, _, _, .array .int, rfl, by decide, gt_tb 676 (by decide +kernel) rfl, rfl, rfl, by decide +kernel, fun _ => rfl, fun _ => rfl⟩
section CS
variable {l : Launch} {D : va_G} {cy : Nat → ClassId}
set_option maxRecDepth 100000 in
set_option maxHeartbeats 4000000 in
theorem c_X2_init : CtN l yX2_init cX2_init 1 1 1 40 D cy 2 fd2 (fun h0 w => ∃ q : Nat → Nat, q 0 = h0 ∧ w = rblk cy q) := by
  refine CtN_of (L := fun h0 => [some (.ref h0)]) rfl rfl (by omega) (fun _ => rfl) ?_
  intro M h0 A hl hM cn hi
  refine N_aload_n cn 0 dX2_init_0 rfl rfl ?_
  refine N_obj cn dX2_init_1 (gt_tb 24 (by decide +kernel) rfl) (by omega) ?_
  refine N_aload_n cn 0 dX2_init_4 rfl rfl ?_
  refine N_bipush cn dX2_init_5 (by decide : _ = (40 : Int32)) ?_
  refine N_newI (N := 40) cn dX2_init_7 (by decide) (by decide) (by decide) (by omega) (by omega) (fun q1 => ?_)
  refine N_putF cn hi dX2_init_9 FF_X2_0 (Nat.le_of_ble_eq_true rfl) ?_
  exact N_vret cn hi dX2_init_12 (by rw [hM]; decide) (by rw [hM]; decide) ⟨fun j => [h0, q1].getD j 0, rfl, rfl⟩
set_option maxRecDepth 100000 in
set_option maxHeartbeats 4000000 in
theorem c_X1_init : CtN l yX1_init cX1_init 1 1 1 120 D cy 1 fd1 (fun h0 w => ∃ q1 : Nat, w = [(h0, .inr (1, [.ref q1, .int 0, .int 0, .int 0, .int 0, .int 0, .int 0, .int 0])), (q1, .inl (cy 6, 120, .inl (fun _ => 0)))]) := by
  refine CtN_of (L := fun h0 => [some (.ref h0)]) rfl rfl (by omega) (fun _ => rfl) ?_
  intro M h0 A hl hM cn hi
  refine N_aload_n cn 0 dX1_init_0 rfl rfl ?_
  refine N_obj cn dX1_init_1 (gt_tb 122 (by decide +kernel) rfl) (by omega) ?_
  refine N_aload_n cn 0 dX1_init_4 rfl rfl ?_
  refine N_bipush cn dX1_init_5 (by decide : _ = (120 : Int32)) ?_
  refine N_newI (N := 120) cn dX1_init_7 (by decide) (by decide) (by decide) (by omega) (by omega) (fun q1 => ?_)
  refine N_putF cn hi dX1_init_9 FF_X1_0 (Nat.le_of_ble_eq_true rfl) ?_
  exact N_vret cn hi dX1_init_12 (by rw [hM]; decide) (by rw [hM]; decide) ⟨q1, rfl⟩
set_option maxRecDepth 100000 in
set_option maxHeartbeats 4000000 in
theorem c_X3_init : CtN l yX3_init cX3_init 1 1 8 69 D cy 3 fd3 (fun h0 w => ∃ q : Nat → Nat, q 0 = h0 ∧ w = tblk cy q) := by
  refine CtN_of (L := fun h0 => [some (.ref h0)]) rfl rfl (by omega) (fun _ => rfl) ?_
  intro M h0 A hl hM cn hi
  refine N_aload_n cn 0 dX3_init_0 rfl rfl ?_
  refine N_obj cn dX3_init_1 (gt_tb 49 (by decide +kernel) rfl) (by omega) ?_
  refine N_aload_n cn 0 dX3_init_4 rfl rfl ?_
  refine N_iconst cn dX3_init_5 (by decide : _ = (5 : Int32)) ?_
  refine N_newI (N := 5) cn dX3_init_6 (by decide) (by decide) (by decide) (by omega) (by omega) (fun q1 => ?_)
  refine N_putF cn hi dX3_init_8 FF_X3_0 (Nat.le_of_ble_eq_true rfl) ?_
  refine N_aload_n cn 0 dX3_init_11 rfl rfl ?_
  refine N_iconst cn dX3_init_12 (by decide : _ = (5 : Int32)) ?_
  refine N_newI (N := 5) cn dX3_init_13 (by decide) (by decide) (by decide) (by omega) (by omega) (fun q2 => ?_)
  refine N_putF cn hi dX3_init_15 FF_X3_1 (Nat.le_of_ble_eq_true rfl) ?_
  refine N_aload_n cn 0 dX3_init_18 rfl rfl ?_
  refine N_bipush cn dX3_init_19 (by decide : _ = (6 : Int32)) ?_
  refine N_newI (N := 6) cn dX3_init_21 (by decide) (by decide) (by decide) (by omega) (by omega) (fun q3 => ?_)
  refine N_putF cn hi dX3_init_23 FF_X3_2 (Nat.le_of_ble_eq_true rfl) ?_
  refine N_aload_n cn 0 dX3_init_26 rfl rfl ?_
  refine N_bipush cn dX3_init_27 (by decide : _ = (6 : Int32)) ?_
  refine N_newI (N := 6) cn dX3_init_29 (by decide) (by decide) (by decide) (by omega) (by omega) (fun q4 => ?_)
  refine N_putF cn hi dX3_init_31 FF_X3_3 (Nat.le_of_ble_eq_true rfl) ?_
  refine N_aload_n cn 0 dX3_init_34 rfl rfl ?_
  refine N_bipush cn dX3_init_35 (by decide : _ = (6 : Int32)) ?_
  refine N_newI (N := 6) cn dX3_init_37 (by decide) (by decide) (by decide) (by omega) (by omega) (fun q5 => ?_)
  refine N_putF cn hi dX3_init_39 FF_X3_4 (Nat.le_of_ble_eq_true rfl) ?_
  refine N_aload_n cn 0 dX3_init_42 rfl rfl ?_
  refine N_bipush cn dX3_init_43 (by decide : _ = (6 : Int32)) ?_
  refine N_newI (N := 6) cn dX3_init_45 (by decide) (by decide) (by decide) (by omega) (by omega) (fun q6 => ?_)
  refine N_putF cn hi dX3_init_47 FF_X3_5 (Nat.le_of_ble_eq_true rfl) ?_
  refine N_aload_n cn 0 dX3_init_50 rfl rfl ?_
  refine N_bipush cn dX3_init_51 (by decide : _ = (30 : Int32)) ?_
  refine N_newI (N := 30) cn dX3_init_53 (by decide) (by decide) (by decide) (by omega) (by omega) (fun q7 => ?_)
  refine N_putF cn hi dX3_init_55 FF_X3_6 (Nat.le_of_ble_eq_true rfl) ?_
  refine N_aload_n cn 0 dX3_init_58 rfl rfl ?_
  refine N_iconst cn dX3_init_59 (by decide : _ = (5 : Int32)) ?_
  refine N_newI (N := 5) cn dX3_init_60 (by decide) (by decide) (by decide) (by omega) (by omega) (fun q8 => ?_)
  refine N_putF cn hi dX3_init_62 FF_X3_7 (Nat.le_of_ble_eq_true rfl) ?_
  exact N_vret cn hi dX3_init_65 (by rw [hM]; decide) (by rw [hM]; decide) ⟨fun j => [h0, q1, q2, q3, q4, q5, q6, q7, q8].getD j 0, rfl, rfl⟩
theorem N_eqw {M : MC} {A : Nat → Prop} {ws ws' : va_W} {k n : Nat} {Q : State → Prop} {pc : Nat} {L : List (Option Value)} {st : List Value} (h : ws = ws') (kk : JN M D A ws' k n Q pc L st) : JN M D A ws k n Q pc L st := by rw [h]; exact kk
theorem rfs_0 {tq : Nat → Nat → Nat} : (fun _ => none) = rfs tq 0 := by funext j; unfold rfs; rw [if_neg (by omega)]
def BX0 (cy : Nat → ClassId) (h0 : Nat) (w : va_W) : Prop := ∃ (qA : Nat) (tq : Nat → Nat → Nat), w = (h0, .inr (0, [.ref qA, .int 0, .int 0])) :: (qA, .inl (cy 9, 24, .inr (.inr (.inr (.inr (rfs tq 24)))))) :: tblks cy tq 24
set_option maxRecDepth 100000 in
set_option maxHeartbeats 4000000 in
theorem c_X0_init : CtN l yX0_init cX0_init 2 2 217 2040 D cy 0 fd0 (BX0 cy) := by
  refine CtN_of (L := fun h0 => [some (.ref h0), none]) rfl rfl (by omega) (fun _ => rfl) ?_
  intro M h0 A hl hM cn hi
  refine N_aload_n cn 0 dX0_init_0 rfl rfl ?_
  refine N_obj cn dX0_init_1 (gt_tb 156 (by decide +kernel) rfl) (by omega) ?_
  refine N_aload_n cn 0 dX0_init_4 rfl rfl ?_
  refine N_bipush cn dX0_init_5 (by decide : _ = (24 : Int32)) ?_
  refine N_anewT (N := 24) cn dX0_init_7 (gt_tb 157 (by decide +kernel) rfl) (by decide) (by decide) (by decide) (by omega) (by omega) (fun q => ?_)
  refine N_putF cn hi dX0_init_10 FF_X0_0 (Nat.le_of_ble_eq_true rfl) ?_
  refine N_iconst cn dX0_init_13 (by decide : _ = nI 0) ?_
  refine N_istore_n (L' := [some (.ref h0), some (.int (nI 0))]) cn 1 dX0_init_14 rfl (by omega) rfl rfl ?_
  have lpE : ∀ tq : Nat → Nat → Nat, JN M D A ((h0, .inr (0, [.ref q, .int 0, .int 0])) :: (q, .inl (cy 9, 24, .inr (.inr (.inr (.inr (rfs tq 24)))))) :: ([] ++ tblks cy tq 24)) (1 + 9 * 24) (24 + 84 * 24) (QN M D A (BX0 cy h0)) 40 [some (.ref h0), some (.int (nI 24))] [] := fun tq => N_vret cn hi dX0_init_40 (by rw [hM]; decide) (by rw [hM]; decide) ⟨q, tq, rfl⟩
  have lp : ∀ (r i : Nat) (tq : Nat → Nat → Nat), i + r = 24 → JN M D A ((h0, .inr (0, [.ref q, .int 0, .int 0])) :: (q, .inl (cy 9, 24, .inr (.inr (.inr (.inr (rfs tq i)))))) :: ([] ++ tblks cy tq i)) (1 + 9 * i) (24 + 84 * i) (QN M D A (BX0 cy h0)) 15 [some (.ref h0), some (.int (nI i))] [] := by
    intro r
    induction r with
    | zero =>
      intro i tq hi'
      obtain rfl : i = 24 := by omega
      refine N_iload_n cn 1 dX0_init_15 rfl rfl ?_
      refine N_bipush cn dX0_init_16 (by decide : _ = nI 24) ?_
      refine N_icmp_ge (tgt := 40) cn dX0_init_18 (by decide) (fun _ => ?_) (fun z => absurd (Int32.le_refl _) z)
      exact lpE tq
    | succ r ih =>
      intro i tq hi'
      refine N_iload_n cn 1 dX0_init_15 rfl rfl ?_
      refine N_bipush cn dX0_init_16 (by decide : _ = nI 24) ?_
      refine N_icmp_ge (tgt := 40) cn dX0_init_18 (by decide) (fun z => absurd z (by rw [nI_le' (by omega) (by omega)]; omega)) (fun _ => ?_)
      refine N_aload_n cn 0 dX0_init_21 rfl rfl ?_
      refine N_getR cn dX0_init_22 F_X0_11 rfl ?_
      refine N_iload_n cn 1 dX0_init_25 rfl rfl ?_
      refine N_make (rest := [.int (nI i), .ref q]) cn (ci := 3) (T := TX3) (y := yX3_init) (c2 := cX3_init) (n2 := 1) rfl tyX3_ok fd3_ok dX0_init_26 dX0_init_29 dX0_init_30 (gt_tb 157 (by decide +kernel) rfl) (gt_tb 45 (by decide +kernel) rfl) (gt_tb 3 (by decide +kernel) rfl) (gt_tb 48 (by decide +kernel) rfl) (gt_tb 47 (by decide +kernel) rfl) rfl rfl (by decide) (by decide +kernel) (Or.inl (List.mem_of_getElem? (i := 3) rfl)) (by rw [hl]; exact c_X3_init) (by omega) (by omega) (Nat.le_of_ble_eq_true rfl) (by omega) (by omega) ?_
      rintro v w ⟨qn, rfl, rfl⟩
      have e : (((((h0, .inr (0, [.ref q, .int 0, .int 0])) :: (q, .inl (cy 9, 24, .inr (.inr (.inr (.inr (rfs tq i)))))) :: ([] ++ tblks cy tq i)) : va_W) ++ tblk cy qn).set 1 (q, .inl (cy 9, 24, .inr (.inr (.inr (.inr (va_up (rfs tq i) (nI i).toNatClampNeg (some (qn 0))))))))) = (h0, .inr (0, [.ref q, .int 0, .int 0])) :: (q, .inl (cy 9, 24, .inr (.inr (.inr (.inr (rfs (fun k => if k < i then tq k else qn) (i + 1))))))) :: ([] ++ tblks cy (fun k => if k < i then tq k else qn) (i + 1)) := by
        rw [nI_cl (by omega), rfs_s rfl, ← tblks_s]
        simp only [List.cons_append, List.append_assoc, List.set_cons_succ, List.set_cons_zero]
      refine N_astT (q0 := 1) (qk := (((h0, .inr (0, [.ref q, .int 0, .int 0])) :: (q, .inl (cy 9, 24, .inr (.inr (.inr (.inr (rfs tq i)))))) :: ([] ++ tblks cy tq i)) : va_W).length) cn dX0_init_33 rfl (hd_app tblk_hd) (vpN (by omega) (by omega)) e ?_
      refine N_iinc (L' := [some (.ref h0), some (.int (nI (i + 1)))]) cn dX0_init_34 rfl (by decide : _ = nI 1) (by omega) rfl (by rw [nI_add]; rfl) ?_
      refine N_goto (tgt := 15) cn dX0_init_37 (by decide) ?_
      exact N_widen (by omega) (by omega) (ih (i + 1) _ (by omega))
  exact N_eqw (by rw [rfs_0 (tq := fun _ _ => 0)]; rfl) (lp 24 0 (fun _ _ => 0) rfl)
def sz0 (n : Nat) : Nat → Int32 := fun j => if j < n then -1 else 0
theorem sz0_s {i : Nat} : upd (sz0 i) i (-1) = sz0 (i + 1) := by
  funext j
  by_cases h : j = i
  · subst h; rw [upd_s]; unfold sz0; rw [if_pos (by omega)]
  · rw [upd_n h]; unfold sz0
    by_cases h2 : j < i
    · rw [if_pos h2, if_pos (by omega)]
    · rw [if_neg h2, if_neg (by omega)]
theorem sz0_0 : (fun _ => 0) = sz0 0 := by funext j; unfold sz0; rw [if_neg (by omega)]
def mln (j : Nat) : Nat := [0, 8, 8, 320, 70, 40, 120, 70, 1680, 70, 2, 140, 16].getD j 0
def ment (cy : Nat → ClassId) (q : Nat → Nat) (j : Nat) : va_E := if j = 0 then .inr (5, [.ref (q 1), .ref (q 2), .ref (q 3), .int 0, .int 0, .ref (q 4), .int 0, .ref (q 5), .ref (q 6), .int 0, .int 0, .int 0, .int 0, .int 0, .int 0, .int 0, .ref (q 7), .int 0, .ref (q 8), .int 0, .ref (q 9), .ref (q 10), .ref (q 11), .ref (q 12), .int 0]) else if j = 10 then .inl (cy 7, 2, .inl (fun _ => 0)) else if j = 2 then .inl (cy 6, 8, .inl (sz0 8)) else .inl (cy 6, mln j, .inl (fun _ => 0))
def mblk (cy : Nat → ClassId) (q : Nat → Nat) : va_W := (List.range 13).map (fun j => (q j, ment cy q j))
def BX5 (cy : Nat → ClassId) (h0 : Nat) (w : va_W) : Prop := ∃ q : Nat → Nat, q 0 = h0 ∧ w = mblk cy q
set_option maxRecDepth 100000 in
set_option maxHeartbeats 4000000 in
theorem c_X5_init : CtN l yX5_init cX5_init 2 2 12 2544 D cy 5 fd5 (BX5 cy) := by
  refine CtN_of (L := fun h0 => [some (.ref h0), none]) rfl rfl (by omega) (fun _ => rfl) ?_
  intro M h0 A hl hM cn hi
  refine N_aload_n cn 0 dX5_init_0 rfl rfl ?_
  refine N_obj cn dX5_init_1 (gt_tb 652 (by decide +kernel) rfl) (by omega) ?_
  refine N_aload_n cn 0 dX5_init_4 rfl rfl ?_
  refine N_bipush cn dX5_init_5 (by decide : _ = (8 : Int32)) ?_
  refine N_newI (N := 8) cn dX5_init_7 (by decide) (by decide) (by decide) (by omega) (by omega) (fun q1 => ?_)
  refine N_putF cn hi dX5_init_9 FF_X5_0 (Nat.le_of_ble_eq_true rfl) ?_
  refine N_aload_n cn 0 dX5_init_12 rfl rfl ?_
  refine N_bipush cn dX5_init_13 (by decide : _ = (8 : Int32)) ?_
  refine N_newI (N := 8) cn dX5_init_15 (by decide) (by decide) (by decide) (by omega) (by omega) (fun q2 => ?_)
  refine N_putF cn hi dX5_init_17 FF_X5_1 (Nat.le_of_ble_eq_true rfl) ?_
  refine N_aload_n cn 0 dX5_init_20 rfl rfl ?_
  refine N_sipush cn dX5_init_21 (by decide : _ = (320 : Int32)) ?_
  refine N_newI (N := 320) cn dX5_init_24 (by decide) (by decide) (by decide) (by omega) (by omega) (fun q3 => ?_)
  refine N_putF cn hi dX5_init_26 FF_X5_2 (Nat.le_of_ble_eq_true rfl) ?_
  refine N_aload_n cn 0 dX5_init_29 rfl rfl ?_
  refine N_bipush cn dX5_init_30 (by decide : _ = (70 : Int32)) ?_
  refine N_newI (N := 70) cn dX5_init_32 (by decide) (by decide) (by decide) (by omega) (by omega) (fun q4 => ?_)
  refine N_putF cn hi dX5_init_34 FF_X5_5 (Nat.le_of_ble_eq_true rfl) ?_
  refine N_aload_n cn 0 dX5_init_37 rfl rfl ?_
  refine N_bipush cn dX5_init_38 (by decide : _ = (40 : Int32)) ?_
  refine N_newI (N := 40) cn dX5_init_40 (by decide) (by decide) (by decide) (by omega) (by omega) (fun q5 => ?_)
  refine N_putF cn hi dX5_init_42 FF_X5_7 (Nat.le_of_ble_eq_true rfl) ?_
  refine N_aload_n cn 0 dX5_init_45 rfl rfl ?_
  refine N_bipush cn dX5_init_46 (by decide : _ = (120 : Int32)) ?_
  refine N_newI (N := 120) cn dX5_init_48 (by decide) (by decide) (by decide) (by omega) (by omega) (fun q6 => ?_)
  refine N_putF cn hi dX5_init_50 FF_X5_8 (Nat.le_of_ble_eq_true rfl) ?_
  refine N_aload_n cn 0 dX5_init_53 rfl rfl ?_
  refine N_bipush cn dX5_init_54 (by decide : _ = (70 : Int32)) ?_
  refine N_newI (N := 70) cn dX5_init_56 (by decide) (by decide) (by decide) (by omega) (by omega) (fun q7 => ?_)
  refine N_putF cn hi dX5_init_58 FF_X5_16 (Nat.le_of_ble_eq_true rfl) ?_
  refine N_aload_n cn 0 dX5_init_61 rfl rfl ?_
  refine N_sipush cn dX5_init_62 (by decide : _ = (1680 : Int32)) ?_
  refine N_newI (N := 1680) cn dX5_init_65 (by decide) (by decide) (by decide) (by omega) (by omega) (fun q8 => ?_)
  refine N_putF cn hi dX5_init_67 FF_X5_18 (Nat.le_of_ble_eq_true rfl) ?_
  refine N_aload_n cn 0 dX5_init_70 rfl rfl ?_
  refine N_bipush cn dX5_init_71 (by decide : _ = (70 : Int32)) ?_
  refine N_newI (N := 70) cn dX5_init_73 (by decide) (by decide) (by decide) (by omega) (by omega) (fun q9 => ?_)
  refine N_putF cn hi dX5_init_75 FF_X5_20 (Nat.le_of_ble_eq_true rfl) ?_
  refine N_aload_n cn 0 dX5_init_78 rfl rfl ?_
  refine N_iconst cn dX5_init_79 (by decide : _ = (2 : Int32)) ?_
  refine N_newZ (N := 2) cn dX5_init_80 (by decide) (by decide) (by decide) (by omega) (by omega) (fun q10 => ?_)
  refine N_putF cn hi dX5_init_82 FF_X5_21 (Nat.le_of_ble_eq_true rfl) ?_
  refine N_aload_n cn 0 dX5_init_85 rfl rfl ?_
  refine N_sipush cn dX5_init_86 (by decide : _ = (140 : Int32)) ?_
  refine N_newI (N := 140) cn dX5_init_89 (by decide) (by decide) (by decide) (by omega) (by omega) (fun q11 => ?_)
  refine N_putF cn hi dX5_init_91 FF_X5_22 (Nat.le_of_ble_eq_true rfl) ?_
  refine N_aload_n cn 0 dX5_init_94 rfl rfl ?_
  refine N_bipush cn dX5_init_95 (by decide : _ = (16 : Int32)) ?_
  refine N_newI (N := 16) cn dX5_init_97 (by decide) (by decide) (by decide) (by omega) (by omega) (fun q12 => ?_)
  refine N_putF cn hi dX5_init_99 FF_X5_23 (Nat.le_of_ble_eq_true rfl) ?_
  refine N_iconst cn dX5_init_102 (by decide : _ = nI 0) ?_
  refine N_istore_n (L' := [some (.ref h0), some (.int (nI 0))]) cn 1 dX5_init_103 rfl (by omega) rfl rfl ?_
  have lp : ∀ r i : Nat, i + r = 8 → JN M D A ((h0, .inr (5, [.ref q1, .ref q2, .ref q3, .int 0, .int 0, .ref q4, .int 0, .ref q5, .ref q6, .int 0, .int 0, .int 0, .int 0, .int 0, .int 0, .int 0, .ref q7, .int 0, .ref q8, .int 0, .ref q9, .ref q10, .ref q11, .ref q12, .int 0])) :: (q1, .inl (cy 6, 8, .inl (fun _ => 0))) :: (q2, .inl (cy 6, 8, .inl (sz0 i))) :: (q3, .inl (cy 6, 320, .inl (fun _ => 0))) :: (q4, .inl (cy 6, 70, .inl (fun _ => 0))) :: (q5, .inl (cy 6, 40, .inl (fun _ => 0))) :: (q6, .inl (cy 6, 120, .inl (fun _ => 0))) :: (q7, .inl (cy 6, 70, .inl (fun _ => 0))) :: (q8, .inl (cy 6, 1680, .inl (fun _ => 0))) :: (q9, .inl (cy 6, 70, .inl (fun _ => 0))) :: (q10, .inl (cy 7, 2, .inl (fun _ => 0))) :: (q11, .inl (cy 6, 140, .inl (fun _ => 0))) :: (q12, .inl (cy 6, 16, .inl (fun _ => 0))) :: []) 12 2544 (QN M D A (BX5 cy h0)) 104 [some (.ref h0), some (.int (nI i))] [] := by
    intro r
    induction r with
    | zero =>
      intro i hi'
      obtain rfl : i = 8 := by omega
      refine N_iload_n cn 1 dX5_init_104 rfl rfl ?_
      refine N_bipush cn dX5_init_105 (by decide : _ = nI 8) ?_
      refine N_icmp_ge (tgt := 123) cn dX5_init_107 (by decide) (fun _ => ?_) (fun z => absurd (Int32.le_refl _) z)
      exact N_vret cn hi dX5_init_123 (by rw [hM]; decide) (by rw [hM]; decide) ⟨fun j => [h0, q1, q2, q3, q4, q5, q6, q7, q8, q9, q10, q11, q12].getD j 0, rfl, rfl⟩
    | succ r ih =>
      intro i hi'
      refine N_iload_n cn 1 dX5_init_104 rfl rfl ?_
      refine N_bipush cn dX5_init_105 (by decide : _ = nI 8) ?_
      refine N_icmp_ge (tgt := 123) cn dX5_init_107 (by decide) (fun z => absurd z (by rw [nI_le' (by omega) (by omega)]; omega)) (fun _ => ?_)
      refine N_aload_n cn 0 dX5_init_110 rfl rfl ?_
      refine N_getR cn dX5_init_111 F_X5_13 rfl ?_
      refine N_iload_n cn 1 dX5_init_114 rfl rfl ?_
      refine N_iconst cn dX5_init_115 (by decide : _ = (-1 : Int32)) ?_
      refine N_iast (q0 := 2) (ws' := (h0, .inr (5, [.ref q1, .ref q2, .ref q3, .int 0, .int 0, .ref q4, .int 0, .ref q5, .ref q6, .int 0, .int 0, .int 0, .int 0, .int 0, .int 0, .int 0, .ref q7, .int 0, .ref q8, .int 0, .ref q9, .ref q10, .ref q11, .ref q12, .int 0])) :: (q1, .inl (cy 6, 8, .inl (fun _ => 0))) :: (q2, .inl (cy 6, 8, .inl (sz0 (i + 1)))) :: (q3, .inl (cy 6, 320, .inl (fun _ => 0))) :: (q4, .inl (cy 6, 70, .inl (fun _ => 0))) :: (q5, .inl (cy 6, 40, .inl (fun _ => 0))) :: (q6, .inl (cy 6, 120, .inl (fun _ => 0))) :: (q7, .inl (cy 6, 70, .inl (fun _ => 0))) :: (q8, .inl (cy 6, 1680, .inl (fun _ => 0))) :: (q9, .inl (cy 6, 70, .inl (fun _ => 0))) :: (q10, .inl (cy 7, 2, .inl (fun _ => 0))) :: (q11, .inl (cy 6, 140, .inl (fun _ => 0))) :: (q12, .inl (cy 6, 16, .inl (fun _ => 0))) :: []) cn dX5_init_116 rfl (vpN (by omega) (by omega)) (by rw [nI_cl (by omega), sz0_s]; rfl) ?_
      refine N_iinc (L' := [some (.ref h0), some (.int (nI (i + 1)))]) cn dX5_init_117 rfl (by decide : _ = nI 1) (by omega) rfl (by rw [nI_add]; rfl) ?_
      refine N_goto (tgt := 104) cn dX5_init_120 (by decide) ?_
      exact ih (i + 1) (by omega)
  refine N_eqw ?_ (lp 8 0 rfl)
  rw [← sz0_0]
  rfl
def la8 (cy : Nat → ClassId) (h0 qR qI qA qa qd qt qb : Nat) (tq rq' : Nat → Nat → Nat) : va_W := [(h0, .inr (4, [.ref qR, .ref qd, .ref qa, .ref (tq 0 0), .ref (tq 1 0), .ref qI, .ref qb, .int 0, .int 0, .int 0])), (qR, .inl (cy 8, 8, .inr (.inr (.inr (.inr (rfs rq' 8)))))), (qI, .inl (cy 9, 2, .inr (.inr (.inr (.inr (rfs (fun k => tq (k + 2)) 2)))))), (qA, .inl (cy 9, 24, .inr (.inr (.inr (.inr (rfs (fun k => tq (k + 4)) 24)))))), (qa, .inr (0, [.ref qA, .int 0, .int 0])), (qd, .inr (1, [.ref qt, .int 0, .int 0, .int 0, .int 0, .int 0, .int 0, .int 0])), (qt, .inl (cy 6, 120, .inl (fun _ => 0))), (qb, .inl (cy 6, 16, .inl (fun _ => 0)))]
def BX4 (cy : Nat → ClassId) (h0 : Nat) (w : va_W) : Prop := ∃ (qR qI qA qa qd qt qb : Nat) (tq rq' : Nat → Nat → Nat), w = tblks cy tq 28 ++ (la8 cy h0 qR qI qA qa qd qt qb tq rq' ++ rblks cy rq' 8)
theorem rfs_c {tq tq' : Nat → Nat → Nat} {n : Nat} (h : ∀ j, j < n → tq j = tq' j) : rfs tq n = rfs tq' n := by
  funext j; unfold rfs
  by_cases q : j < n
  · rw [if_pos q, if_pos q, h j q]
  · rw [if_neg q, if_neg q]
theorem all28 {q0 q1 : Nat → Nat} {tI tA : Nat → Nat → Nat} : tblk cy q0 ++ (tblk cy q1 ++ (tblks cy tI 2 ++ tblks cy tA 24)) = tblks cy (fun k => if k < 1 then q0 else if k < 2 then q1 else if k < 4 then tI (k - 2) else tA (k - 4)) 28 := by
  rw [tblk_1, tblk_1, tblks_app, tblks_app, tblks_app]
  congr 1
  funext k
  by_cases h1 : k < 1
  · rw [if_pos h1, if_pos h1]
  · rw [if_neg h1, if_neg h1]
    by_cases h2 : k < 2
    · rw [if_pos h2, if_pos (by omega)]
    · rw [if_neg h2, if_neg (by omega)]
      by_cases h3 : k < 4
      · rw [if_pos h3, if_pos (by omega), show k - 1 - 1 = k - 2 by omega]
      · rw [if_neg h3, if_neg (by omega), show k - 1 - 1 - 2 = k - 4 by omega]
set_option maxRecDepth 100000 in
set_option maxHeartbeats 4000000 in
theorem c_X4_init : CtN l yX4_init cX4_init 2 3 275 2885 D cy 4 fd4 (BX4 cy) := by
  refine CtN_of (L := fun h0 => [some (.ref h0), none]) rfl rfl (by omega) (fun _ => rfl) ?_
  intro M h0 A hl hM cn hi
  refine N_aload_n cn 0 dX4_init_0 rfl rfl ?_
  refine N_obj cn dX4_init_1 (gt_tb 15 (by decide +kernel) rfl) (by omega) ?_
  have memo : True := trivial
  refine N_aload_n cn 0 dX4_init_4 rfl rfl ?_
  refine N_bipush cn dX4_init_5 (by decide : _ = (8 : Int32)) ?_
  refine N_anewR (N := 8) cn dX4_init_7 (gt_tb 18 (by decide +kernel) rfl) (by decide) (by decide) (by decide) (by omega) (by omega) (fun qR => ?_)
  refine N_putF cn hi dX4_init_10 FF_X4_0 (Nat.le_of_ble_eq_true rfl) ?_
  refine N_iconst cn dX4_init_13 (by decide : _ = nI 0) ?_
  refine N_istore_n (L' := [some (.ref h0), some (.int (nI 0))]) cn 1 dX4_init_14 rfl (by omega) rfl rfl ?_
  have lrE : ∀ rq' : Nat → Nat → Nat, JN M D A ((h0, .inr (4, [.ref qR, .null, .null, .null, .null, .null, .null, .int 0, .int 0, .int 0])) :: (qR, .inl (cy 8, 8, .inr (.inr (.inr (.inr (rfs rq' 8)))))) :: ([] ++ rblks cy rq' 8)) (1 + 2 * 8) (8 + 44 * 8) (QN M D A (BX4 cy h0)) 40 [some (.ref h0), some (.int (nI 8))] [] := by
    intro rq'
    refine N_aload_n cn 0 dX4_init_40 rfl rfl ?_
    refine N_iconst cn dX4_init_41 (by decide : _ = (2 : Int32)) ?_
    refine N_anewT (N := 2) cn dX4_init_42 (gt_tb 43 (by decide +kernel) rfl) (by decide) (by decide) (by decide) (by omega) (by omega) (fun qI => ?_)
    refine N_putF cn hi dX4_init_45 FF_X4_5 (Nat.le_of_ble_eq_true rfl) ?_
    refine N_iconst cn dX4_init_48 (by decide : _ = nI 0) ?_
    refine N_istore_n (L' := [some (.ref h0), some (.int (nI 0))]) cn 1 dX4_init_49 rfl (by omega) rfl rfl ?_
    obtain ⟨B0, hB0⟩ : ∃ B0 : va_W, B0 = ((qR, .inl (cy 8, 8, .inr (.inr (.inr (.inr (rfs rq' 8)))))) :: rblks cy rq' 8) := ⟨_, rfl⟩
    have liE : ∀ tI : Nat → Nat → Nat, JN M D A ((h0, .inr (4, [.ref qR, .null, .null, .null, .null, .ref qI, .null, .int 0, .int 0, .int 0])) :: (qI, .inl (cy 9, 2, .inr (.inr (.inr (.inr (rfs tI 2)))))) :: (B0 ++ tblks cy tI 2)) (18 + 9 * 2) (362 + 84 * 2) (QN M D A (BX4 cy h0)) 74 [some (.ref h0), some (.int (nI 2))] [] := by
      intro tI
      refine N_aload_n cn 0 dX4_init_74 rfl rfl ?_
      refine N_make (rest := [.ref h0]) cn (ci := 1) (T := TX1) (y := yX1_init) (c2 := cX1_init) (n2 := 1) rfl tyX1_ok fd1_ok dX4_init_75 dX4_init_78 dX4_init_79 (gt_tb 117 (by decide +kernel) rfl) (gt_tb 118 (by decide +kernel) rfl) (gt_tb 4 (by decide +kernel) rfl) (gt_tb 121 (by decide +kernel) rfl) (gt_tb 120 (by decide +kernel) rfl) rfl rfl (by decide) (by decide +kernel) (Or.inl (List.mem_of_getElem? (i := 2) rfl)) (by rw [hl]; exact c_X1_init) (by omega) (by omega) (Nat.le_of_ble_eq_true rfl) (by omega) (by omega) ?_
      rintro qd w ⟨qt, rfl⟩
      refine N_putF cn hi dX4_init_82 FF_X4_1 (Nat.le_of_ble_eq_true rfl) ?_
      refine N_aload_n cn 0 dX4_init_85 rfl rfl ?_
      refine N_make (rest := [.ref h0]) cn (ci := 0) (T := TX0) (y := yX0_init) (c2 := cX0_init) (n2 := 2) rfl tyX0_ok fd0_ok dX4_init_86 dX4_init_89 dX4_init_90 (gt_tb 151 (by decide +kernel) rfl) (gt_tb 152 (by decide +kernel) rfl) (gt_tb 5 (by decide +kernel) rfl) (gt_tb 155 (by decide +kernel) rfl) (gt_tb 154 (by decide +kernel) rfl) rfl rfl (by decide) (by decide +kernel) (Or.inr (gt_tb 153 (by decide +kernel) rfl)) (by rw [hl]; exact c_X0_init) (by omega) (by omega) (Nat.le_of_ble_eq_true rfl) (by omega) (by omega) ?_
      rintro qa w ⟨qA, tA, rfl⟩
      refine N_putF cn hi dX4_init_93 FF_X4_2 (Nat.le_of_ble_eq_true rfl) ?_
      refine N_aload_n cn 0 dX4_init_96 rfl rfl ?_
      refine N_make (rest := [.ref h0]) cn (ci := 3) (T := TX3) (y := yX3_init) (c2 := cX3_init) (n2 := 1) rfl tyX3_ok fd3_ok dX4_init_97 dX4_init_100 dX4_init_101 (gt_tb 43 (by decide +kernel) rfl) (gt_tb 45 (by decide +kernel) rfl) (gt_tb 3 (by decide +kernel) rfl) (gt_tb 48 (by decide +kernel) rfl) (gt_tb 47 (by decide +kernel) rfl) rfl rfl (by decide) (by decide +kernel) (Or.inl (List.mem_of_getElem? (i := 1) rfl)) (by rw [hl]; exact c_X3_init) (by omega) (by omega) (Nat.le_of_ble_eq_true rfl) (by omega) (by omega) ?_
      rintro v0 w ⟨t0, rfl, rfl⟩
      refine N_putF cn hi dX4_init_104 FF_X4_3 (Nat.le_of_ble_eq_true rfl) ?_
      refine N_aload_n cn 0 dX4_init_107 rfl rfl ?_
      refine N_make (rest := [.ref h0]) cn (ci := 3) (T := TX3) (y := yX3_init) (c2 := cX3_init) (n2 := 1) rfl tyX3_ok fd3_ok dX4_init_108 dX4_init_111 dX4_init_112 (gt_tb 43 (by decide +kernel) rfl) (gt_tb 45 (by decide +kernel) rfl) (gt_tb 3 (by decide +kernel) rfl) (gt_tb 48 (by decide +kernel) rfl) (gt_tb 47 (by decide +kernel) rfl) rfl rfl (by decide) (by decide +kernel) (Or.inl (List.mem_of_getElem? (i := 1) rfl)) (by rw [hl]; exact c_X3_init) (by omega) (by omega) (Nat.le_of_ble_eq_true rfl) (by omega) (by omega) ?_
      rintro v1 w ⟨t1, rfl, rfl⟩
      refine N_putF cn hi dX4_init_115 FF_X4_4 (Nat.le_of_ble_eq_true rfl) ?_
      refine N_aload_n cn 0 dX4_init_118 rfl rfl ?_
      refine N_bipush cn dX4_init_119 (by decide : _ = (16 : Int32)) ?_
      refine N_newI (N := 16) cn dX4_init_121 (by decide) (by decide) (by decide) (by omega) (by omega) (fun qb => ?_)
      refine N_putF cn hi dX4_init_123 FF_X4_6 (Nat.le_of_ble_eq_true rfl) ?_
      subst hB0
      refine N_eqw (ws' := (h0, .inr (4, [.ref qR, .ref qd, .ref qa, .ref (t0 0), .ref (t1 0), .ref qI, .ref qb, .int 0, .int 0, .int 0])) :: ((((((qI, .inl (cy 9, 2, .inr (.inr (.inr (.inr (rfs tI 2)))))) :: (((qR, .inl (cy 8, 8, .inr (.inr (.inr (.inr (rfs rq' 8)))))) :: rblks cy rq' 8) ++ tblks cy tI 2)) ++ [(qd, .inr (1, [.ref qt, .int 0, .int 0, .int 0, .int 0, .int 0, .int 0, .int 0])), (qt, .inl (cy 6, 120, .inl (fun _ => 0)))]) ++ ((qa, .inr (0, [.ref qA, .int 0, .int 0])) :: (qA, .inl (cy 9, 24, .inr (.inr (.inr (.inr (rfs tA 24)))))) :: tblks cy tA 24)) ++ tblk cy t0) ++ tblk cy t1) ++ [(qb, .inl (cy 6, 16, .inl (fun _ => 0)))]) rfl ?_
      refine N_re (ws' := tblk cy t0 ++ (tblk cy t1 ++ (tblks cy tI 2 ++ tblks cy tA 24)) ++ ([(h0, .inr (4, [.ref qR, .ref qd, .ref qa, .ref (t0 0), .ref (t1 0), .ref qI, .ref qb, .int 0, .int 0, .int 0])), (qR, .inl (cy 8, 8, .inr (.inr (.inr (.inr (rfs rq' 8)))))), (qI, .inl (cy 9, 2, .inr (.inr (.inr (.inr (rfs tI 2)))))), (qA, .inl (cy 9, 24, .inr (.inr (.inr (.inr (rfs tA 24)))))), (qa, .inr (0, [.ref qA, .int 0, .int 0])), (qd, .inr (1, [.ref qt, .int 0, .int 0, .int 0, .int 0, .int 0, .int 0, .int 0])), (qt, .inl (cy 6, 120, .inl (fun _ => 0))), (qb, .inl (cy 6, 16, .inl (fun _ => 0)))] ++ rblks cy rq' 8)) ?_ ?_ ?_
      · intro x hx
        simp only [List.mem_cons, List.mem_append, List.not_mem_nil, or_false] at hx ⊢
        rcases hx with (h | h | h | h) | (h | h | h | h | h | h | h | h) | h <;> simp only [h, true_or, or_true]
      · refine List.perm_iff_count.mpr (fun a => ?_)
        simp only [List.map_cons, List.map_append, List.map_nil, List.count_cons, List.count_append, List.count_nil]
        omega
      · refine N_vret cn hi dX4_init_126 (by rw [hM]; decide) (by rw [hM]; decide) ⟨qR, qI, qA, qa, qd, qt, qb, fun k => if k < 1 then t0 else if k < 2 then t1 else if k < 4 then tI (k - 2) else tA (k - 4), rq', ?_⟩
        rw [all28]
        unfold la8
        rw [rfs_c (tq := tI) (n := 2) (tq' := fun k => (fun k => if k < 1 then t0 else if k < 2 then t1 else if k < 4 then tI (k - 2) else tA (k - 4)) (k + 2)) (fun j hj => by dsimp only; rw [if_neg (by omega), if_neg (by omega), if_pos (by omega), Nat.add_sub_cancel]), rfs_c (tq := tA) (n := 24) (tq' := fun k => (fun k => if k < 1 then t0 else if k < 2 then t1 else if k < 4 then tI (k - 2) else tA (k - 4)) (k + 4)) (fun j hj => by dsimp only; rw [if_neg (by omega), if_neg (by omega), if_neg (by omega), Nat.add_sub_cancel])]
        rfl
    have li : ∀ (r i : Nat) (tq : Nat → Nat → Nat), i + r = 2 → JN M D A ((h0, .inr (4, [.ref qR, .null, .null, .null, .null, .ref qI, .null, .int 0, .int 0, .int 0])) :: (qI, .inl (cy 9, 2, .inr (.inr (.inr (.inr (rfs tq i)))))) :: (B0 ++ tblks cy tq i)) (18 + 9 * i) (362 + 84 * i) (QN M D A (BX4 cy h0)) 50 [some (.ref h0), some (.int (nI i))] [] := by
      intro r
      induction r with
      | zero =>
        intro i tq hi'
        obtain rfl : i = 2 := by omega
        refine N_iload_n cn 1 dX4_init_50 rfl rfl ?_
        refine N_iconst cn dX4_init_51 (by decide : _ = nI 2) ?_
        refine N_icmp_ge (tgt := 74) cn dX4_init_52 (by decide) (fun _ => ?_) (fun z => absurd (Int32.le_refl _) z)
        exact liE tq
      | succ r ih =>
        intro i tq hi'
        refine N_iload_n cn 1 dX4_init_50 rfl rfl ?_
        refine N_iconst cn dX4_init_51 (by decide : _ = nI 2) ?_
        refine N_icmp_ge (tgt := 74) cn dX4_init_52 (by decide) (fun z => absurd z (by rw [nI_le' (by omega) (by omega)]; omega)) (fun _ => ?_)
        refine N_aload_n cn 0 dX4_init_55 rfl rfl ?_
        refine N_getR cn dX4_init_56 F_X4_18 rfl ?_
        refine N_iload_n cn 1 dX4_init_59 rfl rfl ?_
        refine N_make (rest := [.int (nI i), .ref qI]) cn (ci := 3) (T := TX3) (y := yX3_init) (c2 := cX3_init) (n2 := 1) rfl tyX3_ok fd3_ok dX4_init_60 dX4_init_63 dX4_init_64 (gt_tb 43 (by decide +kernel) rfl) (gt_tb 45 (by decide +kernel) rfl) (gt_tb 3 (by decide +kernel) rfl) (gt_tb 48 (by decide +kernel) rfl) (gt_tb 47 (by decide +kernel) rfl) rfl rfl (by decide) (by decide +kernel) (Or.inl (List.mem_of_getElem? (i := 1) rfl)) (by rw [hl]; exact c_X3_init) (by omega) (by omega) (Nat.le_of_ble_eq_true rfl) (by omega) (by omega) ?_
        rintro v w ⟨qn, rfl, rfl⟩
        have e : (((((h0, .inr (4, [.ref qR, .null, .null, .null, .null, .ref qI, .null, .int 0, .int 0, .int 0])) :: (qI, .inl (cy 9, 2, .inr (.inr (.inr (.inr (rfs tq i)))))) :: (B0 ++ tblks cy tq i)) : va_W) ++ tblk cy qn).set 1 (qI, .inl (cy 9, 2, .inr (.inr (.inr (.inr (va_up (rfs tq i) (nI i).toNatClampNeg (some (qn 0))))))))) = (h0, .inr (4, [.ref qR, .null, .null, .null, .null, .ref qI, .null, .int 0, .int 0, .int 0])) :: (qI, .inl (cy 9, 2, .inr (.inr (.inr (.inr (rfs (fun k => if k < i then tq k else qn) (i + 1))))))) :: (B0 ++ tblks cy (fun k => if k < i then tq k else qn) (i + 1)) := by
          rw [nI_cl (by omega), rfs_s rfl, ← tblks_s]
          simp only [List.cons_append, List.append_assoc, List.set_cons_succ, List.set_cons_zero]
        refine N_astT (q0 := 1) (qk := (((h0, .inr (4, [.ref qR, .null, .null, .null, .null, .ref qI, .null, .int 0, .int 0, .int 0])) :: (qI, .inl (cy 9, 2, .inr (.inr (.inr (.inr (rfs tq i)))))) :: (B0 ++ tblks cy tq i)) : va_W).length) cn dX4_init_67 rfl (hd_app tblk_hd) (vpN (by omega) (by omega)) e ?_
        refine N_iinc (L' := [some (.ref h0), some (.int (nI (i + 1)))]) cn dX4_init_68 rfl (by decide : _ = nI 1) (by omega) rfl (by rw [nI_add]; rfl) ?_
        refine N_goto (tgt := 50) cn dX4_init_71 (by decide) ?_
        exact N_widen (by omega) (by omega) (ih (i + 1) _ (by omega))
    refine N_eqw (ws' := (h0, .inr (4, [.ref qR, .null, .null, .null, .null, .ref qI, .null, .int 0, .int 0, .int 0])) :: (((qR, .inl (cy 8, 8, .inr (.inr (.inr (.inr (rfs rq' 8)))))) :: rblks cy rq' 8) ++ [(qI, .inl (cy 9, 2, .inr (.inr (.inr (.inr (fun _ => none))))))])) rfl ?_
    refine N_re (ws' := (h0, .inr (4, [.ref qR, .null, .null, .null, .null, .ref qI, .null, .int 0, .int 0, .int 0])) :: (qI, .inl (cy 9, 2, .inr (.inr (.inr (.inr (fun _ => none)))))) :: (B0 ++ [])) ?_ ?_ ?_
    · intro x hx
      rw [hB0] at hx
      simp only [List.mem_cons, List.mem_append, List.not_mem_nil, or_false, false_or] at hx ⊢
      rcases hx with h | h | h | h <;> simp only [h, true_or, or_true]
    · rw [hB0]
      refine List.perm_iff_count.mpr (fun a => ?_)
      simp only [List.map_cons, List.map_append, List.map_nil, List.count_cons, List.count_append, List.count_nil]
      omega
    · exact N_eqw (by rw [rfs_0 (tq := fun _ _ => 0)]; rfl) (N_widen (by omega) (by omega) (li 2 0 (fun _ _ => 0) rfl))
  have lr : ∀ (r i : Nat) (tq : Nat → Nat → Nat), i + r = 8 → JN M D A ((h0, .inr (4, [.ref qR, .null, .null, .null, .null, .null, .null, .int 0, .int 0, .int 0])) :: (qR, .inl (cy 8, 8, .inr (.inr (.inr (.inr (rfs tq i)))))) :: ([] ++ rblks cy tq i)) (1 + 2 * i) (8 + 44 * i) (QN M D A (BX4 cy h0)) 15 [some (.ref h0), some (.int (nI i))] [] := by
    intro r
    induction r with
    | zero =>
      intro i tq hi'
      obtain rfl : i = 8 := by omega
      refine N_iload_n cn 1 dX4_init_15 rfl rfl ?_
      refine N_bipush cn dX4_init_16 (by decide : _ = nI 8) ?_
      refine N_icmp_ge (tgt := 40) cn dX4_init_18 (by decide) (fun _ => ?_) (fun z => absurd (Int32.le_refl _) z)
      exact lrE tq
    | succ r ih =>
      intro i tq hi'
      refine N_iload_n cn 1 dX4_init_15 rfl rfl ?_
      refine N_bipush cn dX4_init_16 (by decide : _ = nI 8) ?_
      refine N_icmp_ge (tgt := 40) cn dX4_init_18 (by decide) (fun z => absurd z (by rw [nI_le' (by omega) (by omega)]; omega)) (fun _ => ?_)
      refine N_aload_n cn 0 dX4_init_21 rfl rfl ?_
      refine N_getR cn dX4_init_22 F_X4_11 rfl ?_
      refine N_iload_n cn 1 dX4_init_25 rfl rfl ?_
      refine N_make (rest := [.int (nI i), .ref qR]) cn (ci := 2) (T := TX2) (y := yX2_init) (c2 := cX2_init) (n2 := 1) rfl tyX2_ok fd2_ok dX4_init_26 dX4_init_29 dX4_init_30 (gt_tb 18 (by decide +kernel) rfl) (gt_tb 20 (by decide +kernel) rfl) (gt_tb 2 (by decide +kernel) rfl) (gt_tb 23 (by decide +kernel) rfl) (gt_tb 22 (by decide +kernel) rfl) rfl rfl (by decide) (by decide +kernel) (Or.inl (List.mem_of_getElem? (i := 0) rfl)) (by rw [hl]; exact c_X2_init) (by omega) (by omega) (Nat.le_of_ble_eq_true rfl) (by omega) (by omega) ?_
      rintro v w ⟨qn, rfl, rfl⟩
      have e : (((((h0, .inr (4, [.ref qR, .null, .null, .null, .null, .null, .null, .int 0, .int 0, .int 0])) :: (qR, .inl (cy 8, 8, .inr (.inr (.inr (.inr (rfs tq i)))))) :: ([] ++ rblks cy tq i)) : va_W) ++ rblk cy qn).set 1 (qR, .inl (cy 8, 8, .inr (.inr (.inr (.inr (va_up (rfs tq i) (nI i).toNatClampNeg (some (qn 0))))))))) = (h0, .inr (4, [.ref qR, .null, .null, .null, .null, .null, .null, .int 0, .int 0, .int 0])) :: (qR, .inl (cy 8, 8, .inr (.inr (.inr (.inr (rfs (fun k => if k < i then tq k else qn) (i + 1))))))) :: ([] ++ rblks cy (fun k => if k < i then tq k else qn) (i + 1)) := by
        rw [nI_cl (by omega), rfs_s rfl, ← rblks_s]
        simp only [List.cons_append, List.append_assoc, List.set_cons_succ, List.set_cons_zero]
      refine N_astR (q0 := 1) (qk := (((h0, .inr (4, [.ref qR, .null, .null, .null, .null, .null, .null, .int 0, .int 0, .int 0])) :: (qR, .inl (cy 8, 8, .inr (.inr (.inr (.inr (rfs tq i)))))) :: ([] ++ rblks cy tq i)) : va_W).length) cn dX4_init_33 rfl (hd_app rblk_hd) (vpN (by omega) (by omega)) e ?_
      refine N_iinc (L' := [some (.ref h0), some (.int (nI (i + 1)))]) cn dX4_init_34 rfl (by decide : _ = nI 1) (by omega) rfl (by rw [nI_add]; rfl) ?_
      refine N_goto (tgt := 15) cn dX4_init_37 (by decide) ?_
      exact N_widen (by omega) (by omega) (ih (i + 1) _ (by omega))
  exact N_eqw (by rw [rfs_0 (tq := fun _ _ => 0)]; rfl) (lr 8 0 (fun _ _ => 0) rfl)
end CS
