/-! ===== from the law's entry ===== -/
theorem N_astore_n {M : MC} {own : String} {cc : ByteArray} {nL lvl mc ms : Nat} {D : va_G} {cy : Nat → ClassId} {A : Nat → Prop} {ws : va_W} {k n : Nat} {Q : State → Prop} {pc : Nat} {L : List (Option Value)} {st : List Value} (cn : CN M own cc nL lvl mc ms D cy A) {q : Fin 4} (i : Nat) {x : Nat} {L' : List (Option Value)} (d : decode cc pc = .ok (.astore_n q, 1)) (hi : (q : Nat) = i) (hn : i < nL) (ho : ok1 L i = true) (hL : ls1 L i (some (.ref x)) = L') (kk : JN M D A ws k n Q (pc + 1) L' st) : JN M D A ws k n Q pc L (.ref x :: st) := by
  obtain ⟨p, l, e, R, s, m, args, below, meth, c, mc', ms'⟩ := M
  intro H locs ls hP hD hS hl
  subst hL
  exact lv_astore_n cn.1 cn.2.1 d hi hl (by rw [show c.maxLocals = nL from cn.2.2.1]; exact hn) rfl (fun ls hl => kk H locs ls hP hD hS (lv_has_sub hl (en_st1 ho)))
theorem st_1 {s : State} {b : Nat} {A : Nat → Prop} (nm : String) (f : Nat → Int32) (hl : (Cond.laysStatic "LeftAlone" nm "[I").before #[Value.ref b] s = true) (hini : (Cond.initialized "LeftAlone").before #[Value.ref b] s = true) (h1 : (Cond.arrayOf (.static "LeftAlone" nm "[I") .int).before #[Value.ref b] s = true) (h2 : (Cond.eq (.length (.static "LeftAlone" nm "[I")) (.int 6)).before #[Value.ref b] s = true) (h3 : ∀ j : Nat, j < 6 → (Cond.eq (.elem (.static "LeftAlone" nm "[I") (.int (Int32.ofNat j))) (.int (f j))).before #[Value.ref b] s = true) (hA : ∀ a : Nat, a < s.heap.size → ¬ A a) : ∃ t : Nat, va_Z "LeftAlone" nm "[I" (.ref t) A s s.heap ∧ va_T .int t 6 (fun j => .int (f j)) A s s.heap := by
  obtain ⟨t, ht, hT⟩ := va_Tof (f := fun j => .int (f j)) (N := 6) (A := A) (by omega) h1 (va_eqt h2) (fun j hj => va_eqt (h3 j hj)) hA
  exact ⟨t, va_Zof hl hini ht hA, hT⟩
set_option maxRecDepth 100000 in
theorem st_3 {s : State} {b : Nat} {A : Nat → Prop} (hts : ∀ w ∈ lw_tbl, w.before #[Value.ref b] s = true) (hgv : (Jvm.Cond.and given_1 narrow_1).before #[Value.ref b] s = true) (hA : ∀ a : Nat, a < s.heap.size → ¬ A a) : ∃ sad : Nat → Nat, ∀ n, n < 3 → va_Z "LeftAlone" (sNm n) "[I" (.ref (sad n)) A s s.heap ∧ va_T .int (sad n) 6 (fun j => .int (sArr n j)) A s s.heap := by
  have hs := flat_of_before _ hgv
  have hi : (Cond.initialized "LeftAlone").before #[Value.ref b] s = true := hts _ (List.mem_append_right _ (List.mem_of_getElem? (i := 1) (by decide +kernel)))
  obtain ⟨t0, z0, y0⟩ := st_1 (A := A) "ABOVE" (sArr 0) (hts _ (List.mem_append_right _ (List.mem_of_getElem? (i := 603) (by decide +kernel)))) hi (hs _ (by decide +kernel)) (hs _ (by decide +kernel)) (fun j hj => by
    rcases (show j = 0 ∨ j = 1 ∨ j = 2 ∨ j = 3 ∨ j = 4 ∨ j = 5 by omega) with rfl | rfl | rfl | rfl | rfl | rfl <;> exact hs _ (by decide +kernel)) hA
  obtain ⟨t1, z1, y1⟩ := st_1 (A := A) "SIZE_BODIES" (sArr 1) (hts _ (List.mem_append_right _ (List.mem_of_getElem? (i := 613) (by decide +kernel)))) hi (hs _ (by decide +kernel)) (hs _ (by decide +kernel)) (fun j hj => by
    rcases (show j = 0 ∨ j = 1 ∨ j = 2 ∨ j = 3 ∨ j = 4 ∨ j = 5 by omega) with rfl | rfl | rfl | rfl | rfl | rfl <;> exact hs _ (by decide +kernel)) hA
  obtain ⟨t2, z2, y2⟩ := st_1 (A := A) "MARK_BODIES" (sArr 2) (hts _ (List.mem_append_right _ (List.mem_of_getElem? (i := 622) (by decide +kernel)))) hi (hs _ (by decide +kernel)) (hs _ (by decide +kernel)) (fun j hj => by
    rcases (show j = 0 ∨ j = 1 ∨ j = 2 ∨ j = 3 ∨ j = 4 ∨ j = 5 by omega) with rfl | rfl | rfl | rfl | rfl | rfl <;> exact hs _ (by decide +kernel)) hA
  refine ⟨fun n => if n = 0 then t0 else if n = 1 then t1 else t2, fun n hn => ?_⟩
  rcases (show n = 0 ∨ n = 1 ∨ n = 2 by omega) with rfl | rfl | rfl
  · exact ⟨z0, y0⟩
  · exact ⟨z1, y1⟩
  · exact ⟨z2, y2⟩
theorem vb_0 {s : State} {b : Nat} (hts : ∀ w ∈ lw_tbl, w.before #[Value.ref b] s = true) : ∃ (D : va_G) (cy : Nat → ClassId), VB D cy s := by
  have tb : ∀ {w : Cond} (i : Nat), tables_1[i]? = some w → w.before #[Value.ref b] s = true := fun i h => hts _ (List.mem_append_right _ (List.mem_of_getElem? h))
  obtain ⟨c0, iS0, hK0⟩ := u_known (C := RX0) (T := TX0) (N := 3) (n := 3) hts uws_0 (tb 152 (by decide +kernel))
  obtain ⟨c1, iS1, hK1⟩ := u_known (C := RX1) (T := TX1) (N := 8) (n := 8) hts uws_1 (tb 118 (by decide +kernel))
  obtain ⟨c2, iS2, hK2⟩ := u_known (C := RX2) (T := TX2) (N := 4) (n := 4) hts uws_2 (tb 20 (by decide +kernel))
  obtain ⟨c3, iS3, hK3⟩ := u_known (C := RX3) (T := TX3) (N := 15) (n := 15) hts uws_3 (tb 45 (by decide +kernel))
  obtain ⟨c4, iS4, hK4⟩ := u_known (C := RX4) (T := TX4) (N := 10) (n := 10) hts uws_4 (tb 11 (by decide +kernel))
  obtain ⟨c5, iS5, hK5⟩ := u_known (C := RX5) (T := TX5) (N := 25) (n := 25) hts uws_5 (tb 648 (by decide +kernel))
  obtain ⟨a6, k6, p6, f6, g6, e6⟩ := Cond.arrayClass_spec (tb (w := .arrayClass .int) 42 (by decide +kernel))
  obtain ⟨a7, k7, p7, f7, g7, e7⟩ := Cond.arrayClass_spec (tb (w := .arrayClass .boolean) 729 (by decide +kernel))
  have o8 := tb (w := .arrayOver (.object "LeftAlone$Row")) 19 (by decide +kernel)
  have o9 := tb (w := .arrayOver (.object "LeftAlone$Town")) 44 (by decide +kernel)
  obtain ⟨p8, a8, k8, f8, -, g8, e8, n8⟩ := Cond.arrayOver_spec o8
  obtain ⟨p9, a9, k9, f9, -, g9, e9, n9⟩ := Cond.arrayOver_spec o9
  refine ⟨(fun k => [c0, c1, c2, c3, c4, c5].getD k c0, fun k => [iS0, iS1, iS2, iS3, iS4, iS5].getD k iS0), fun k => [a6, a7, a8, a9].getD (k - 6) a6, ⟨?_, ?_⟩, fun w hw => ?_, fun w hw => ?_, va_AO.of o8, va_AO.of o9⟩
  · intro k q hq
    match k, hq with
    | 0, hq => cases hq; exact hK0
    | 1, hq => cases hq; exact hK1
    | 2, hq => cases hq; exact hK2
    | 3, hq => cases hq; exact hK3
    | 4, hq => cases hq; exact hK4
    | 5, hq => cases hq; exact hK5
    | k + 6, hq => simp [vwCl] at hq
  · intro k q hq
    match k, hq with
    | 0, hq => cases hq; exact ⟨fun n z => ⟨fun k h => (by cases h), k6, g6, p6, e6⟩, f6⟩
    | 1, hq => cases hq; exact ⟨fun n z => ⟨fun k h => (by cases h), k7, g7, p7, e7⟩, f7⟩
    | 2, hq => cases hq; exact ⟨fun n z => ⟨fun k h => (by cases h), k8, g8, p8, e8⟩, k8, p8, g8, e8, f8, n8⟩
    | 3, hq => cases hq; exact ⟨fun n z => ⟨fun k h => (by cases h), k9, g9, p9, e9⟩, k9, p9, g9, e9, f9, n9⟩
    | k + 4, hq => simp [tys0] at hq
  · simp only [nestW, List.mem_cons, List.not_mem_nil, or_false] at hw
    rcases hw with rfl | rfl
    · exact va_Nw.of rfl (tb 293 (by decide +kernel))
    · exact va_Nw.of rfl (tb 357 (by decide +kernel))
  · simp only [nestC, List.mem_cons, List.not_mem_nil, or_false] at hw
    rcases hw with rfl | rfl | rfl | rfl
    · exact va_Nw.of rfl (tb 21 (by decide +kernel))
    · exact va_Nw.of rfl (tb 46 (by decide +kernel))
    · exact va_Nw.of rfl (tb 119 (by decide +kernel))
    · exact va_Nw.of rfl (tb 158 (by decide +kernel))
set_option maxHeartbeats 4000000 in
set_option maxRecDepth 100000 in
theorem whole_start {p : Program} {e : Env} {s : State} {m : MethodId} {below : List Frame} {meth : Method} {c : Code} (l : Launch) {b L : Nat} {xs : Nat → Int32} (hL : L ≤ 3072) (C0 : lw_At p s m meth c b L xs) : W p l e room_1 s m #[Value.ref b] below meth c s.heap [] 0 0 (lw_Z below #[Value.ref b] s) (entryFrame m ([Value.ref b] : List Value).toArray 4) := by
  obtain ⟨hx, hb, hr, hml, hown, hts, hX, hbl, hlocks, hgv⟩ := C0
  have hA : ∀ a : Nat, a < s.heap.size → ¬ (fun q : Nat => s.heap.size ≤ q) a := fun a h => Nat.not_le.mpr h
  obtain ⟨sad, hst⟩ := st_3 (A := fun q : Nat => s.heap.size ≤ q) hts hgv hA
  obtain ⟨D, cy, hvb⟩ := vb_0 hts
  have hgt : ∀ w ∈ gt, w.before #[Value.ref b] s = true := fun w hw => hts w (List.mem_filter.mp hw).1
  generalize hAe : (fun q : Nat => s.heap.size ≤ q) = A at hst
  have hAq : ∀ q, s.heap.size ≤ q → A q := fun q h => by rw [← hAe]; exact h
  have hAn : ∀ q, A q → s.heap.size ≤ q := fun q h => by rw [← hAe] at h; exact h
  obtain ⟨M, hM⟩ : ∃ M : MC, M = (p, l, e, room_1, s, m, #[Value.ref b], below, meth, c, 600000, 7302249) := ⟨_, rfl⟩
  have cn : CN M RL cL_law 4 40 600000 7302249 D cy A := by
    rw [hM]
    exact ⟨hx, hb, hml, hown, hgt, Nat.le_of_ble_eq_true rfl, Nat.le_of_ble_eq_true rfl, Nat.le_refl _, Nat.le_refl _, hvb, hAq⟩
  have hl1 : M.2.1 = l := by rw [hM]
  have key : JN M D A [] 0 0 (lw_Z below #[Value.ref b] s) 0 [some (.ref b), none, none, none] [] := by
    refine N_make (rest := []) cn (ci := 4) (T := TX4) (y := yX4_init) (c2 := cX4_init) (n2 := 2) rfl tyX4_ok fd4_ok dL_law_0 dL_law_3 dL_law_4 (gt_tb 10 (by decide +kernel) rfl) (gt_tb 11 (by decide +kernel) rfl) (gt_tb 1 (by decide +kernel) rfl) (gt_tb 14 (by decide +kernel) rfl) (gt_tb 13 (by decide +kernel) rfl) rfl rfl (by decide) (by decide +kernel) (Or.inr (gt_tb 12 (by decide +kernel) rfl)) (by rw [hl1]; exact c_X4_init) (by omega) (by omega) (Nat.le_of_ble_eq_true rfl) (by omega) (by omega) ?_
    rintro h0 w ⟨qR, qI, qA, qa, qd, qt, qb, tq, rq', rfl⟩
    refine N_astore_n (L' := [some (.ref b), some (.ref h0), none, none]) cn 1 dL_law_7 rfl (by omega) rfl rfl ?_
    refine N_make (rest := []) cn (ci := 5) (T := TX5) (y := yX5_init) (c2 := cX5_init) (n2 := 2) rfl tyX5_ok fd5_ok dL_law_8 dL_law_11 dL_law_12 (gt_tb 647 (by decide +kernel) rfl) (gt_tb 648 (by decide +kernel) rfl) (gt_tb 6 (by decide +kernel) rfl) (gt_tb 651 (by decide +kernel) rfl) (gt_tb 650 (by decide +kernel) rfl) rfl rfl (by decide) (by decide +kernel) (Or.inr (gt_tb 649 (by decide +kernel) rfl)) (by rw [hl1]; exact c_X5_init) (by omega) (by omega) (Nat.le_of_ble_eq_true rfl) (by omega) (by omega) ?_
    rintro h1 w ⟨mq, hq, rfl⟩
    subst hq
    refine N_astore_n (L' := [some (.ref b), some (.ref h0), some (.ref (mq 0)), none]) cn 2 dL_law_15 rfl (by omega) rfl rfl ?_
    refine N_iconst cn dL_law_16 (by decide : _ = nI 0) ?_
    refine N_istore_n (L' := [some (.ref b), some (.ref h0), some (.ref (mq 0)), some (.int (nI 0))]) cn 3 dL_law_17 rfl (by omega) rfl rfl ?_
    refine N_widen (k' := 600000) (n' := 7302249) (by omega) (by omega) ?_
    subst hM
    intro H locs ls hP hD hS hl
    have hP' := fw_P (sad := sad) (A := A) hP
    have had := fw_D (sad := sad) (D := D) hD
    have lc : LC (p, l, e, room_1, s, m, #[Value.ref b], below, meth, c, 600000, 7302249) (X0 D cy sad A h0 qR qI qA qa qd qt qb tq rq' mq) b L xs := ⟨⟨hx, hb, hml, hown, hgt, hr, hlocks, Nat.le_of_ble_eq_true rfl, Nat.le_of_ble_eq_true rfl, Nat.le_refl _, Nat.le_refl _, ⟨hvb.1, hvb.2.1⟩, hst, had⟩, hX, hbl, fun z => absurd hbl (Nat.not_lt.mpr (hAn b z)), hL⟩
    refine law_loop lc (fun σ i => ?_) (L + 1) 0 s0 (by omega) (by omega) rel0 H locs ls hP' hS hl
    refine J_iconst lc.cx dL_law_1555 (by decide : _ = (1 : Int32)) ?_
    intro H locs ls hP hS hl
    exact va_forget (fun q hq => hAn _ (hS.2.2 q hq)) (lw_ret hx hb hr hlocks dL_law_1556)
  subst hM
  have hl := lv_entry ([.ref b]) (n := 4) (Nat.le_of_ble_eq_true rfl)
  rw [lg_entry_eq]
  generalize (lg_sl ([.ref b]) ++ List.replicate (4 - (lg_sl ([.ref b])).length) Slot.unset).toArray = ls at hl ⊢
  refine key s.heap [] ls (fun k q h => by simp at h) ⟨fun i j p q h => by simp at h, fun k q h => by simp at h⟩ va_S.rf ?_
  rw [hml]
  exact hl
