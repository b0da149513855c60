/-! ===== cells ===== -/
theorem uws_0 : ∀ w ∈ u_ws RX0 TX0 3, w ∈ lw_tbl := by decide +kernel
theorem uws_1 : ∀ w ∈ u_ws RX1 TX1 8, w ∈ lw_tbl := by decide +kernel
theorem uws_2 : ∀ w ∈ u_ws RX2 TX2 4, w ∈ lw_tbl := by decide +kernel
theorem uws_3 : ∀ w ∈ u_ws RX3 TX3 15, w ∈ lw_tbl := by decide +kernel
theorem uws_4 : ∀ w ∈ u_ws RX4 TX4 10, w ∈ lw_tbl := by decide +kernel
theorem uws_5 : ∀ w ∈ u_ws RX5 TX5 25, w ∈ lw_tbl := by decide +kernel
theorem uwg_0 : ∀ w ∈ u_ws RX0 TX0 3, goodWord w = true := by decide +kernel
theorem uwg_1 : ∀ w ∈ u_ws RX1 TX1 8, goodWord w = true := by decide +kernel
theorem uwg_2 : ∀ w ∈ u_ws RX2 TX2 4, goodWord w = true := by decide +kernel
theorem uwg_3 : ∀ w ∈ u_ws RX3 TX3 15, goodWord w = true := by decide +kernel
theorem uwg_4 : ∀ w ∈ u_ws RX4 TX4 10, goodWord w = true := by decide +kernel
theorem uwg_5 : ∀ w ∈ u_ws RX5 TX5 25, goodWord w = true := by decide +kernel
/-- what the tables say of a class: its fields' words, their types, their names apart -/
theorem cl_ok : ∀ (c : Nat) (C : String) (T : u_T) (N : Nat), vwCl[c]? = some (C, T, N) → (∀ w ∈ u_ws C T N, w ∈ gt) ∧ (∃ ty0 : Nat → FieldType, ∀ k, k < N → parseFieldDescriptor (T k).2.2.1 = some (ty0 k)) ∧ (∀ a, a < N → ∀ b, b < N → a ≠ b → (T a).2.1 ≠ (T b).2.1) ∧ N = nF c ∧ c < 6
  | 0, C, T, N, h => by cases h; exact ⟨fun w hw => gt_of (uws_0 w hw) (uwg_0 w hw), ⟨_, tyX0_ok⟩, nmX0, rfl, by omega⟩
  | 1, C, T, N, h => by cases h; exact ⟨fun w hw => gt_of (uws_1 w hw) (uwg_1 w hw), ⟨_, tyX1_ok⟩, nmX1, rfl, by omega⟩
  | 2, C, T, N, h => by cases h; exact ⟨fun w hw => gt_of (uws_2 w hw) (uwg_2 w hw), ⟨_, tyX2_ok⟩, nmX2, rfl, by omega⟩
  | 3, C, T, N, h => by cases h; exact ⟨fun w hw => gt_of (uws_3 w hw) (uwg_3 w hw), ⟨_, tyX3_ok⟩, nmX3, rfl, by omega⟩
  | 4, C, T, N, h => by cases h; exact ⟨fun w hw => gt_of (uws_4 w hw) (uwg_4 w hw), ⟨_, tyX4_ok⟩, nmX4, rfl, by omega⟩
  | 5, C, T, N, h => by cases h; exact ⟨fun w hw => gt_of (uws_5 w hw) (uwg_5 w hw), ⟨_, tyX5_ok⟩, nmX5, rfl, by omega⟩
  | c + 6, C, T, N, h => by simp [vwCl] at h
/-- getfield, putfield number idx of class own: field k of class c -/
def fld (own : String) (idx c k : Nat) : Prop := ∃ (C : String) (T : u_T) (N : Nat), vwCl[c]? = some (C, T, N) ∧ k < N ∧ Cond.fieldLink own idx (T k).1 (T k).2.1 (T k).2.2.1 ∈ gt
def fldP (own : String) (idx c k : Nat) (v : Int32) : Prop := ∃ (C : String) (T : u_T) (N : Nat) (ty : FieldType), vwCl[c]? = some (C, T, N) ∧ k < N ∧ Cond.fieldLink own idx (T k).1 (T k).2.1 (T k).2.2.1 ∈ gt ∧ (T k).2.2.2 = false ∧ parseFieldDescriptor (T k).2.2.1 = some ty ∧ narrow ty (.int v) = .int v ∧ fits ty (.int v) = true
theorem fsO_get {X : XP} {σ : PI} {c i k : Nat} (h : k < nF c) : (fsO X σ c i)[k]? = some (if fR c k then va_rf ((rq i k).map X.1) else .int (σ i k)) := by
  simp [fsO, List.getElem?_map, List.getElem?_range h]
theorem fsO_len {X : XP} {σ : PI} {c i : Nat} : (fsO X σ c i).length = nF c := by simp [fsO]
theorem up_self {σ : PI} {i k : Nat} {v : Int32} : up σ i k v i = upd (σ i) k v := by simp [up]
theorem up_ne {σ : PI} {i k j : Nat} {v : Int32} (h : j ≠ i) : up σ i k v j = σ j := by simp [up, h]
theorem upA_self {σ : PI} {i : Nat} {f : Nat → Int32} : upA σ i f i = f := by simp [upA]
theorem upA_ne {σ : PI} {i j : Nat} {f : Nat → Int32} (h : j ≠ i) : upA σ i f j = σ j := by simp [upA, h]
theorem fsO_set {X : XP} {σ : PI} {c i k : Nat} {v : Int32} (hr : fR c k = false) : fsO X (up σ i k v) c i = (fsO X σ c i).set k (.int v) := by
  apply List.ext_getElem?
  intro j
  by_cases hj : j < nF c
  · rw [fsO_get hj]
    by_cases e : k = j
    · subst e
      rw [List.getElem?_set_self (by rw [fsO_len]; exact hj), hr, up_self]
      simp [upd]
    · rw [List.getElem?_set_ne e, fsO_get hj, up_self]
      have : ¬ j = k := fun q => e q.symm
      simp [upd, this]
  · rw [List.getElem?_eq_none (by rw [fsO_len]; omega), List.getElem?_eq_none (by rw [List.length_set, fsO_len]; omega)]
theorem ent_o {X : XP} {σ : PI} {i c : Nat} (hc : (kq i).1 = c) (h6 : c < 6) : ent X σ i = .inr (c, fsO X σ c i) := by
  unfold ent
  rw [hc, if_pos h6]
theorem ent_i {X : XP} {σ : PI} {i q n : Nat} (hc : kq i = (q, n)) (h6 : ¬ q < 6) (h8 : q < 8) : ent X σ i = .inl (X.2.2.1 q, n, .inl (σ i)) := by
  unfold ent
  rw [hc]
  show (if q < 6 then _ else _) = _
  rw [if_neg h6]
  show (if q < 8 then _ else _) = _
  rw [if_pos h8]
theorem ent_r {X : XP} {σ : PI} {i q n : Nat} (hc : kq i = (q, n)) (h8 : ¬ q < 8) : ent X σ i = .inl (X.2.2.1 q, n, .inr (.inr (.inr (.inr (fun j => (rq i j).map X.1))))) := by
  unfold ent
  rw [hc]
  show (if q < 6 then _ else _) = _
  rw [if_neg (by omega)]
  show (if q < 8 then _ else _) = _
  rw [if_neg h8]
theorem wl_o {X : XP} {σ : PI} {i c : Nat} (hi : i < 289) (hc : (kq i).1 = c) (h6 : c < 6) : (wl X σ)[i]? = some (X.1 i, .inr (c, fsO X σ c i)) := by rw [wl_get hi, ent_o hc h6]
theorem wl_i {X : XP} {σ : PI} {i n : Nat} (hi : i < 289) (hc : kq i = (6, n)) : (wl X σ)[i]? = some (X.1 i, .inl (X.2.2.1 6, n, .inl (σ i))) := by rw [wl_get hi, ent_i hc (by omega) (by omega)]
theorem wl_z {X : XP} {σ : PI} {i n : Nat} (hi : i < 289) (hc : kq i = (7, n)) : (wl X σ)[i]? = some (X.1 i, .inl (X.2.2.1 7, n, .inl (σ i))) := by rw [wl_get hi, ent_i hc (by omega) (by omega)]
theorem wl_r {X : XP} {σ : PI} {i q n : Nat} (hi : i < 289) (hc : kq i = (q, n)) (h8 : ¬ q < 8) : (wl X σ)[i]? = some (X.1 i, .inl (X.2.2.1 q, n, .inr (.inr (.inr (.inr (fun j => (rq i j).map X.1)))))) := by rw [wl_get hi, ent_r hc h8]
theorem ST.to {X : XP} {s t : State} {H : Heap} (h : ST X s s.heap) (hvm : s.vm.Alike t.vm) (hq : ∀ a : Nat, a < s.heap.size → ¬ X.2.2.2.2 a → H[a]? = s.heap[a]?) : ST X t H := fun n hn => ⟨((h n hn).1.kept hq).moved hvm, ((h n hn).2.kept hq).moved hvm⟩
theorem Wd.calling {X : XP} {σ : PI} {U : State} {g : JFrame} {mk : MethodId} {a : Array Value} (h : Wd X σ U) : Wd X σ (U.calling g mk a) :=
  ⟨h.1, ⟨va_K.moved (u := U) (U := U.calling g mk a) (Vm.Alike.refl U.vm) h.2.1.1, fun w hw => va_Nw.same (u := U) (by simp only [nestW, List.mem_cons, List.not_mem_nil, or_false] at hw; rcases hw with rfl | rfl <;> rfl) rfl (h.2.1.2 w hw)⟩, fun n hn => ⟨(h.2.2.1 n hn).1.moved (Vm.Alike.refl U.vm), (h.2.2.1 n hn).2.moved (Vm.Alike.refl U.vm)⟩, h.2.2.2⟩
section JH
variable {M : MC} {X : XP} {Q : State → Prop} {σ : PI} {pc : Nat} {L : List (Option Value)} {st rest : List Value} {own : String} {cc : ByteArray} {nL : Nat} {ret : Option FieldType} {lvl : Nat}
theorem J_getI (cx : Cx M X own cc nL ret lvl) {idx c i k : Nat} (d : decode cc pc = .ok (.getfield idx, 3)) (hF : fld own idx c k) (hi : i < 289) (hc : (kq i).1 = c) (hr : fR c k = false) (kk : J M X Q σ (pc + 3) L (.int (σ i k) :: st)) : J M X Q σ pc L (.ref (X.1 i) :: st) := by
  obtain ⟨p, l, e, R, s, m, args, below, meth, c0, cells, slots⟩ := M
  obtain ⟨hx, hb, hml, hown, hts, hre, hlk, hfr, hlo, hce, hsl, hvk, hst, had⟩ := cx
  obtain ⟨C, T, N, hcl, hk, hlink⟩ := hF
  obtain ⟨h1, -, -, hN, h6⟩ := cl_ok c C T N hcl
  intro H locs ls hP hS hl
  exact va_get hx hb hts h1 hown hvk.1 hP i (wl_o hi hc h6) hcl k hk (hts _ hlink) (fun _ h => h) (by rw [fsO_get (by omega), hr]; rfl) d (kk H locs ls hP hS hl)
theorem J_getR (cx : Cx M X own cc nL ret lvl) {idx c i k j : Nat} (d : decode cc pc = .ok (.getfield idx, 3)) (hF : fld own idx c k) (hi : i < 289) (hc : (kq i).1 = c) (hr : fR c k = true) (hj : rq i k = some j) (kk : J M X Q σ (pc + 3) L (.ref (X.1 j) :: st)) : J M X Q σ pc L (.ref (X.1 i) :: st) := by
  obtain ⟨p, l, e, R, s, m, args, below, meth, c0, cells, slots⟩ := M
  obtain ⟨hx, hb, hml, hown, hts, hre, hlk, hfr, hlo, hce, hsl, hvk, hst, had⟩ := cx
  obtain ⟨C, T, N, hcl, hk, hlink⟩ := hF
  obtain ⟨h1, -, -, hN, h6⟩ := cl_ok c C T N hcl
  intro H locs ls hP hS hl
  exact va_get hx hb hts h1 hown hvk.1 hP i (wl_o hi hc h6) hcl k hk (hts _ hlink) (fun _ h => h) (by rw [fsO_get (by omega), hr, hj]; rfl) d (kk H locs ls hP hS hl)
theorem J_putI (cx : Cx M X own cc nL ret lvl) {idx c i k : Nat} {v : Int32} (d : decode cc pc = .ok (.putfield idx, 3)) (hF : fldP own idx c k v) (hi : i < 289) (hc : (kq i).1 = c) (hr : fR c k = false) (kk : J M X Q (up σ i k v) (pc + 3) L st) : J M X Q σ pc L (.int v :: .ref (X.1 i) :: st) := by
  obtain ⟨p, l, e, R, s, m, args, below, meth, c0, cells, slots⟩ := M
  obtain ⟨hx, hb, hml, hown, hts, hre, hlk, hfr, hlo, hce, hsl, hvk, hst, had⟩ := cx
  obtain ⟨C, T, N, ty, hcl, hk, hlink, hfin, hd, hn, hfit⟩ := hF
  obtain ⟨h1, ⟨ty0, h2⟩, h3, hN, h6⟩ := cl_ok c C T N hcl
  intro H locs ls hP hS hl
  refine va_put hx hb hts h1 ty0 h2 h3 hown hvk.1 hP (had.d σ) hS i (wl_o hi hc h6) hcl k hk (hts _ hlink) (fun _ h => h) hfin hd hn hfit (by rw [fsO_len]; omega) d (fun H1 locs1 hP1 hD1 hS1 => ?_)
  rw [wl_set hi (τ := up σ i k v) (fun j hj => up_ne hj) (by rw [ent_o hc h6, fsO_set hr])] at hP1
  exact kk H1 locs1 ls hP1 hS1 hl
theorem J_iald (cx : Cx M X own cc nL ret lvl) {i n : Nat} {x : Int32} (d : decode cc pc = .ok (.iaload, 1)) (hi : i < 289) (hc : kq i = (6, n)) (hin : vp_in x n) (kk : J M X Q σ (pc + 1) L (.int (σ i x.toNatClampNeg) :: st)) : J M X Q σ pc L (.int x :: .ref (X.1 i) :: st) := by
  obtain ⟨p, l, e, R, s, m, args, below, meth, c0, cells, slots⟩ := M
  obtain ⟨hx, hb, hml, hown, hts, hre, hlk, hfr, hlo, hce, hsl, hvk, hst, had⟩ := cx
  intro H locs ls hP hS hl
  exact va_iald hx hb hvk.1 hP i 0 (wl_i hi hc) rfl hin d (kk H locs ls hP hS hl)
theorem J_iast (cx : Cx M X own cc nL ret lvl) {i n : Nat} {x v : Int32} (d : decode cc pc = .ok (.iastore, 1)) (hi : i < 289) (hc : kq i = (6, n)) (hin : vp_in x n) (kk : J M X Q (up σ i x.toNatClampNeg v) (pc + 1) L st) : J M X Q σ pc L (.int v :: .int x :: .ref (X.1 i) :: st) := by
  obtain ⟨p, l, e, R, s, m, args, below, meth, c0, cells, slots⟩ := M
  obtain ⟨hx, hb, hml, hown, hts, hre, hlk, hfr, hlo, hce, hsl, hvk, hst, had⟩ := cx
  intro H locs ls hP hS hl
  refine va_iast hx hb hvk.1 hP (had.d σ) hS i 0 (wl_i hi hc) rfl hin d (fun H1 locs1 hP1 hD1 hS1 => ?_)
  rw [wl_set hi (τ := up σ i x.toNatClampNeg v) (fun j hj => up_ne hj) (by rw [ent_i hc (by omega) (by omega), up_self])] at hP1
  exact kk H1 locs1 ls hP1 hS1 hl
theorem J_zald (cx : Cx M X own cc nL ret lvl) {i n : Nat} {x : Int32} (d : decode cc pc = .ok (.baload, 1)) (hi : i < 289) (hc : kq i = (7, n)) (hin : vp_in x n) (kk : J M X Q σ (pc + 1) L (.int (σ i x.toNatClampNeg) :: st)) : J M X Q σ pc L (.int x :: .ref (X.1 i) :: st) := by
  obtain ⟨p, l, e, R, s, m, args, below, meth, c0, cells, slots⟩ := M
  obtain ⟨hx, hb, hml, hown, hts, hre, hlk, hfr, hlo, hce, hsl, hvk, hst, had⟩ := cx
  intro H locs ls hP hS hl
  exact va_zald hx hb hvk.1 hP i 1 (wl_z hi hc) rfl hin d (kk H locs ls hP hS hl)
theorem J_zast (cx : Cx M X own cc nL ret lvl) {i n : Nat} {x v : Int32} (d : decode cc pc = .ok (.bastore, 1)) (hi : i < 289) (hc : kq i = (7, n)) (hv : vp_nar .boolean v = v) (hin : vp_in x n) (kk : J M X Q (up σ i x.toNatClampNeg v) (pc + 1) L st) : J M X Q σ pc L (.int v :: .int x :: .ref (X.1 i) :: st) := by
  obtain ⟨p, l, e, R, s, m, args, below, meth, c0, cells, slots⟩ := M
  obtain ⟨hx, hb, hml, hown, hts, hre, hlk, hfr, hlo, hce, hsl, hvk, hst, had⟩ := cx
  intro H locs ls hP hS hl
  refine va_zast hx hb hvk.1 hP (had.d σ) hS i 1 (wl_z hi hc) rfl hin d (fun H1 locs1 hP1 hD1 hS1 => ?_)
  rw [hv, wl_set hi (τ := up σ i x.toNatClampNeg v) (fun j hj => up_ne hj) (by rw [ent_i hc (by omega) (by omega), up_self])] at hP1
  exact kk H1 locs1 ls hP1 hS1 hl
theorem J_aald (cx : Cx M X own cc nL ret lvl) {i q n j : Nat} {x : Int32} (d : decode cc pc = .ok (.aaload, 1)) (hi : i < 289) (hc : kq i = (q, n)) (hq : q = 8 ∨ q = 9) (hin : vp_in x n) (hj : rq i x.toNatClampNeg = some j) (kk : J M X Q σ (pc + 1) L (.ref (X.1 j) :: st)) : J M X Q σ pc L (.int x :: .ref (X.1 i) :: st) := by
  obtain ⟨p, l, e, R, s, m, args, below, meth, c0, cells, slots⟩ := M
  obtain ⟨hx, hb, hml, hown, hts, hre, hlk, hfr, hlo, hce, hsl, hvk, hst, had⟩ := cx
  intro H locs ls hP hS hl
  have kk := kk H locs ls hP hS hl
  rcases hq with rfl | rfl
  · exact va_aldq hx hb hvk.1 hP i 2 (wl_r hi hc (by omega)) rfl hin d (by rw [hj]; exact kk)
  · exact va_aldq hx hb hvk.1 hP i 3 (wl_r hi hc (by omega)) rfl hin d (by rw [hj]; exact kk)
theorem J_alen (cx : Cx M X own cc nL ret lvl) {i n : Nat} {v : Int32} (d : decode cc pc = .ok (.arraylength, 1)) (hi : i < 289) (hc : kq i = (6, n)) (hv : Int32.ofNat n = v) (kk : J M X Q σ (pc + 1) L (.int v :: st)) : J M X Q σ pc L (.ref (X.1 i) :: st) := by
  obtain ⟨p, l, e, R, s, m, args, below, meth, c0, cells, slots⟩ := M
  obtain ⟨hx, hb, hml, hown, hts, hre, hlk, hfr, hlo, hce, hsl, hvk, hst, had⟩ := cx
  intro H locs ls hP hS hl
  exact va_alen hx hb hvk.1 hP i 0 (wl_i hi hc) (ty := .int) rfl hv d (kk H locs ls hP hS hl)
theorem J_copy (cx : Cx M X own cc nL ret lvl) {idx i j n0 n1 : Nat} {sp dp n : Int32} (d : decode cc pc = .ok (.invokestatic idx, 3)) (hw : Cond.methodLink own idx arraycopyName ∈ gt) (hlv : 0 < lvl) (hrs : (rest.map fun v => v.category).sum ≤ 8) (hi : i < 289) (hc : kq i = (6, n0)) (hj : j < 289) (hd : kq j = (6, n1)) (h1 : ¬ sp < 0) (h2 : ¬ dp < 0) (h3 : ¬ n < 0) (h4 : sp.toNatClampNeg + n.toNatClampNeg ≤ n0) (h5 : dp.toNatClampNeg + n.toNatClampNeg ≤ n1)
    (kk : J M X Q (upA σ j (va_cpy (σ i) (σ j) sp.toNatClampNeg dp.toNatClampNeg n.toNatClampNeg)) (pc + 3) L rest) : J M X Q σ pc L (.int n :: .int dp :: .ref (X.1 j) :: .int sp :: .ref (X.1 i) :: rest) := by
  obtain ⟨p, l, e, R, s, m, args, below, meth, c0, cells, slots⟩ := M
  obtain ⟨hx, hb, hml, hown, hts, hre, hlk, hfr, hlo, hce, hsl, hvk, hst, had⟩ := cx
  intro H locs ls hP hS hl
  have hnf : nativeFrameWords "java/lang/System" "arraycopy" 5 + 11 ≤ 56 := by decide +kernel
  refine va_copyi hx hb hl.1.symm hown (hts _ hw) (hts _ (gt_tb 244 (by decide +kernel) (by decide +kernel))) (hts _ (gt_tb 243 (by decide +kernel) (by decide +kernel))) (hts _ (gt_tb 7 (by decide +kernel) (by decide +kernel))) hvk.1 hP (had.d σ) hS i j 0 0 (wl_i hi hc) (wl_i hj hd) rfl rfl rfl h1 h2 h3 h4 h5 (fun _ _ => rfl) (by omega) (by omega) d (fun H1 locs1 hP1 hD1 hS1 => ?_)
  rw [wl_set hj (τ := upA σ j (va_cpy (σ i) (σ j) sp.toNatClampNeg dp.toNatClampNeg n.toNatClampNeg)) (fun q hq => upA_ne hq) (by rw [ent_i hd (by omega) (by omega), upA_self])] at hP1
  exact kk H1 locs1 ls hP1 hS1 hl
theorem J_gets (cx : Cx M X own cc nL ret lvl) {idx n : Nat} (d : decode cc pc = .ok (.getstatic idx, 3)) (hn : n < 3) (hw : Cond.fieldLink own idx "LeftAlone" (sNm n) "[I" ∈ gt) (kk : J M X Q σ (pc + 3) L (.ref (X.2.2.2.1 n) :: st)) : J M X Q σ pc L st := by
  obtain ⟨p, l, e, R, s, m, args, below, meth, c0, cells, slots⟩ := M
  obtain ⟨hx, hb, hml, hown, hts, hre, hlk, hfr, hlo, hce, hsl, hvk, hst, had⟩ := cx
  intro H locs ls hP hS hl
  exact va_gets hx hb (hst n hn).1 hS hown (hts _ hw) (fun _ h => h) d (kk H locs ls hP hS hl)
theorem J_sald (cx : Cx M X own cc nL ret lvl) {n : Nat} {x : Int32} (d : decode cc pc = .ok (.iaload, 1)) (hn : n < 3) (hin : vp_in x 6) (kk : J M X Q σ (pc + 1) L (.int (sArr n x.toNatClampNeg) :: st)) : J M X Q σ pc L (.int x :: .ref (X.2.2.2.1 n) :: st) := by
  obtain ⟨p, l, e, R, s, m, args, below, meth, c0, cells, slots⟩ := M
  obtain ⟨hx, hb, hml, hown, hts, hre, hlk, hfr, hlo, hce, hsl, hvk, hst, had⟩ := cx
  intro H locs ls hP hS hl
  exact va_ti hx hb (hst n hn).2 hS hin rfl d (kk H locs ls hP hS hl)
/-! ===== ends ===== -/
theorem J_end {p : Program} {l : Launch} {e : Env} {R : Room} {s : State} {m : MethodId} {args : Array Value} {below : List Frame} {meth : Method} {c : Code} {cells slots : Nat} (cx : Cx (p, l, e, R, s, m, args, below, meth, c, cells, slots) X own cc nL ret lvl) {Qr : Option Value → PI → Prop} {r : Option Value} {H : Heap} {locs : List Loc} (hP : va_P X.2.1 vwCl (wl X σ) H) (hS : va_S X.2.2.2.2 s.heap H locs) (h : Qr r σ) (t : State) (ht : t.heap = H) (hW : s.WarmedH t.vm) : QcO X Qr args s (.returned r) t := by
  obtain ⟨hx, hb, hml, hown, hts, hre, hlk, hfr, hlo, hce, hsl, hvk, hst, had⟩ := cx
  exact ⟨⟨r, σ, rfl, h, by rw [ht]; exact hP, hvk.warm hW, hst.to hW.alike (by rw [ht]; exact hS.2.1), had⟩, hS.F ht⟩
theorem J_iret (cx : Cx M X own cc nL (some .int) lvl) {Qi : Int32 → PI → Prop} {v : Int32} (d : decode cc pc = .ok (.ireturn, 1)) (h : Qi v σ) : J M X (QF M X (qI Qi)) σ pc L [.int v] := by
  obtain ⟨p, l, e, R, s, m, args, below, meth, c0, cells, slots⟩ := M
  intro H locs ls hP hS hl
  exact W.iret cx.1 cx.2.1 cx.2.2.2.2.2.1 (J_end cx hP hS ⟨v, rfl, h⟩) hS.2.2 d cx.2.2.2.2.2.2.1
theorem J_zret (cx : Cx M X own cc nL (some .boolean) lvl) {Qi : Int32 → PI → Prop} {v : Int32} (d : decode cc pc = .ok (.ireturn, 1)) (hv : bz v) (h : Qi v σ) : J M X (QF M X (qI Qi)) σ pc L [.int v] := by
  obtain ⟨p, l, e, R, s, m, args, below, meth, c0, cells, slots⟩ := M
  intro H locs ls hP hS hl
  exact W.zret cx.1 cx.2.1 cx.2.2.2.2.2.1 (by rcases hv with rfl | rfl <;> decide) (J_end cx hP hS ⟨v, rfl, h⟩) hS.2.2 d cx.2.2.2.2.2.2.1
theorem J_lret (cx : Cx M X own cc nL (some .long) lvl) {Qi : Int64 → PI → Prop} {v : Int64} (d : decode cc pc = .ok (.lreturn, 1)) (h : Qi v σ) : J M X (QF M X (qL Qi)) σ pc L [.long v] := by
  obtain ⟨p, l, e, R, s, m, args, below, meth, c0, cells, slots⟩ := M
  intro H locs ls hP hS hl
  exact W.lret cx.1 cx.2.1 cx.2.2.2.2.2.1 (J_end cx hP hS ⟨v, rfl, h⟩) hS.2.2 d cx.2.2.2.2.2.2.1
theorem J_vret (cx : Cx M X own cc nL none lvl) {Qi : PI → Prop} (d : decode cc pc = .ok (.return_, 1)) (h : Qi σ) : J M X (QF M X (qV Qi)) σ pc L [] := by
  obtain ⟨p, l, e, R, s, m, args, below, meth, c0, cells, slots⟩ := M
  intro H locs ls hP hS hl
  exact W.vret cx.1 cx.2.1 cx.2.2.2.2.2.1 (J_end cx hP hS ⟨rfl, h⟩) hS.2.2 d cx.2.2.2.2.2.2.1
/-! ===== a method's contract out of its walk ===== -/
theorem Ct_of {l : Launch} {y : MethodName} {as : List Value} {Qr : Option Value → PI → Prop} (hy : plainName y.cls = true) (hn : (lg_sl as).length ≤ nL) (hL : en 0 L = lv_args 0 as) (body : ∀ M : MC, M.2.1 = l → Cx M X y.cls cc nL ret lvl → J M X (QF M X Qr) σ 0 L []) : Ct l y cc nL ret lvl X as σ Qr := by
  refine Met.ofW (cc := cc) (maxL := nL) (ret := ret) hy rfl ?_
  intro p e s m args below meth c s₁ B hml hv
  obtain ⟨rfl, hP, hvk, hst, had⟩ := hv
  have hts := atoms_spec (ws := Cond.code y cc nL ret :: gt) B.pre
  have hl := lv_entry as hn
  rw [lg_entry_eq]
  generalize (lg_sl as ++ List.replicate (nL - (lg_sl as).length) Slot.unset).toArray = ls at hl ⊢
  refine body (p, l, e, rmL lvl, s, m, as.toArray, below, meth, c, 0, 0) rfl ⟨B.exec, B.bytes, hml, findClass_of_methodNamed B.named, fun w hw => hts w (List.mem_cons_of_mem _ hw), B.returns, B.notSynchronized, Nat.le_refl _, Nat.le_refl _, Nat.le_refl _, Nat.le_refl _, hvk, hst, had⟩ s.heap [] ls hP va_S.rf ?_
  rw [hL, hml]
  exact hl
/-! ===== calls ===== -/
theorem J_run {p : Program} {l : Launch} {e : Env} {R : Room} {s : State} {m : MethodId} {args : Array Value} {below : List Frame} {meth : Method} {c : Code} {cells slots : Nat} {H : Heap} {locs : List Loc} {ls : Array Slot} {a : Array Value} {Qr : Option Value → PI → Prop} (hS : va_S X.2.2.2.2 s.heap H locs) (hl : lv_has ls c.maxLocals (en 0 L))
    (hr : va_Run p l e R s m args below meth c H locs cells slots 0 0 (F0 m pc ls st) rest (QcO X Qr a) X.2.2.2.2) (k : ∀ r τ, Qr r τ → J (p, l, e, R, s, m, args, below, meth, c, cells, slots) X Q τ (pc + 3) L (r.toList ++ rest)) : W p l e R s m args below meth c H locs cells slots Q (F0 m pc ls st) := by
  intro T hT X0
  obtain ⟨v, st₀, t, T', Lc, h0, X', hL, e1, e2, ⟨⟨r, τ, hv, hq, hw⟩, hz, hk⟩, stp⟩ := hr T hT X0
  cases hv
  rw [h0] at hz hk
  obtain ⟨t2, a1, b1⟩ := k v τ hq T'.heap (locs ++ Lc) ls (by rw [e1]; exact hw.1) ⟨Nat.le_trans hS.1 (by rw [e1]; exact hz), fun q h1 h2 => by rw [e1, hk q (Nat.lt_of_lt_of_le h1 hS.1) h2]; exact hS.2.1 q h1 h2, fun q hq => by
      rcases List.mem_append.mp hq with h | h
      · exact hS.2.2 q h
      · exact hL q h⟩ hl T' rfl X'
  exact ⟨t2, stp t2 a1, b1⟩
/-- a call's words: number idx of class own calls y, of n arguments -/
def cV (own : String) (idx : Nat) (y : MethodName) (c2 : ByteArray) (n2 : Nat) (r2 : Option FieldType) (n c : Nat) : Prop := Cond.methodLink own idx y ∈ gt ∧ Cond.instanceMethod y ∈ gt ∧ Cond.selects y.cls y y ∈ gt ∧ Cond.initialized y.cls ∈ gt ∧ Cond.code y c2 n2 r2 ∈ gt ∧ (y.cls ≠ "java/lang/invoke/MethodHandle" ∧ y.cls ≠ "java/lang/invoke/VarHandle") ∧ (parseMethodDescriptor y.desc).map (fun d => d.parameters.length) = some n ∧ n2 ≤ 40 ∧ ∃ T N, vwCl[c]? = some (y.cls, T, N)
def cS (own : String) (idx : Nat) (y : MethodName) (c2 : ByteArray) (n2 : Nat) (r2 : Option FieldType) (n : Nat) : Prop := Cond.methodLink own idx y ∈ gt ∧ Cond.static y ∈ gt ∧ Cond.initialized y.cls ∈ gt ∧ Cond.code y c2 n2 r2 ∈ gt ∧ (y.cls ≠ "java/lang/invoke/MethodHandle" ∧ y.cls ≠ "java/lang/invoke/VarHandle") ∧ (parseMethodDescriptor y.desc).map (fun d => d.parameters.length) = some n ∧ n2 ≤ 40
def cN (own : String) (idx : Nat) (y : MethodName) (c2 : ByteArray) (n2 : Nat) (r2 : Option FieldType) (n : Nat) : Prop := Cond.methodLinkNest own idx y "LeftAlone" ∈ nestW ∧ Cond.static y ∈ gt ∧ Cond.initialized y.cls ∈ gt ∧ Cond.code y c2 n2 r2 ∈ gt ∧ (y.cls ≠ "java/lang/invoke/MethodHandle" ∧ y.cls ≠ "java/lang/invoke/VarHandle") ∧ (parseMethodDescriptor y.desc).map (fun d => d.parameters.length) = some n ∧ n2 ≤ 40
variable {y : MethodName} {c2 : ByteArray} {n2 idx n i c lv2 : Nat} {r2 : Option FieldType} {Qr : Option Value → PI → Prop} {As : List Value}
theorem J_cV (cx : Cx M X own cc nL ret lvl) (d : decode cc pc = .ok (.invokevirtual idx, 3)) (hw : cV own idx y c2 n2 r2 n c) (hlv : lv2 < lvl) (hi : i < 289) (hc : (kq i).1 = c) (hM : Ct M.2.1 y c2 n2 r2 lv2 X (.ref (X.1 i) :: As) σ Qr) (hn : As.length = n) (hst : st = As.reverse ++ .ref (X.1 i) :: rest) (hrs : (rest.map fun v => v.category).sum ≤ 8) (k : ∀ r τ, Qr r τ → J M X Q τ (pc + 3) L (r.toList ++ rest)) : J M X Q σ pc L st := by
  obtain ⟨p, l, e, R, s, m, args, below, meth, c0, cells, slots⟩ := M
  obtain ⟨hx, hb, hml, hown, hts, hre, hlk, hfr, hlo, hce, hsl, hvk, hstt, had⟩ := cx
  obtain ⟨w1, w2, w3, w4, w5, w6, w7, w8, T, N, w9⟩ := hw
  intro H locs ls hP hS hl
  obtain ⟨-, -, -, -, h6⟩ := cl_ok _ _ _ _ w9
  refine J_run hS hl (va_runV (C := y.cls) (As := As) (b := X.1 i) ⟨hx, hb, hml, hown, hts⟩ hM (cwV n hts ?_ rfl rfl rfl ⟨rfl, w6.1, w6.2, w7⟩ ⟨?_, ?_⟩) ⟨fun a U g mk q => ⟨q.1, q.2.calling⟩, va_recv hvk.1 hP w9 (wl_o hi hc h6), fun U hU hW => ⟨rfl, by rw [hU]; exact hP, hvk.warm hW, hstt.to hW.alike (by rw [hU]; exact hS.2.1), had⟩⟩ rfl hn (hl.1.trans hml) hst (lv_room hrs) d ⟨hce, hsl⟩) k
  · intro w h
    have hwg : w ∈ gt := by
      simp only [wsV, List.mem_append, List.mem_cons, List.not_mem_nil, or_false] at h
      rcases h with (h | h | h | h) | h | h
      · rw [h]; exact w1
      · rw [h]; exact w2
      · rw [h]; exact w3
      · rw [h]; exact w4
      · rw [h]; exact w5
      · exact h
    exact ⟨hwg, good_of_word (gt_good hwg)⟩
  · show lv2 + 1 ≤ R.frames
    omega
  · show 8 + (n2 + 11) + 64 * lv2 ≤ R.locals
    omega
theorem J_cS (cx : Cx M X own cc nL ret lvl) (d : decode cc pc = .ok (.invokestatic idx, 3)) (hw : cS own idx y c2 n2 r2 n) (hlv : lv2 < lvl) (hM : Ct M.2.1 y c2 n2 r2 lv2 X As σ Qr) (hn : As.length = n) (hst : st = As.reverse ++ rest) (hrs : (rest.map fun v => v.category).sum ≤ 8) (k : ∀ r τ, Qr r τ → J M X Q τ (pc + 3) L (r.toList ++ rest)) : J M X Q σ pc L st := by
  obtain ⟨p, l, e, R, s, m, args, below, meth, c0, cells, slots⟩ := M
  obtain ⟨hx, hb, hml, hown, hts, hre, hlk, hfr, hlo, hce, hsl, hvk, hstt, had⟩ := cx
  obtain ⟨w1, w2, w4, w5, w6, w7, w8⟩ := hw
  intro H locs ls hP hS hl
  refine J_run hS hl (va_runS (As := As) ⟨hx, hb, hml, hown, hts⟩ hM ⟨callB_of n hts (gt_in w5) rfl rfl rfl (hts _ w4) (hts _ w1) ⟨w6.1, w6.2, w7⟩ ⟨?_, ?_⟩, hts _ w2⟩ ⟨fun a U g mk q => ⟨q.1, q.2.calling⟩, fun U hU hW => ⟨rfl, by rw [hU]; exact hP, hvk.warm hW, hstt.to hW.alike (by rw [hU]; exact hS.2.1), had⟩⟩ rfl hn (hl.1.trans hml) hst (lv_room hrs) d ⟨hce, hsl⟩) k
  · show lv2 + 1 ≤ R.frames
    omega
  · show 8 + (n2 + 11) + 64 * lv2 ≤ R.locals
    omega
theorem J_cN (cx : Cx M X own cc nL ret lvl) (d : decode cc pc = .ok (.invokestatic idx, 3)) (hw : cN own idx y c2 n2 r2 n) (hlv : lv2 < lvl) (hM : Ct M.2.1 y c2 n2 r2 lv2 X As σ Qr) (hn : As.length = n) (hst : st = As.reverse ++ rest) (hrs : (rest.map fun v => v.category).sum ≤ 8) (k : ∀ r τ, Qr r τ → J M X Q τ (pc + 3) L (r.toList ++ rest)) : J M X Q σ pc L st := by
  obtain ⟨p, l, e, R, s, m, args, below, meth, c0, cells, slots⟩ := M
  obtain ⟨hx, hb, hml, hown, hts, hre, hlk, hfr, hlo, hce, hsl, hvk, hstt, had⟩ := cx
  obtain ⟨w1, w2, w4, w5, w6, w7, w8⟩ := hw
  intro H locs ls hP hS hl
  refine J_run hS hl (va_runSN (As := As) ⟨hx, hb, hml, hown, hts⟩ hM ⟨va_cnB n hts (gt_in w5) rfl rfl rfl (hvk.2 _ w1) (hts _ w4) ⟨w6.1, w6.2, w7⟩ ⟨?_, ?_⟩, hts _ w2, trivial⟩ ⟨fun a U g mk q => ⟨q.1, q.2.calling⟩, fun U hU hW => ⟨rfl, by rw [hU]; exact hP, hvk.warm hW, hstt.to hW.alike (by rw [hU]; exact hS.2.1), had⟩⟩ rfl hn (hl.1.trans hml) hst (lv_room hrs) d ⟨hce, hsl⟩) k
  · show lv2 + 1 ≤ R.frames
    omega
  · show 8 + (n2 + 11) + 64 * lv2 ≤ R.locals
    omega
theorem k_i {Qi : Int32 → PI → Prop} (k : ∀ v τ, Qi v τ → J M X Q τ pc L (.int v :: rest)) : ∀ r τ, qI Qi r τ → J M X Q τ pc L (r.toList ++ rest) := by
  rintro r τ ⟨v, rfl, h⟩
  exact k v τ h
theorem k_l {Qi : Int64 → PI → Prop} (k : ∀ v τ, Qi v τ → J M X Q τ pc L (.long v :: rest)) : ∀ r τ, qL Qi r τ → J M X Q τ pc L (r.toList ++ rest) := by
  rintro r τ ⟨v, rfl, h⟩
  exact k v τ h
theorem k_v {Qi : PI → Prop} (k : ∀ τ, Qi τ → J M X Q τ pc L rest) : ∀ r τ, qV Qi r τ → J M X Q τ pc L (r.toList ++ rest) := by
  rintro r τ ⟨rfl, h⟩
  exact k τ h
theorem J_mmax (cx : Cx M X own cc nL ret lvl) {x z : Int32} (d : decode cc pc = .ok (.invokestatic idx, 3)) (hlv : 0 < lvl) (hrs : (rest.map fun v => v.category).sum ≤ 8) (w1 : Cond.methodLink own idx Lib.Math.max.name ∈ gt) (w2 : Cond.static Lib.Math.max.name ∈ gt) (w3 : Cond.code Lib.Math.max.name Lib.Math.max.code 2 (some .int) ∈ gt) (k : J M X Q σ (pc + 3) L (.int (if x < z then z else x) :: rest)) : J M X Q σ pc L (.int z :: .int x :: rest) := by
  obtain ⟨p, l, e, R, s, m, args, below, meth, c0, cells, slots⟩ := M
  obtain ⟨hx, hb, hml, hown, hts, hre, hlk, hfr, hlo, hce, hsl, hvk, hstt, had⟩ := cx
  intro H locs ls hP hS hl
  exact va_mmax hx hb hl.1.symm hown (hts _ w1) (hts _ w2) (hts _ (gt_tb 8 (by decide +kernel) (by decide +kernel))) (hts _ w3) (by omega) (by omega) hce hsl d (k H locs ls hP hS hl)
theorem J_mmin (cx : Cx M X own cc nL ret lvl) {x z : Int32} (d : decode cc pc = .ok (.invokestatic idx, 3)) (hlv : 0 < lvl) (hrs : (rest.map fun v => v.category).sum ≤ 8) (w1 : Cond.methodLink own idx Lib.Math.min.name ∈ gt) (w2 : Cond.static Lib.Math.min.name ∈ gt) (w3 : Cond.code Lib.Math.min.name Lib.Math.min.code 2 (some .int) ∈ gt) (k : J M X Q σ (pc + 3) L (.int (if z < x then z else x) :: rest)) : J M X Q σ pc L (.int z :: .int x :: rest) := by
  obtain ⟨p, l, e, R, s, m, args, below, meth, c0, cells, slots⟩ := M
  obtain ⟨hx, hb, hml, hown, hts, hre, hlk, hfr, hlo, hce, hsl, hvk, hstt, had⟩ := cx
  intro H locs ls hP hS hl
  exact va_mmin hx hb hl.1.symm hown (hts _ w1) (hts _ w2) (hts _ (gt_tb 8 (by decide +kernel) (by decide +kernel))) (hts _ w3) (by omega) (by omega) hce hsl d (k H locs ls hP hS hl)
theorem J_lmax (cx : Cx M X own cc nL ret lvl) {x z : Int64} (d : decode cc pc = .ok (.invokestatic idx, 3)) (hlv : 0 < lvl) (hrs : (rest.map fun v => v.category).sum ≤ 8) (w1 : Cond.methodLink own idx Lib.MathLoose.max_long.x ∈ gt) (w2 : Cond.static Lib.MathLoose.max_long.x ∈ gt) (w3 : Cond.code Lib.MathLoose.max_long.x Lib.MathLoose.max_long.code 4 (some .long) ∈ gt) (k : J M X Q σ (pc + 3) L (.long (if z < x then x else z) :: rest)) : J M X Q σ pc L (.long z :: .long x :: rest) := by
  obtain ⟨p, l, e, R, s, m, args, below, meth, c0, cells, slots⟩ := M
  obtain ⟨hx, hb, hml, hown, hts, hre, hlk, hfr, hlo, hce, hsl, hvk, hstt, had⟩ := cx
  intro H locs ls hP hS hl
  exact va_mmax_long hx hb hl.1.symm hown (hts _ w1) (hts _ w2) (hts _ (gt_tb 8 (by decide +kernel) (by decide +kernel))) (hts _ w3) (by omega) (by omega) hce hsl d (k H locs ls hP hS hl)
theorem J_nm (k : ∀ τ, τ = σ → J M X Q τ pc L st) : J M X Q σ pc L st := k σ rfl
theorem J_topi {x : Int32} (k : ∀ z, z = x → J M X Q σ pc L (.int z :: st)) : J M X Q σ pc L (.int x :: st) := k x rfl
theorem J_topl {x : Int64} (k : ∀ z, z = x → J M X Q σ pc L (.long z :: st)) : J M X Q σ pc L (.long x :: st) := k x rfl
end JH
/-! ===== loops, the layout's rows ===== -/
def Lp {α : Type} (F : (α → Prop) → α → Prop) : Nat → α → Prop
  | 0, _ => False
  | n + 1, a => F (Lp F n) a
theorem Lp_ind {α : Type} {F : (α → Prop) → α → Prop} (I : α → Prop) (μ : α → Nat) (step : ∀ (K : α → Prop) (a : α), I a → (∀ b, I b → μ b < μ a → K b) → F K a) (a : α) (h : I a) : ∃ n, Lp F n a := by
  have key : ∀ n a, I a → μ a < n → Lp F n a := by
    intro n
    induction n with
    | zero => intro a _ h; exact absurd h (Nat.not_lt_zero _)
    | succ n ih => intro a h1 h2; exact step (Lp F n) a h1 (fun b h3 h4 => ih b h3 (by omega))
  exact ⟨μ a + 1, key _ a h (Nat.lt_succ_self _)⟩
theorem Lp_J {α : Type} {F : (α → Prop) → α → Prop} {P : α → Prop} (h : ∀ K, (∀ a, K a → P a) → ∀ a, F K a → P a) {a : α} : (∃ n, Lp F n a) → P a := by
  rintro ⟨n, hn⟩
  have key : ∀ n a, Lp F n a → P a := by
    intro n
    induction n with
    | zero => intro a h; exact h.elim
    | succ n ih => intro a h1; exact h (Lp F n) ih a h1
  exact key n a hn
theorem vpl {x : Int32} {n : Nat} (h : (decide (x < 0) || decide (n ≤ x.toNatClampNeg)) = false) : vp_in x n := by
  simp only [Bool.or_eq_false_iff, decide_eq_false_iff_not] at h
  exact fun q => q.elim h.1 h.2
theorem vp_lt {x : Int32} {n : Nat} (h : vp_in x n) : x.toNatClampNeg < n := Nat.not_le.mp fun q => h (Or.inr q)
theorem tc_lt {k j : Nat} (hk : k < 28) (hj : j < 9) : tc k j < 289 := by unfold tc; omega
theorem rc_lt {r j : Nat} (hr : r < 8) (hj : j < 2) : rc r j < 289 := by unfold rc; omega
theorem kq_t {k j : Nat} (hk : k < 28) (hj : j < 9) : kq (tc k j) = if j = 0 then (3, 0) else if j = 7 then (6, 30) else if j = 1 then (6, 5) else if j = 2 then (6, 5) else if j = 8 then (6, 5) else (6, 6) := by
  unfold kq tc
  rw [if_pos (by omega), show (9 * k + j) % 9 = j by omega]
theorem kq_t0 {k : Nat} (hk : k < 28) : (kq (tc k 0)).1 = 3 := by rw [kq_t hk (by omega)]; rfl
theorem rq_t {k j : Nat} (hk : k < 28) : rq (tc k 0) j = some (tc k (j + 1)) := by
  unfold rq tc
  rw [if_pos (by omega)]
  congr 1
  omega
theorem kq_r0 {r : Nat} (hr : r < 8) : (kq (rc r 0)).1 = 2 := by
  unfold kq rc
  simp only [show ¬ (260 + 2 * r + 0 < 252) by omega, show ¬ (260 + 2 * r + 0 = 252) by omega, show ¬ (260 + 2 * r + 0 = 253) by omega, show ¬ (260 + 2 * r + 0 = 254) by omega, show ¬ (260 + 2 * r + 0 = 255) by omega, show ¬ (260 + 2 * r + 0 = 256) by omega, show ¬ (260 + 2 * r + 0 = 257) by omega, show ¬ (260 + 2 * r + 0 = 258) by omega, show ¬ (260 + 2 * r + 0 = 259) by omega, if_false]
  rw [if_pos (by omega), if_pos (by omega)]
theorem kq_r1 {r : Nat} (hr : r < 8) : kq (rc r 1) = (6, 40) := by
  unfold kq rc
  simp only [show ¬ (260 + 2 * r + 1 < 252) by omega, show ¬ (260 + 2 * r + 1 = 252) by omega, show ¬ (260 + 2 * r + 1 = 253) by omega, show ¬ (260 + 2 * r + 1 = 254) by omega, show ¬ (260 + 2 * r + 1 = 255) by omega, show ¬ (260 + 2 * r + 1 = 256) by omega, show ¬ (260 + 2 * r + 1 = 257) by omega, show ¬ (260 + 2 * r + 1 = 258) by omega, show ¬ (260 + 2 * r + 1 = 259) by omega, if_false]
  rw [if_pos (by omega), if_neg (by omega)]
theorem rq_r {r : Nat} (hr : r < 8) : rq (rc r 0) 0 = some (rc r 1) := by
  unfold rq rc
  simp only [show ¬ (260 + 2 * r + 0 < 252) by omega, show ¬ (260 + 2 * r + 0 = 252) by omega, show ¬ (260 + 2 * r + 0 = 253) by omega, show ¬ (260 + 2 * r + 0 = 254) by omega, show ¬ (260 + 2 * r + 0 = 255) by omega, show ¬ (260 + 2 * r + 0 = 256) by omega, show ¬ (260 + 2 * r + 0 = 257) by omega, if_false]
  rw [if_pos (by omega)]
theorem rq_rows (j : Nat) : rq 253 j = some (rc j 0) := rfl
theorem rq_imgs (j : Nat) : rq 254 j = some (tc (2 + j) 0) := by
  show some (18 + 9 * j) = some (9 * (2 + j) + 0)
  congr 1
  omega
theorem rq_bef (j : Nat) : rq 255 j = some (tc (4 + j) 0) := by
  show some (36 + 9 * j) = some (9 * (4 + j) + 0)
  congr 1
  omega
