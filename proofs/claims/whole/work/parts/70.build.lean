/-! ===== things in the making: a world that grows ===== -/
def nestC : List Cond := [.methodLinkNest "LeftAlone" 15 yX2_init "LeftAlone", .methodLinkNest "LeftAlone" 22 yX3_init "LeftAlone", .methodLinkNest "LeftAlone" 25 yX1_init "LeftAlone", .methodLinkNest "LeftAlone$Acts" 17 yX3_init "LeftAlone"]
def tys0 (cy : Nat → ClassId) : List (ClassId × FieldType) := [(cy 6, .int), (cy 7, .boolean), (cy 8, .object "LeftAlone$Row"), (cy 9, .object "LeftAlone$Town")]
def VB (D : va_G) (cy : Nat → ClassId) (U : State) : Prop := va_K D vwCl (tys0 cy) U ∧ (∀ w ∈ nestW, va_Nw w U) ∧ (∀ w ∈ nestC, va_Nw w U) ∧ va_AO "LeftAlone$Row" U ∧ va_AO "LeftAlone$Town" U
theorem VB.warm {D : va_G} {cy : Nat → ClassId} {s U : State} (hW : s.WarmedH U.vm) (h : VB D cy s) : VB D cy U := by
  refine ⟨va_K.moved hW.alike h.1, fun w hw => va_Nw.warmW hw hW (h.2.1 w hw), fun w hw => ?_, va_AO.moved hW.alike h.2.2.2.1, va_AO.moved hW.alike h.2.2.2.2⟩
  have := h.2.2.1 w hw
  simp only [nestC, List.mem_cons, List.not_mem_nil, or_false] at hw
  rcases hw with rfl | rfl | rfl | rfl <;> exact va_Nw.warmM hW this
theorem VB.call {D : va_G} {cy : Nat → ClassId} {U : State} {g : JFrame} {mk : MethodId} {a : Array Value} (h : VB D cy U) : VB D cy (U.calling g mk a) :=
  ⟨va_K.moved (u := U) (U := U.calling g mk a) (Vm.Alike.refl U.vm) h.1, fun w hw => va_Nw.same (u := U) (by simp only [nestW, List.mem_cons, List.not_mem_nil, or_false] at hw; rcases hw with rfl | rfl <;> rfl) rfl (h.2.1 w hw), fun w hw => va_Nw.same (u := U) (by simp only [nestC, List.mem_cons, List.not_mem_nil, or_false] at hw; rcases hw with rfl | rfl | rfl | rfl <;> rfl) rfl (h.2.2.1 w hw), va_AO.moved (Vm.Alike.refl U.vm) h.2.2.2.1, va_AO.moved (Vm.Alike.refl U.vm) h.2.2.2.2⟩
def rmN (lvl mc ms : Nat) : Room := { frames := lvl, cells := mc, slots := ms, locals := 64 * lvl }
def QcN (D : va_G) (A : Nat → Prop) (B : va_W → Prop) : Array Value → State → Outcome → State → Prop := fun _ st oc t => (∃ w1, oc = .returned none ∧ B w1 ∧ va_P D vwCl w1 t.heap ∧ va_D A w1) ∧ va_F A st t
def PrN (D : va_G) (cy : Nat → ClassId) (h0 ci : Nat) (fs0 : List Value) (sz : Nat) : State → Prop := fun U => U.heap.size = sz ∧ va_P D vwCl [(h0, .inr (ci, fs0))] U.heap ∧ VB D cy U
/-- a constructor's contract: out of its new object, with nothing told, come the cells w1 -/
def CtN (l : Launch) (y : MethodName) (cc : ByteArray) (nL lvl mc ms : Nat) (D : va_G) (cy : Nat → ClassId) (ci : Nat) (fs0 : List Value) (B : Nat → va_W → Prop) : Prop :=
  ∀ h0 sz : Nat, Met l y (Cond.code y cc nL none :: gt) (rmN lvl mc ms) (va_Pc [.ref h0] (PrN D cy h0 ci fs0 sz)) (QcN D (va_A [(h0, .inr (ci, fs0))] sz) (B h0)) mc ms (va_A [(h0, .inr (ci, fs0))] sz)
def JN (M : MC) (D : va_G) (A : Nat → Prop) (ws : va_W) (k n : Nat) (Q : State → Prop) (pc : Nat) (L : List (Option Value)) (st : List Value) : Prop := match M with
  | (p, l, e, R, s, m, args, below, meth, c, _, _) => ∀ (H : Heap) (locs : List Loc) (ls : Array Slot), va_P D vwCl ws H → va_D A ws → va_S A s.heap H locs → lv_has ls c.maxLocals (en 0 L) → W p l e R s m args below meth c H locs k n Q (F0 m pc ls st)
def CN (M : MC) (own : String) (cc : ByteArray) (nL lvl mc ms : Nat) (D : va_G) (cy : Nat → ClassId) (A : Nat → Prop) : Prop := match M with
  | (p, l, e, R, s, m, args, below, meth, c, _, _) => p.tables.exec = Jvm.exec ∧ c.code = cc ∧ c.maxLocals = nL ∧ s.vm.findClass own = some m.cls ∧ (∀ w ∈ gt, w.before args s = true) ∧ lvl ≤ R.frames ∧ 64 * lvl ≤ R.locals ∧ mc ≤ R.cells ∧ ms ≤ R.slots ∧ VB D cy s ∧ ∀ q, s.heap.size ≤ q → A q
def IN (M : MC) : Prop := match M with
  | (p, l, e, R, s, m, args, below, meth, c, _, _) => meth.sig.returnType = none ∧ meth.locks = false ∧ meth.name = "<init>"
def QN (M : MC) (D : va_G) (A : Nat → Prop) (B : va_W → Prop) : State → Prop := match M with
  | (p, l, e, R, s, m, args, below, meth, c, mc, ms) => MQ below (QcN D A B) args s mc ms A
theorem vD_nd {A : Nat → Prop} {ws : va_W} (h : va_D A ws) : (ws.map Prod.fst).Nodup := by
  unfold List.Nodup
  rw [List.pairwise_iff_getElem]
  intro i j hi hj hij e
  rw [List.length_map] at hi hj
  rw [List.getElem_map, List.getElem_map] at e
  have := h.1 i j ws[i] ws[j] (List.getElem?_eq_getElem hi) (List.getElem?_eq_getElem hj) e
  omega
theorem vD_of {A : Nat → Prop} {ws : va_W} (hn : (ws.map Prod.fst).Nodup) (hA : ∀ q ∈ ws, A q.1) : va_D A ws := by
  unfold List.Nodup at hn
  rw [List.pairwise_iff_getElem] at hn
  refine ⟨fun i j p q hp hq e => ?_, fun k q hq => hA q (List.mem_of_getElem? hq)⟩
  obtain ⟨hi, rfl⟩ := List.getElem?_eq_some_iff.mp hp
  obtain ⟨hj, rfl⟩ := List.getElem?_eq_some_iff.mp hq
  rcases Nat.lt_trichotomy i j with z | z | z
  · exact absurd (by rw [List.getElem_map, List.getElem_map]; exact e) (hn i j (by rw [List.length_map]; exact hi) (by rw [List.length_map]; exact hj) z)
  · exact z
  · exact absurd (by rw [List.getElem_map, List.getElem_map]; exact e.symm) (hn j i (by rw [List.length_map]; exact hj) (by rw [List.length_map]; exact hi) z)
theorem joinL {A0 : Nat → Prop} {D : va_G} {wr wc w1 : va_W} {H H1 : Heap} (hP : va_P D vwCl (wr ++ wc) H) (hD : va_D A0 (wr ++ wc)) (hk : ∀ q : Nat, q < H.size → ¬ va_A wc H.size q → H1[q]? = H[q]?) (hF : ∀ q, va_A wc H.size q → A0 q) (hP1 : va_P D vwCl w1 H1) (hD1 : va_D (va_A wc H.size) w1) : va_P D vwCl (wr ++ w1) H1 ∧ va_D A0 (wr ++ w1) := by
  have get : ∀ (k : Nat) (q : Nat × va_E), wr[k]? = some q → (wr ++ wc)[k]? = some q := fun k q h => by
    rw [List.getElem?_append_left (List.getElem?_eq_some_iff.mp h).1]; exact h
  have apart : ∀ (k : Nat) (q : Nat × va_E), wr[k]? = some q → q.1 < H.size ∧ ¬ va_A wc H.size q.1 := by
    intro k q h
    have hl := (hP k q (get k q h)).lt
    refine ⟨hl, fun z => ?_⟩
    rcases z with ⟨k2, e, z⟩ | z
    · have hlt := (List.getElem?_eq_some_iff.mp h).1
      have := hD.1 k (wr.length + k2) q (q.1, e) (get k q h) (by rw [List.getElem?_append_right (by omega), Nat.add_sub_cancel_left]; exact z) rfl
      omega
    · omega
  exact ⟨va_P.app (fun k q h => (hP k q (get k q h)).kept (hk q.1 (apart k q h).1 (apart k q h).2)) hP1, va_D.app ⟨fun i j p q hp hq e => hD.1 i j p q (get i p hp) (get j q hq) e, fun k q h => hD.2 k q (get k q h)⟩ (hD1.weaken (fun k q _ h => hF q.1 h)) (fun i j x y hx hy hxy => (apart i x hx).2 (by rw [hxy]; exact hD1.2 j y hy))⟩
theorem single_D {A : Nat → Prop} {x : Nat × va_E} (h : A x.1) : va_D A [x] := by
  refine ⟨fun i j p q hp hq _ => ?_, fun k q hq => ?_⟩
  · have h1 := (List.getElem?_eq_some_iff.mp hp).1
    have h2 := (List.getElem?_eq_some_iff.mp hq).1
    simp at h1 h2
    omega
  · have h1 := (List.getElem?_eq_some_iff.mp hq).1
    simp at h1
    subst h1
    cases hq
    exact h
section NR
variable {M : MC} {own : String} {cc : ByteArray} {nL lvl mc ms : Nat} {D : va_G} {cy : Nat → ClassId} {A : Nat → Prop} {ws : va_W} {k n : Nat} {Q : State → Prop} {pc : Nat} {L : List (Option Value)} {st rest : List Value}
theorem N_re {ws' : va_W} (hm : ∀ q ∈ ws', q ∈ ws) (hp : (ws'.map Prod.fst).Perm (ws.map Prod.fst)) (kk : JN M D A ws' k n Q pc L st) : JN M D A ws k n Q pc L st := by
  obtain ⟨p, l, e, R, s, m, args, below, meth, c, mc', ms'⟩ := M
  intro H locs ls hP hD hS hl
  refine kk H locs ls (fun i q hq => ?_) (vD_of (hp.nodup_iff.mpr (vD_nd hD)) (fun q hq => ?_)) hS hl
  · obtain ⟨j, hj⟩ := List.getElem?_of_mem (hm q (List.mem_of_getElem? hq))
    exact hP j q hj
  · obtain ⟨j, hj⟩ := List.getElem?_of_mem (hm q hq)
    exact hD.2 j q hj
theorem N_widen {k' n' : Nat} (h1 : k ≤ k') (h2 : n ≤ n') (kk : JN M D A ws k' n' Q pc L st) : JN M D A ws k n Q pc L st := by
  obtain ⟨p, l, e, R, s, m, args, below, meth, c, mc', ms'⟩ := M
  intro H locs ls hP hD hS hl
  exact W.widen h1 h2 (kk H locs ls hP hD hS hl)
theorem N_iconst (cn : CN M own cc nL lvl mc ms D cy A) {i : Int} {v : Int32} (d : decode cc pc = .ok (.iconst i, 1)) (hv : Int32.ofInt i = v) (kk : JN M D A ws k n Q (pc + 1) L (.int v :: st)) : JN M D A ws k n Q pc L st := by
  obtain ⟨p, l, e, R, s, m, args, below, meth, c, mc', ms'⟩ := M
  intro H locs ls hP hD hS hl
  exact lv_iconst cn.1 cn.2.1 d hv (kk H locs ls hP hD hS hl)
theorem N_bipush (cn : CN M own cc nL lvl mc ms D cy A) {i : Int} {v : Int32} (d : decode cc pc = .ok (.bipush i, 2)) (hv : (Int8.ofInt i).toInt32 = v) (kk : JN M D A ws k n Q (pc + 2) L (.int v :: st)) : JN M D A ws k n Q pc L st := by
  obtain ⟨p, l, e, R, s, m, args, below, meth, c, mc', ms'⟩ := M
  intro H locs ls hP hD hS hl
  exact lv_bipush cn.1 cn.2.1 d hv (kk H locs ls hP hD hS hl)
theorem N_sipush (cn : CN M own cc nL lvl mc ms D cy A) {i : Int} {v : Int32} (d : decode cc pc = .ok (.sipush i, 3)) (hv : (Int16.ofInt i).toInt32 = v) (kk : JN M D A ws k n Q (pc + 3) L (.int v :: st)) : JN M D A ws k n Q pc L st := by
  obtain ⟨p, l, e, R, s, m, args, below, meth, c, mc', ms'⟩ := M
  intro H locs ls hP hD hS hl
  exact lv_sipush cn.1 cn.2.1 d hv (kk H locs ls hP hD hS hl)
theorem N_aload_n (cn : CN M own cc nL lvl mc ms D cy A) {q : Fin 4} (i : Nat) {x : Nat} (d : decode cc pc = .ok (.aload_n q, 1)) (hi : (q : Nat) = i) (hx : lg L i = some (.ref x)) (kk : JN M D A ws k n Q (pc + 1) L (.ref x :: st)) : JN M D A ws k n Q pc L st := by
  obtain ⟨p, l, e, R, s, m, args, below, meth, c, mc', ms'⟩ := M
  intro H locs ls hP hD hS hl
  exact lv_aload_n cn.1 cn.2.1 d hi (en_at hl hx) (kk H locs ls hP hD hS hl)
theorem N_iload_n (cn : CN M own cc nL lvl mc ms D cy A) {q : Fin 4} (i : Nat) {x : Int32} (d : decode cc pc = .ok (.iload_n q, 1)) (hi : (q : Nat) = i) (hx : lg L i = some (.int x)) (kk : JN M D A ws k n Q (pc + 1) L (.int x :: st)) : JN M D A ws k n Q pc L st := by
  obtain ⟨p, l, e, R, s, m, args, below, meth, c, mc', ms'⟩ := M
  intro H locs ls hP hD hS hl
  exact lv_iload_n cn.1 cn.2.1 d hi (en_at hl hx) (kk H locs ls hP hD hS hl)
theorem N_istore_n (cn : CN M own cc nL lvl mc ms D cy A) {q : Fin 4} (i : Nat) {x : Int32} {L' : List (Option Value)} (d : decode cc pc = .ok (.istore_n q, 1)) (hi : (q : Nat) = i) (hn : i < nL) (ho : ok1 L i = true) (hL : ls1 L i (some (.int x)) = L') (kk : JN M D A ws k n Q (pc + 1) L' st) : JN M D A ws k n Q pc L (.int x :: st) := by
  obtain ⟨p, l, e, R, s, m, args, below, meth, c, mc', ms'⟩ := M
  intro H locs ls hP hD hS hl
  subst hL
  exact lv_istore_n cn.1 cn.2.1 d hi hl (by rw [show c.maxLocals = nL from cn.2.2.1]; exact hn) rfl (fun ls hl => kk H locs ls hP hD hS (lv_has_sub hl (en_st1 ho)))
theorem N_iinc (cn : CN M own cc nL lvl mc ms D cy A) {i : Nat} {z : Int} {x v : Int32} {L' : List (Option Value)} (d : decode cc pc = .ok (.iinc i z, 3)) (hx : lg L i = some (.int x)) (hv : Int32.ofInt z = v) (hn : i < nL) (ho : ok1 L i = true) (hL : ls1 L i (some (.int (x + v))) = L') (kk : JN M D A ws k n Q (pc + 3) L' st) : JN M D A ws k n Q pc L st := by
  obtain ⟨p, l, e, R, s, m, args, below, meth, c, mc', ms'⟩ := M
  intro H locs ls hP hD hS hl
  subst hL
  have h1 := lg_en L i 0 hx
  rw [Nat.zero_add] at h1
  obtain ⟨w, hw⟩ := List.getElem?_of_mem h1
  subst hv
  exact lv_iinc cn.1 cn.2.1 d hl (k := w) hw rfl (by rw [show c.maxLocals = nL from cn.2.2.1]; exact hn) rfl (fun ls hl => kk H locs ls hP hD hS (lv_has_sub hl (en_st1 ho)))
theorem N_dup (cn : CN M own cc nL lvl mc ms D cy A) {v : Value} (d : decode cc pc = .ok (.dup, 1)) (hv : v.category = 1) (kk : JN M D A ws k n Q (pc + 1) L (v :: v :: st)) : JN M D A ws k n Q pc L (v :: st) := by
  obtain ⟨p, l, e, R, s, m, args, below, meth, c, mc', ms'⟩ := M
  intro H locs ls hP hD hS hl
  exact lv_dup cn.1 cn.2.1 d hv (kk H locs ls hP hD hS hl)
theorem N_goto (cn : CN M own cc nL lvl mc ms D cy A) {off : Int} {tgt : Nat} (d : decode cc pc = .ok (.goto off, 3)) (ht : (pc : Int) + off = (tgt : Int)) (kk : JN M D A ws k n Q tgt L st) : JN M D A ws k n Q pc L st := by
  obtain ⟨p, l, e, R, s, m, args, below, meth, c, mc', ms'⟩ := M
  intro H locs ls hP hD hS hl
  exact lv_goto cn.1 cn.2.1 d ht (kk H locs ls hP hD hS hl)
theorem N_icmp_ge (cn : CN M own cc nL lvl mc ms D cy A) {x y : Int32} {off : Int} {tgt : Nat} (d : decode cc pc = .ok (.if_icmp .ge off, 3)) (ht : (pc : Int) + off = (tgt : Int)) (kt : y ≤ x → JN M D A ws k n Q tgt L st) (kf : ¬ y ≤ x → JN M D A ws k n Q (pc + 3) L st) : JN M D A ws k n Q pc L (.int y :: .int x :: st) := by
  obtain ⟨p, l, e, R, s, m, args, below, meth, c, mc', ms'⟩ := M
  intro H locs ls hP hD hS hl
  exact lv_icmp_ge cn.1 cn.2.1 d ht (fun q => kt q H locs ls hP hD hS hl) (fun q => kf q H locs ls hP hD hS hl)
theorem N_obj (cn : CN M own cc nL lvl mc ms D cy A) {idx a : Nat} (d : decode cc pc = .ok (.invokespecial idx, 3)) (hw : Cond.methodLink own idx Lib.objectInit ∈ gt) (hlv : 1 ≤ lvl) (kk : JN M D A ws k n Q (pc + 3) L []) : JN M D A ws k n Q pc L [.ref a] := by
  obtain ⟨p, l, e, R, s, m, args, below, meth, c, mc', ms'⟩ := M
  obtain ⟨hx, hb, hml, hown, hts, hfr, hlo, hce, hsl, hvb, hA⟩ := cn
  intro H locs ls hP hD hS hl
  refine W.objInit hx hb hown (hts _ hw) (hts _ (gt_tb 16 rfl rfl)) (hts _ (gt_tb 17 (by decide +kernel) rfl)) rfl hl.1 rfl d (by omega) ?_ (kk H locs ls hP hD hS hl)
  show 2 * 0 + 0 + 12 ≤ R.locals
  omega
theorem arr_cy {cA : ClassId} {s : State} (h : va_K D vwCl (tys0 cy ++ [(cA, .int)]) s) : cA = cy 6 := by
  have h1 : s.vm.findClass _ = some cA := (h.2 4 _ rfl).2
  have h2 : s.vm.findClass _ = some (cy 6) := (h.2 0 _ rfl).2
  exact Option.some.inj (h1.symm.trans h2)
theorem arr_cz {cA : ClassId} {s : State} (h : va_K D vwCl (tys0 cy ++ [(cA, .boolean)]) s) : cA = cy 7 := by
  have h1 : s.vm.findClass _ = some cA := (h.2 4 _ rfl).2
  have h2 : s.vm.findClass _ = some (cy 7) := (h.2 1 _ rfl).2
  exact Option.some.inj (h1.symm.trans h2)
theorem arr_cr {cA : ClassId} {s : State} (h : va_K D vwCl (tys0 cy ++ [(cA, .object "LeftAlone$Row")]) s) : cA = cy 8 := by
  obtain ⟨_, _, _, _, _, h1⟩ := (h.2 4 _ rfl).2
  obtain ⟨_, _, _, _, _, h2⟩ := (h.2 2 _ rfl).2
  exact Option.some.inj (h1.symm.trans h2)
theorem arr_ct {cA : ClassId} {s : State} (h : va_K D vwCl (tys0 cy ++ [(cA, .object "LeftAlone$Town")]) s) : cA = cy 9 := by
  obtain ⟨_, _, _, _, _, h1⟩ := (h.2 4 _ rfl).2
  obtain ⟨_, _, _, _, _, h2⟩ := (h.2 3 _ rfl).2
  exact Option.some.inj (h1.symm.trans h2)
theorem N_newI (cn : CN M own cc nL lvl mc ms D cy A) {x : Int32} {N : Nat} (d : decode cc pc = .ok (.newarray .int, 2)) (hn : ¬ x < 0) (hN : x.toNatClampNeg = N) (hby : N * componentBytes .int ≤ 536870912) (hc : k + 1 ≤ mc) (hs : n + N ≤ ms) (kk : ∀ q, JN M D A (ws ++ [(q, .inl (cy 6, N, .inl (fun _ => 0)))]) (k + 1) (n + N) Q (pc + 2) L (.ref q :: st)) : JN M D A ws k n Q pc L (.int x :: st) := by
  obtain ⟨p, l, e, R, s, m, args, below, meth, c, mc', ms'⟩ := M
  obtain ⟨hx, hb, hml, hown, hts, hfr, hlo, hce, hsl, hvb, hA⟩ := cn
  intro H locs ls hP hD hS hl
  refine va_newa (ty := .int) (a0 := (N, .inl (fun _ => 0))) hx hb (hts _ (gt_tb 42 rfl rfl)) rfl hvb.1 hP hD hS hA (fun _ => rfl) hn hN hby (by omega) (by omega) d (fun q cA H1 hK1 hP1 hD1 hS1 => ?_)
  rw [arr_cy hK1] at hP1 hD1
  exact kk q H1 locs ls hP1 hD1 hS1 hl
theorem N_newZ (cn : CN M own cc nL lvl mc ms D cy A) {x : Int32} {N : Nat} (d : decode cc pc = .ok (.newarray .boolean, 2)) (hn : ¬ x < 0) (hN : x.toNatClampNeg = N) (hby : N * componentBytes .boolean ≤ 536870912) (hc : k + 1 ≤ mc) (hs : n + N ≤ ms) (kk : ∀ q, JN M D A (ws ++ [(q, .inl (cy 7, N, .inl (fun _ => 0)))]) (k + 1) (n + N) Q (pc + 2) L (.ref q :: st)) : JN M D A ws k n Q pc L (.int x :: st) := by
  obtain ⟨p, l, e, R, s, m, args, below, meth, c, mc', ms'⟩ := M
  obtain ⟨hx, hb, hml, hown, hts, hfr, hlo, hce, hsl, hvb, hA⟩ := cn
  intro H locs ls hP hD hS hl
  refine va_newa (ty := .boolean) (a0 := (N, .inl (fun _ => 0))) hx hb (hts _ (gt_tb 729 (by decide +kernel) rfl)) rfl hvb.1 hP hD hS hA (fun _ => rfl) hn hN hby (by omega) (by omega) d (fun q cA H1 hK1 hP1 hD1 hS1 => ?_)
  rw [arr_cz hK1] at hP1 hD1
  exact kk q H1 locs ls hP1 hD1 hS1 hl
theorem N_anewR (cn : CN M own cc nL lvl mc ms D cy A) {x : Int32} {N idx : Nat} (d : decode cc pc = .ok (.anewarray idx, 3)) (hw : Cond.classLink own idx "LeftAlone$Row" ∈ gt) (hn : ¬ x < 0) (hN : x.toNatClampNeg = N) (hby : N * 4 ≤ 536870912) (hc : k + 1 ≤ mc) (hs : n + N ≤ ms) (kk : ∀ q, JN M D A (ws ++ [(q, .inl (cy 8, N, .inr (.inr (.inr (.inr (fun _ => none))))))]) (k + 1) (n + N) Q (pc + 3) L (.ref q :: st)) : JN M D A ws k n Q pc L (.int x :: st) := by
  obtain ⟨p, l, e, R, s, m, args, below, meth, c, mc', ms'⟩ := M
  obtain ⟨hx, hb, hml, hown, hts, hfr, hlo, hce, hsl, hvb, hA⟩ := cn
  intro H locs ls hP hD hS hl
  refine va_newq hx hb hown (hts _ hw) hvb.2.2.2.1 hvb.1 hP hD hS hA hn hN hby (by omega) (by omega) d (fun q cA H1 hK1 hP1 hD1 hS1 => ?_)
  rw [arr_cr hK1] at hP1 hD1
  exact kk q H1 locs ls hP1 hD1 hS1 hl
theorem N_anewT (cn : CN M own cc nL lvl mc ms D cy A) {x : Int32} {N idx : Nat} (d : decode cc pc = .ok (.anewarray idx, 3)) (hw : Cond.classLink own idx "LeftAlone$Town" ∈ gt) (hn : ¬ x < 0) (hN : x.toNatClampNeg = N) (hby : N * 4 ≤ 536870912) (hc : k + 1 ≤ mc) (hs : n + N ≤ ms) (kk : ∀ q, JN M D A (ws ++ [(q, .inl (cy 9, N, .inr (.inr (.inr (.inr (fun _ => none))))))]) (k + 1) (n + N) Q (pc + 3) L (.ref q :: st)) : JN M D A ws k n Q pc L (.int x :: st) := by
  obtain ⟨p, l, e, R, s, m, args, below, meth, c, mc', ms'⟩ := M
  obtain ⟨hx, hb, hml, hown, hts, hfr, hlo, hce, hsl, hvb, hA⟩ := cn
  intro H locs ls hP hD hS hl
  refine va_newq hx hb hown (hts _ hw) hvb.2.2.2.2 hvb.1 hP hD hS hA hn hN hby (by omega) (by omega) d (fun q cA H1 hK1 hP1 hD1 hS1 => ?_)
  rw [arr_ct hK1] at hP1 hD1
  exact kk q H1 locs ls hP1 hD1 hS1 hl
/-- a final field of the object in the making, which stands first -/
def fldF (own : String) (idx c k : Nat) : Prop := ∃ (C : String) (T : u_T) (N : Nat) (ty : FieldType), vwCl[c]? = some (C, T, N) ∧ k < N ∧ Cond.fieldLink own idx (T k).1 (T k).2.1 (T k).2.2.1 ∈ gt ∧ (T k).2.2.2 = true ∧ (T k).1 = own ∧ parseFieldDescriptor (T k).2.2.1 = some ty ∧ (∀ q, narrow ty (.ref q) = .ref q) ∧ (∀ q, fits ty (.ref q) = true)
theorem N_putF (cn : CN M own cc nL lvl mc ms D cy A) (hi : IN M) {idx ci a v f : Nat} {fs : List Value} {B : va_W} (d : decode cc pc = .ok (.putfield idx, 3)) (hF : fldF own idx ci f) (hl : f < fs.length) (kk : JN M D A ((a, .inr (ci, fs.set f (.ref v))) :: B) k n Q (pc + 3) L st) : JN M D A ((a, .inr (ci, fs)) :: B) k n Q pc L (.ref v :: .ref a :: st) := by
  obtain ⟨p, l, e, R, s, m, args, below, meth, c, mc', ms'⟩ := M
  obtain ⟨hx, hb, hml, hown, hts, hfr, hlo, hce, hsl, hvb, hA⟩ := cn
  obtain ⟨C, T, N, ty, hcl, hk, hlink, hfin, hdecl, hty, hnar, hfit⟩ := hF
  obtain ⟨h1, ⟨ty0, h2⟩, h3, hN, h6⟩ := cl_ok ci C T N hcl
  intro H locs ls hP hD hS hl'
  refine va_putF hx hb hts h1 ty0 h2 h3 hown hvb.1 hP hD hS 0 rfl hcl f hk (hts _ hlink) (fun _ h => h) hfin hi.2.2 hdecl hty (hnar v) (hfit v) hl d (fun H1 locs1 hP1 hD1 hS1 => ?_)
  exact kk H1 locs1 ls hP1 hD1 hS1 hl'
theorem N_getR (cn : CN M own cc nL lvl mc ms D cy A) {idx ci a v f : Nat} {fs : List Value} {B : va_W} (d : decode cc pc = .ok (.getfield idx, 3)) (hF : fld own idx ci f) (hv : fs[f]? = some (.ref v)) (kk : JN M D A ((a, .inr (ci, fs)) :: B) k n Q (pc + 3) L (.ref v :: st)) : JN M D A ((a, .inr (ci, fs)) :: B) k n Q pc L (.ref a :: st) := by
  obtain ⟨p, l, e, R, s, m, args, below, meth, c, mc', ms'⟩ := M
  obtain ⟨hx, hb, hml, hown, hts, hfr, hlo, hce, hsl, hvb, hA⟩ := cn
  obtain ⟨C, T, N, hcl, hk, hlink⟩ := hF
  obtain ⟨h1, -, -, hN, h6⟩ := cl_ok ci C T N hcl
  intro H locs ls hP hD hS hl
  exact va_get hx hb hts h1 hown hvb.1 hP 0 rfl hcl f hk (hts _ hlink) (fun _ h => h) hv d (kk H locs ls hP hD hS hl)
theorem N_astR (cn : CN M own cc nL lvl mc ms D cy A) {a v N q0 qk : Nat} {x : Int32} {vs : List Value} {f : Nat → Option Nat} {ws' : va_W} (d : decode cc pc = .ok (.aastore, 1)) (ha : ws[q0]? = some (a, .inl (cy 8, N, .inr (.inr (.inr (.inr f)))))) (hv : ws[qk]? = some (v, .inr (2, vs))) (hin : vp_in x N) (hws : ws.set q0 (a, .inl (cy 8, N, .inr (.inr (.inr (.inr (va_up f x.toNatClampNeg (some v))))))) = ws') (kk : JN M D A ws' k n Q (pc + 1) L st) : JN M D A ws k n Q pc L (.ref v :: .int x :: .ref a :: st) := by
  obtain ⟨p, l, e, R, s, m, args, below, meth, c, mc', ms'⟩ := M
  obtain ⟨hx, hb, hml, hown, hts, hfr, hlo, hce, hsl, hvb, hA⟩ := cn
  subst hws
  intro H locs ls hP hD hS hl
  exact va_astq hx hb hvb.1 hP hD hS q0 2 qk 2 (r := (RX2, TX2, 4)) ha rfl hv rfl hin d (fun H1 locs1 hP1 hD1 hS1 => kk H1 locs1 ls hP1 hD1 hS1 hl)
theorem N_astT (cn : CN M own cc nL lvl mc ms D cy A) {a v N q0 qk : Nat} {x : Int32} {vs : List Value} {f : Nat → Option Nat} {ws' : va_W} (d : decode cc pc = .ok (.aastore, 1)) (ha : ws[q0]? = some (a, .inl (cy 9, N, .inr (.inr (.inr (.inr f)))))) (hv : ws[qk]? = some (v, .inr (3, vs))) (hin : vp_in x N) (hws : ws.set q0 (a, .inl (cy 9, N, .inr (.inr (.inr (.inr (va_up f x.toNatClampNeg (some v))))))) = ws') (kk : JN M D A ws' k n Q (pc + 1) L st) : JN M D A ws k n Q pc L (.ref v :: .int x :: .ref a :: st) := by
  obtain ⟨p, l, e, R, s, m, args, below, meth, c, mc', ms'⟩ := M
  obtain ⟨hx, hb, hml, hown, hts, hfr, hlo, hce, hsl, hvb, hA⟩ := cn
  subst hws
  intro H locs ls hP hD hS hl
  exact va_astq hx hb hvb.1 hP hD hS q0 3 qk 3 (r := (RX3, TX3, 15)) ha rfl hv rfl hin d (fun H1 locs1 hP1 hD1 hS1 => kk H1 locs1 ls hP1 hD1 hS1 hl)
theorem N_iast (cn : CN M own cc nL lvl mc ms D cy A) {a N q0 : Nat} {x v : Int32} {f : Nat → Int32} {ws' : va_W} (d : decode cc pc = .ok (.iastore, 1)) (ha : ws[q0]? = some (a, .inl (cy 6, N, .inl f))) (hin : vp_in x N) (hws : ws.set q0 (a, .inl (cy 6, N, .inl (upd f x.toNatClampNeg v))) = ws') (kk : JN M D A ws' k n Q (pc + 1) L st) : JN M D A ws k n Q pc L (.int v :: .int x :: .ref a :: st) := by
  obtain ⟨p, l, e, R, s, m, args, below, meth, c, mc', ms'⟩ := M
  obtain ⟨hx, hb, hml, hown, hts, hfr, hlo, hce, hsl, hvb, hA⟩ := cn
  subst hws
  intro H locs ls hP hD hS hl
  exact va_iast hx hb hvb.1 hP hD hS q0 0 ha rfl hin d (fun H1 locs1 hP1 hD1 hS1 => kk H1 locs1 ls hP1 hD1 hS1 hl)
theorem N_vret (cn : CN M own cc nL lvl mc ms D cy A) (hi : IN M) {B : va_W → Prop} (d : decode cc pc = .ok (.return_, 1)) (hk : k ≤ M.2.2.2.2.2.2.2.2.2.2.1) (hn : n ≤ M.2.2.2.2.2.2.2.2.2.2.2) (hB : B ws) : JN M D A ws k n (QN M D A B) pc L [] := by
  obtain ⟨p, l, e, R, s, m, args, below, meth, c, mc', ms'⟩ := M
  obtain ⟨hx, hb, hml, hown, hts, hfr, hlo, hce, hsl, hvb, hA⟩ := cn
  intro H locs ls hP hD hS hl
  refine W.widen hk hn ?_
  exact W.vret hx hb hi.1 (fun t ht hW => ⟨⟨ws, rfl, hB, by rw [ht]; exact hP, hD⟩, hS.F ht⟩) hS.2.2 d hi.2.1
/-- new C, dup, C's constructor -/
theorem N_make (cn : CN M own cc nL lvl mc ms D cy A) {ci i1 i2 n2 lv2 mc2 ms2 N : Nat} {C : String} {T : u_T} {y : MethodName} {c2 : ByteArray} {fs0 : List Value} {ty : Nat → FieldType} {B : Nat → va_W → Prop} (hcl : vwCl[ci]? = some (C, T, N)) (hty : ∀ k, k < N → parseFieldDescriptor (T k).2.2.1 = some (ty k)) (hfs : ∀ j, j < N → defaultValue (ty j) = vp_V fs0 j)
    (d0 : decode cc pc = .ok (.new i1, 3)) (d1 : decode cc (pc + 3) = .ok (.dup, 1)) (d2 : decode cc (pc + 4) = .ok (.invokespecial i2, 3)) (w1 : Cond.classLink own i1 C ∈ gt) (w2 : Cond.instantiable C N ∈ gt) (w3 : Cond.initialized C ∈ gt) (w4 : Cond.code y c2 n2 none ∈ gt) (w5 : Cond.instanceMethod y ∈ gt) (hyc : y.cls = C) (hyn : y.name = "<init>") (hC : C ≠ "java/lang/invoke/MethodHandle" ∧ C ≠ "java/lang/invoke/VarHandle") (hyd : (parseMethodDescriptor y.desc).map (fun d => d.parameters.length) = some 0)
    (hlink : Cond.methodLinkNest own i2 y "LeftAlone" ∈ nestC ∨ Cond.methodLink own i2 y ∈ gt) (hM : CtN M.2.1 y c2 n2 lv2 mc2 ms2 D cy ci fs0 B) (hlv : lv2 < lvl) (hn2 : n2 ≤ 40) (hrs : (rest.map fun v => v.category).sum ≤ 7) (hc : k + 1 + mc2 ≤ mc) (hs : n + N + ms2 ≤ ms)
    (kk : ∀ q w, B q w → JN M D A (ws ++ w) (k + 1 + mc2) (n + N + ms2) Q (pc + 7) L (.ref q :: rest)) : JN M D A ws k n Q pc L rest := by
  obtain ⟨p, l, e, R, s, m, args, below, meth, c, mc', ms'⟩ := M
  obtain ⟨hx, hb, hml, hown, hts, hfr, hlo, hce, hsl, hvb, hA⟩ := cn
  obtain ⟨h1, -, -, hN, h6⟩ := cl_ok ci C T N hcl
  intro H locs ls hP hD hS hl
  refine va_new hx hb hts h1 ty hty hown (hts _ w1) (hts _ w2) (hts _ w3) hvb.1 hP hD hS hA hcl hfs (by omega) (by omega) d0 (fun q H1 hP1 hD1 hS1 => ?_)
  refine lv_dup hx hb d1 rfl ?_
  have hPc : va_P D vwCl [(q, .inr (ci, fs0))] H1 := fun i x hx' => by
    have h0 := (List.getElem?_eq_some_iff.mp hx').1
    simp at h0
    subst h0
    exact hP1 (ws.length + 0) x (by rw [List.getElem?_append_right (by omega), Nat.add_sub_cancel_left]; exact hx')
  have hqA : A q := hD1.2 (ws.length + 0) (q, .inr (ci, fs0)) (by rw [List.getElem?_append_right (by omega), Nat.add_sub_cancel_left]; rfl)
  have hFc : ∀ z, va_A [(q, .inr (ci, fs0))] H1.size z → A z := fun z hz => by
    rcases hz with ⟨i, e', hz⟩ | hz
    · have h0 := (List.getElem?_eq_some_iff.mp hz).1
      simp at h0
      subst h0
      cases hz
      exact hqA
    · exact hA z (Nat.le_trans hS1.1 hz)
  have pre : PreS s H1 (va_Pc [.ref q] (PrN D cy q ci fs0 H1.size)) (.ref q :: []) := ⟨fun a U g mk z => ⟨z.1, z.2.1, z.2.2.1, z.2.2.2.call⟩, fun U hU hW => ⟨rfl, by rw [hU], by rw [hU]; exact hPc, hvb.warm hW⟩⟩
  have hroom : (rmN lv2 mc2 ms2).frames + 1 ≤ R.frames ∧ 8 + (n2 + 11) + (rmN lv2 mc2 ms2).locals ≤ R.locals := ⟨by show lv2 + 1 ≤ R.frames; omega, by show 8 + (n2 + 11) + 64 * lv2 ≤ R.locals; omega⟩
  have hrs' : ((Value.ref q :: rest).map fun v => v.category).sum ≤ 8 := by
    show 1 + (rest.map fun v => v.category).sum ≤ 8
    omega
  have run : va_Run p l e R s m args below meth c H1 locs (k + 1) (n + N) mc2 ms2 (F0 m (pc + 4) ls (.ref q :: .ref q :: rest)) (.ref q :: rest) (QcN D (va_A [(q, .inr (ci, fs0))] H1.size) (B q) (Value.ref q :: []).toArray) (va_A [(q, .inr (ci, fs0))] H1.size) := by
    rcases hlink with hl1 | hl1
    · exact va_runIN (As := []) ⟨hx, hb, hml, hown, hts⟩ (hM q H1.size) ⟨va_cnB 0 hts (gt_in w4) rfl rfl rfl (hvb.2.2.1 _ hl1) (by rw [hyc]; exact hts _ w3) ⟨by rw [hyc]; exact hC.1, by rw [hyc]; exact hC.2, hyd⟩ hroom, hyn, hts _ w5⟩ pre rfl rfl (hl.1.trans hml) rfl (lv_room hrs') d2 ⟨by omega, by omega⟩
    · exact va_runI (As := []) ⟨hx, hb, hml, hown, hts⟩ (hM q H1.size) (cwI 0 hts (gt_in w4) rfl rfl rfl (by rw [hyc]; exact hts _ w3) (hts _ hl1) (hts _ w5) hyn ⟨by rw [hyc]; exact hC.1, by rw [hyc]; exact hC.2, hyd⟩ hroom) pre rfl rfl (hl.1.trans hml) rfl (lv_room hrs') d2 ⟨by omega, by omega⟩
  intro T hT X0
  obtain ⟨v, st₀, t, T', Lc, h0, X', hL, f1, f2, ⟨⟨w, hv, hB, hP2, hD2⟩, hz, hk⟩, stp⟩ := run T hT X0
  cases hv
  rw [h0] at hz hk
  rw [← f1] at hP2 hz
  obtain ⟨g1, g2⟩ := joinL (H1 := T'.heap) hP1 hD1 (fun z z1 z2 => by rw [f1]; exact hk z z1 z2) hFc hP2 hD2
  obtain ⟨t2, a1, b1⟩ := kk q w hB T'.heap (locs ++ Lc) ls g1 g2 ⟨Nat.le_trans hS1.1 hz, fun z z1 z2 => by rw [f1, hk z (Nat.lt_of_lt_of_le z1 hS1.1) (fun z3 => z2 (hFc z z3))]; exact hS1.2.1 z z1 z2, fun z hz' => by
    rcases List.mem_append.mp hz' with h | h
    · exact hS1.2.2 z h
    · exact hFc _ (hL z h)⟩ hl T' rfl X'
  exact ⟨t2, stp t2 a1, b1⟩
end NR
theorem CtN_of {l : Launch} {y : MethodName} {cc : ByteArray} {nL lvl mc ms ci : Nat} {D : va_G} {cy : Nat → ClassId} {fs0 : List Value} {B : Nat → va_W → Prop} {L : Nat → List (Option Value)} (hy : plainName y.cls = true) (hyn : y.name = "<init>") (hn : 1 ≤ nL) (hL : ∀ h0, en 0 (L h0) = lv_args 0 [.ref h0])
    (body : ∀ (M : MC) (h0 : Nat) (A : Nat → Prop), M.2.1 = l → M.2.2.2.2.2.2.2.2.2.2 = (mc, ms) → CN M y.cls cc nL lvl mc ms D cy A → IN M → JN M D A [(h0, .inr (ci, fs0))] 0 0 (QN M D A (B h0)) 0 (L h0) []) : CtN l y cc nL lvl mc ms D cy ci fs0 B := by
  intro h0 sz
  refine Met.ofW (cc := cc) (maxL := nL) (ret := none) hy rfl ?_
  intro p e s m args below meth c s₁ Bd hml hv
  obtain ⟨rfl, hsz, hP, hvb⟩ := hv
  subst hsz
  have hts := atoms_spec (ws := Cond.code y cc nL none :: gt) Bd.pre
  have hl := lv_entry [.ref h0] (n := nL) (show 1 ≤ nL from hn)
  rw [lg_entry_eq]
  generalize (lg_sl [.ref h0] ++ List.replicate (nL - (lg_sl [.ref h0]).length) Slot.unset).toArray = ls at hl ⊢
  refine body (p, l, e, rmN lvl mc ms, s, m, _, below, meth, c, mc, ms) h0 (va_A [(h0, .inr (ci, fs0))] s.heap.size) rfl rfl ⟨Bd.exec, Bd.bytes, hml, findClass_of_methodNamed Bd.named, fun w hw => hts w (List.mem_cons_of_mem _ hw), Nat.le_refl _, Nat.le_refl _, Nat.le_refl _, Nat.le_refl _, hvb, fun q hq => Or.inr hq⟩ ⟨Bd.returns, Bd.notSynchronized, (name_of_methodNamed Bd.named Bd.method).1.trans hyn⟩ s.heap [] ls hP (single_D (Or.inl ⟨0, _, rfl⟩)) va_S.rf ?_
  rw [hL, hml]
  exact hl
