
/-! ===== the judgement: from here the method comes to its end ===== -/
abbrev MC : Type := Program × Launch × Env × Room × State × MethodId × Array Value × List Frame × Method × Code × Nat × Nat
def J (M : MC) (X : XP) (Q : State → Prop) (σ : PI) (pc : Nat) (L : List (Option Value)) (st : List Value) : Prop := match M with
  | (p, l, e, R, s, m, args, below, meth, c, cells, slots) => ∀ (H : Heap) (locs : List Loc) (ls : Array Slot), va_P X.2.1 vwCl (wl X σ) H → va_S X.2.2.2.2 s.heap H locs → lv_has ls c.maxLocals (en 0 L) → W p l e R s m args below meth c H locs cells slots Q (F0 m pc ls st)
def Cx (M : MC) (X : XP) (own : String) (cc : ByteArray) (nL : Nat) (ret : Option FieldType) (lvl : Nat) : Prop := match M with
  | (p, l, e, R, s, m, args, below, meth, c, cells, slots) => p.tables.exec = Jvm.exec ∧ c.code = cc ∧ c.maxLocals = nL ∧ s.vm.findClass own = some m.cls ∧ (∀ w ∈ gt, w.before args s = true) ∧ meth.sig.returnType = ret ∧ meth.locks = false ∧ lvl ≤ R.frames ∧ 64 * lvl ≤ R.locals ∧ cells ≤ R.cells ∧ slots ≤ R.slots ∧ VK X s ∧ ST X s s.heap ∧ AD X
def rmL (n : Nat) : Room := { frames := n, cells := 0, slots := 0, locals := 64 * n }
def QcO (X : XP) (Qr : Option Value → PI → Prop) : Array Value → State → Outcome → State → Prop := fun _ st oc t => (∃ (r : Option Value) (σ : PI), oc = .returned r ∧ Qr r σ ∧ Wd X σ t) ∧ va_F X.2.2.2.2 st t
def QF (M : MC) (X : XP) (Qr : Option Value → PI → Prop) : State → Prop := match M with
  | (p, l, e, R, s, m, args, below, meth, c, cells, slots) => MQ below (QcO X Qr) args s cells slots X.2.2.2.2
def Ct (l : Launch) (y : MethodName) (cc : ByteArray) (nL : Nat) (ret : Option FieldType) (lvl : Nat) (X : XP) (as : List Value) (σ : PI) (Qr : Option Value → PI → Prop) : Prop :=
  Met l y (Cond.code y cc nL ret :: gt) (rmL lvl) (va_Pc as (fun U => Wd X σ U)) (QcO X Qr) 0 0 X.2.2.2.2
def qI (Q : Int32 → PI → Prop) : Option Value → PI → Prop := fun r σ => ∃ v : Int32, r = some (.int v) ∧ Q v σ
def qL (Q : Int64 → PI → Prop) : Option Value → PI → Prop := fun r σ => ∃ v : Int64, r = some (.long v) ∧ Q v σ
def qV (Q : PI → Prop) : Option Value → PI → Prop := fun r σ => r = none ∧ Q σ
def bz (v : Int32) : Prop := v = 0 ∨ v = 1
section JR
variable {M : MC} {X : XP} {Q : State → Prop} {σ : PI} {pc : Nat} {L : List (Option Value)} {st rest : List Value} {own : String} {cc : ByteArray} {nL : Nat} {ret : Option FieldType} {lvl : Nat}

theorem J_iconst (cx : Cx M X own cc nL ret lvl) {n : Int} {v : Int32} (d : decode cc pc = .ok (.iconst n, 1)) (hv : Int32.ofInt n = v) (k : J M X Q σ (pc + 1) L (.int v :: st)) : J M X Q σ pc L (st) := by
  obtain ⟨p, l, e, R, s, m, args, below, meth, c, cells, slots⟩ := M
  intro H locs ls hP hS hl
  exact lv_iconst cx.1 cx.2.1 d hv (k H locs ls hP hS hl)
theorem J_bipush (cx : Cx M X own cc nL ret lvl) {n : Int} {v : Int32} (d : decode cc pc = .ok (.bipush n, 2)) (hv : (Int8.ofInt n).toInt32 = v) (k : J M X Q σ (pc + 2) L (.int v :: st)) : J M X Q σ pc L (st) := by
  obtain ⟨p, l, e, R, s, m, args, below, meth, c, cells, slots⟩ := M
  intro H locs ls hP hS hl
  exact lv_bipush cx.1 cx.2.1 d hv (k H locs ls hP hS hl)
theorem J_sipush (cx : Cx M X own cc nL ret lvl) {n : Int} {v : Int32} (d : decode cc pc = .ok (.sipush n, 3)) (hv : (Int16.ofInt n).toInt32 = v) (k : J M X Q σ (pc + 3) L (.int v :: st)) : J M X Q σ pc L (st) := by
  obtain ⟨p, l, e, R, s, m, args, below, meth, c, cells, slots⟩ := M
  intro H locs ls hP hS hl
  exact lv_sipush cx.1 cx.2.1 d hv (k H locs ls hP hS hl)
theorem J_lconst (cx : Cx M X own cc nL ret lvl) {n : Fin 2} {v : Int64} (d : decode cc pc = .ok (.lconst n, 1)) (hv : Int64.ofNat (n : Nat) = v) (k : J M X Q σ (pc + 1) L (.long v :: st)) : J M X Q σ pc L (st) := by
  obtain ⟨p, l, e, R, s, m, args, below, meth, c, cells, slots⟩ := M
  intro H locs ls hP hS hl
  exact lv_lconst cx.1 cx.2.1 d hv (k H locs ls hP hS hl)
theorem J_iload_n (cx : Cx M X own cc nL ret lvl) {q : Fin 4} (i : Nat) {x : Int32} (d : decode cc pc = .ok (.iload_n q, 1)) (hi : (q : Nat) = i) (hx : lg L i = some (.int x)) (k : J M X Q σ (pc + 1) L (.int x :: st)) : J M X Q σ pc L (st) := by
  obtain ⟨p, l, e, R, s, m, args, below, meth, c, cells, slots⟩ := M
  intro H locs ls hP hS hl
  exact lv_iload_n cx.1 cx.2.1 d hi (en_at hl hx) (k H locs ls hP hS hl)
theorem J_iload (cx : Cx M X own cc nL ret lvl) {i : Nat} {x : Int32} (d : decode cc pc = .ok (.iload i, 2)) (hx : lg L i = some (.int x)) (k : J M X Q σ (pc + 2) L (.int x :: st)) : J M X Q σ pc L (st) := by
  obtain ⟨p, l, e, R, s, m, args, below, meth, c, cells, slots⟩ := M
  intro H locs ls hP hS hl
  exact lv_iload cx.1 cx.2.1 d (en_at hl hx) (k H locs ls hP hS hl)
theorem J_lload_n (cx : Cx M X own cc nL ret lvl) {q : Fin 4} (i : Nat) {x : Int64} (d : decode cc pc = .ok (.lload_n q, 1)) (hi : (q : Nat) = i) (hx : lg L i = some (.long x)) (k : J M X Q σ (pc + 1) L (.long x :: st)) : J M X Q σ pc L (st) := by
  obtain ⟨p, l, e, R, s, m, args, below, meth, c, cells, slots⟩ := M
  intro H locs ls hP hS hl
  exact lv_lload_n cx.1 cx.2.1 d hi (en_at hl hx) (k H locs ls hP hS hl)
theorem J_lload (cx : Cx M X own cc nL ret lvl) {i : Nat} {x : Int64} (d : decode cc pc = .ok (.lload i, 2)) (hx : lg L i = some (.long x)) (k : J M X Q σ (pc + 2) L (.long x :: st)) : J M X Q σ pc L (st) := by
  obtain ⟨p, l, e, R, s, m, args, below, meth, c, cells, slots⟩ := M
  intro H locs ls hP hS hl
  exact lv_lload cx.1 cx.2.1 d (en_at hl hx) (k H locs ls hP hS hl)
theorem J_aload_n (cx : Cx M X own cc nL ret lvl) {q : Fin 4} (i : Nat) {x : Nat} (d : decode cc pc = .ok (.aload_n q, 1)) (hi : (q : Nat) = i) (hx : lg L i = some (.ref x)) (k : J M X Q σ (pc + 1) L (.ref x :: st)) : J M X Q σ pc L (st) := by
  obtain ⟨p, l, e, R, s, m, args, below, meth, c, cells, slots⟩ := M
  intro H locs ls hP hS hl
  exact lv_aload_n cx.1 cx.2.1 d hi (en_at hl hx) (k H locs ls hP hS hl)
theorem J_aload (cx : Cx M X own cc nL ret lvl) {i : Nat} {x : Nat} (d : decode cc pc = .ok (.aload i, 2)) (hx : lg L i = some (.ref x)) (k : J M X Q σ (pc + 2) L (.ref x :: st)) : J M X Q σ pc L (st) := by
  obtain ⟨p, l, e, R, s, m, args, below, meth, c, cells, slots⟩ := M
  intro H locs ls hP hS hl
  exact lv_aload cx.1 cx.2.1 d (en_at hl hx) (k H locs ls hP hS hl)
theorem J_istore_n (cx : Cx M X own cc nL ret lvl) {q : Fin 4} (i : Nat) {x : Int32} {L' : List (Option Value)} (d : decode cc pc = .ok (.istore_n q, 1)) (hi : (q : Nat) = i) (hn : i < nL) (ho : ok1 L i = true) (hL : ls1 L i (some (.int x)) = L') (k : J M X Q σ (pc + 1) L' st) : J M X Q σ pc L (.int x :: st) := by
  obtain ⟨p, l, e, R, s, m, args, below, meth, c, cells, slots⟩ := M
  intro H locs ls hP hS hl
  subst hL
  exact lv_istore_n cx.1 cx.2.1 d hi hl (by rw [show c.maxLocals = nL from cx.2.2.1]; exact hn) rfl (fun ls hl => k H locs ls hP hS (lv_has_sub hl (en_st1 ho)))
theorem J_istore (cx : Cx M X own cc nL ret lvl) {i : Nat} {x : Int32} {L' : List (Option Value)} (d : decode cc pc = .ok (.istore i, 2))  (hn : i < nL) (ho : ok1 L i = true) (hL : ls1 L i (some (.int x)) = L') (k : J M X Q σ (pc + 2) L' st) : J M X Q σ pc L (.int x :: st) := by
  obtain ⟨p, l, e, R, s, m, args, below, meth, c, cells, slots⟩ := M
  intro H locs ls hP hS hl
  subst hL
  exact lv_istore cx.1 cx.2.1 d  hl (by rw [show c.maxLocals = nL from cx.2.2.1]; exact hn) rfl (fun ls hl => k H locs ls hP hS (lv_has_sub hl (en_st1 ho)))
theorem J_astore_n (cx : Cx M X own cc nL ret lvl) {q : Fin 4} (i : Nat) {x : Nat} {L' : List (Option Value)} (d : decode cc pc = .ok (.astore_n q, 1)) (hi : (q : Nat) = i) (hn : i < nL) (ho : ok1 L i = true) (hL : ls1 L i (some (.ref x)) = L') (k : J M X Q σ (pc + 1) L' st) : J M X Q σ pc L (.ref x :: st) := by
  obtain ⟨p, l, e, R, s, m, args, below, meth, c, cells, slots⟩ := M
  intro H locs ls hP hS hl
  subst hL
  exact lv_astore_n cx.1 cx.2.1 d hi hl (by rw [show c.maxLocals = nL from cx.2.2.1]; exact hn) rfl (fun ls hl => k H locs ls hP hS (lv_has_sub hl (en_st1 ho)))
theorem J_astore (cx : Cx M X own cc nL ret lvl) {i : Nat} {x : Nat} {L' : List (Option Value)} (d : decode cc pc = .ok (.astore i, 2))  (hn : i < nL) (ho : ok1 L i = true) (hL : ls1 L i (some (.ref x)) = L') (k : J M X Q σ (pc + 2) L' st) : J M X Q σ pc L (.ref x :: st) := by
  obtain ⟨p, l, e, R, s, m, args, below, meth, c, cells, slots⟩ := M
  intro H locs ls hP hS hl
  subst hL
  exact lv_astore cx.1 cx.2.1 d  hl (by rw [show c.maxLocals = nL from cx.2.2.1]; exact hn) rfl (fun ls hl => k H locs ls hP hS (lv_has_sub hl (en_st1 ho)))
theorem J_lstore_n (cx : Cx M X own cc nL ret lvl) {q : Fin 4} (i : Nat) {x : Int64} {L' : List (Option Value)} (d : decode cc pc = .ok (.lstore_n q, 1)) (hi : (q : Nat) = i) (hn : i + 1 < nL) (ho : ok1 L i = true) (hL : ls1 (ls1 L i (some (.long x))) (i + 1) none = L') (k : J M X Q σ (pc + 1) L' st) : J M X Q σ pc L (.long x :: st) := by
  obtain ⟨p, l, e, R, s, m, args, below, meth, c, cells, slots⟩ := M
  intro H locs ls hP hS hl
  subst hL
  exact lv_lstore_n cx.1 cx.2.1 d hi hl (by rw [show c.maxLocals = nL from cx.2.2.1]; exact hn) rfl (fun ls hl => k H locs ls hP hS (lv_has_sub hl (en_st2 ho)))
theorem J_lstore (cx : Cx M X own cc nL ret lvl) {i : Nat} {x : Int64} {L' : List (Option Value)} (d : decode cc pc = .ok (.lstore i, 2))  (hn : i + 1 < nL) (ho : ok1 L i = true) (hL : ls1 (ls1 L i (some (.long x))) (i + 1) none = L') (k : J M X Q σ (pc + 2) L' st) : J M X Q σ pc L (.long x :: st) := by
  obtain ⟨p, l, e, R, s, m, args, below, meth, c, cells, slots⟩ := M
  intro H locs ls hP hS hl
  subst hL
  exact lv_lstore cx.1 cx.2.1 d  hl (by rw [show c.maxLocals = nL from cx.2.2.1]; exact hn) rfl (fun ls hl => k H locs ls hP hS (lv_has_sub hl (en_st2 ho)))
theorem J_iinc (cx : Cx M X own cc nL ret lvl) {i : Nat} {n : Int} {x v : Int32} {L' : List (Option Value)} (d : decode cc pc = .ok (.iinc i n, 3)) (hx : lg L i = some (.int x)) (hv : Int32.ofInt n = v) (hn : i < nL) (ho : ok1 L i = true) (hL : ls1 L i (some (.int (x + v))) = L') (k : J M X Q σ (pc + 3) L' st) : J M X Q σ pc L st := by
  obtain ⟨p, l, e, R, s, m, args, below, meth, c, cells, slots⟩ := M
  intro H locs ls hP hS hl
  subst hL
  have h1 := lg_en L i 0 hx
  rw [Nat.zero_add] at h1
  obtain ⟨w, hw⟩ := List.getElem?_of_mem h1
  exact lv_iinc cx.1 cx.2.1 d hl hw (by rw [hv]) (by rw [show c.maxLocals = nL from cx.2.2.1]; exact hn) rfl (fun ls hl => k H locs ls hP hS (lv_has_sub hl (en_st1 ho)))
theorem J_fg {L' : List (Option Value)} (i : Nat) (hL : ls1 L i none = L') (k : J M X Q σ pc L' st) : J M X Q σ pc L st := by
  obtain ⟨p, l, e, R, s, m, args, below, meth, c, cells, slots⟩ := M
  intro H locs ls hP hS hl
  subst hL
  exact k H locs ls hP hS (lv_has_sub hl (en_fg i))
theorem J_iadd (cx : Cx M X own cc nL ret lvl) {x y : Int32} (d : decode cc pc = .ok (.iadd, 1))  (k : J M X Q σ (pc + 1) L (.int (x + y) :: st)) : J M X Q σ pc L (.int y :: .int x :: st) := by
  obtain ⟨p, l, e, R, s, m, args, below, meth, c, cells, slots⟩ := M
  intro H locs ls hP hS hl
  exact lv_iadd cx.1 cx.2.1 d (k H locs ls hP hS hl)
theorem J_isub (cx : Cx M X own cc nL ret lvl) {x y : Int32} (d : decode cc pc = .ok (.isub, 1))  (k : J M X Q σ (pc + 1) L (.int (x - y) :: st)) : J M X Q σ pc L (.int y :: .int x :: st) := by
  obtain ⟨p, l, e, R, s, m, args, below, meth, c, cells, slots⟩ := M
  intro H locs ls hP hS hl
  exact lv_isub cx.1 cx.2.1 d (k H locs ls hP hS hl)
theorem J_imul (cx : Cx M X own cc nL ret lvl) {x y : Int32} (d : decode cc pc = .ok (.imul, 1))  (k : J M X Q σ (pc + 1) L (.int (x * y) :: st)) : J M X Q σ pc L (.int y :: .int x :: st) := by
  obtain ⟨p, l, e, R, s, m, args, below, meth, c, cells, slots⟩ := M
  intro H locs ls hP hS hl
  exact lv_imul cx.1 cx.2.1 d (k H locs ls hP hS hl)
theorem J_iand (cx : Cx M X own cc nL ret lvl) {x y : Int32} (d : decode cc pc = .ok (.iand, 1))  (k : J M X Q σ (pc + 1) L (.int (x &&& y) :: st)) : J M X Q σ pc L (.int y :: .int x :: st) := by
  obtain ⟨p, l, e, R, s, m, args, below, meth, c, cells, slots⟩ := M
  intro H locs ls hP hS hl
  exact lv_iand cx.1 cx.2.1 d (k H locs ls hP hS hl)
theorem J_ior (cx : Cx M X own cc nL ret lvl) {x y : Int32} (d : decode cc pc = .ok (.ior, 1))  (k : J M X Q σ (pc + 1) L (.int (x ||| y) :: st)) : J M X Q σ pc L (.int y :: .int x :: st) := by
  obtain ⟨p, l, e, R, s, m, args, below, meth, c, cells, slots⟩ := M
  intro H locs ls hP hS hl
  exact lv_ior cx.1 cx.2.1 d (k H locs ls hP hS hl)
theorem J_ixor (cx : Cx M X own cc nL ret lvl) {x y : Int32} (d : decode cc pc = .ok (.ixor, 1))  (k : J M X Q σ (pc + 1) L (.int (x ^^^ y) :: st)) : J M X Q σ pc L (.int y :: .int x :: st) := by
  obtain ⟨p, l, e, R, s, m, args, below, meth, c, cells, slots⟩ := M
  intro H locs ls hP hS hl
  exact lv_ixor cx.1 cx.2.1 d (k H locs ls hP hS hl)
theorem J_ladd (cx : Cx M X own cc nL ret lvl) {x y : Int64} (d : decode cc pc = .ok (.ladd, 1))  (k : J M X Q σ (pc + 1) L (.long (x + y) :: st)) : J M X Q σ pc L (.long y :: .long x :: st) := by
  obtain ⟨p, l, e, R, s, m, args, below, meth, c, cells, slots⟩ := M
  intro H locs ls hP hS hl
  exact lv_ladd cx.1 cx.2.1 d (k H locs ls hP hS hl)
theorem J_lsub (cx : Cx M X own cc nL ret lvl) {x y : Int64} (d : decode cc pc = .ok (.lsub, 1))  (k : J M X Q σ (pc + 1) L (.long (x - y) :: st)) : J M X Q σ pc L (.long y :: .long x :: st) := by
  obtain ⟨p, l, e, R, s, m, args, below, meth, c, cells, slots⟩ := M
  intro H locs ls hP hS hl
  exact lv_lsub cx.1 cx.2.1 d (k H locs ls hP hS hl)
theorem J_lmul (cx : Cx M X own cc nL ret lvl) {x y : Int64} (d : decode cc pc = .ok (.lmul, 1))  (k : J M X Q σ (pc + 1) L (.long (x * y) :: st)) : J M X Q σ pc L (.long y :: .long x :: st) := by
  obtain ⟨p, l, e, R, s, m, args, below, meth, c, cells, slots⟩ := M
  intro H locs ls hP hS hl
  exact lv_lmul cx.1 cx.2.1 d (k H locs ls hP hS hl)
theorem J_idiv (cx : Cx M X own cc nL ret lvl) {x y : Int32} (d : decode cc pc = .ok (.idiv, 1)) (hne : ¬ y = 0) (k : J M X Q σ (pc + 1) L (.int (x / y) :: st)) : J M X Q σ pc L (.int y :: .int x :: st) := by
  obtain ⟨p, l, e, R, s, m, args, below, meth, c, cells, slots⟩ := M
  intro H locs ls hP hS hl
  exact lv_idiv cx.1 cx.2.1 d hne (k H locs ls hP hS hl)
theorem J_ldiv (cx : Cx M X own cc nL ret lvl) {x y : Int64} (d : decode cc pc = .ok (.ldiv, 1)) (hne : ¬ y = 0) (k : J M X Q σ (pc + 1) L (.long (x / y) :: st)) : J M X Q σ pc L (.long y :: .long x :: st) := by
  obtain ⟨p, l, e, R, s, m, args, below, meth, c, cells, slots⟩ := M
  intro H locs ls hP hS hl
  exact lv_ldiv cx.1 cx.2.1 d hne (k H locs ls hP hS hl)
theorem J_irem (cx : Cx M X own cc nL ret lvl) {x y : Int32} (d : decode cc pc = .ok (.irem, 1)) (hne : ¬ y = 0) (k : J M X Q σ (pc + 1) L (.int (x - x / y * y) :: st)) : J M X Q σ pc L (.int y :: .int x :: st) := by
  obtain ⟨p, l, e, R, s, m, args, below, meth, c, cells, slots⟩ := M
  intro H locs ls hP hS hl
  exact lv_irem cx.1 cx.2.1 d hne (k H locs ls hP hS hl)
theorem J_lrem (cx : Cx M X own cc nL ret lvl) {x y : Int64} (d : decode cc pc = .ok (.lrem, 1)) (hne : ¬ y = 0) (k : J M X Q σ (pc + 1) L (.long (x - x / y * y) :: st)) : J M X Q σ pc L (.long y :: .long x :: st) := by
  obtain ⟨p, l, e, R, s, m, args, below, meth, c, cells, slots⟩ := M
  intro H locs ls hP hS hl
  exact lv_lrem cx.1 cx.2.1 d hne (k H locs ls hP hS hl)
theorem J_ishl (cx : Cx M X own cc nL ret lvl) {x y : Int32} (d : decode cc pc = .ok (.ishl, 1))  (k : J M X Q σ (pc + 1) L (.int (x <<< (y &&& 31)) :: st)) : J M X Q σ pc L (.int y :: .int x :: st) := by
  obtain ⟨p, l, e, R, s, m, args, below, meth, c, cells, slots⟩ := M
  intro H locs ls hP hS hl
  exact lv_ishl cx.1 cx.2.1 d (k H locs ls hP hS hl)
theorem J_ishr (cx : Cx M X own cc nL ret lvl) {x y : Int32} (d : decode cc pc = .ok (.ishr, 1))  (k : J M X Q σ (pc + 1) L (.int (x >>> (y &&& 31)) :: st)) : J M X Q σ pc L (.int y :: .int x :: st) := by
  obtain ⟨p, l, e, R, s, m, args, below, meth, c, cells, slots⟩ := M
  intro H locs ls hP hS hl
  exact lv_ishr cx.1 cx.2.1 d (k H locs ls hP hS hl)
theorem J_ineg (cx : Cx M X own cc nL ret lvl) {x : Int32} (d : decode cc pc = .ok (.ineg, 1))  (k : J M X Q σ (pc + 1) L (.int (-x) :: st)) : J M X Q σ pc L (.int x :: st) := by
  obtain ⟨p, l, e, R, s, m, args, below, meth, c, cells, slots⟩ := M
  intro H locs ls hP hS hl
  exact lv_ineg cx.1 cx.2.1 d (k H locs ls hP hS hl)
theorem J_i2l (cx : Cx M X own cc nL ret lvl) {x : Int32} (d : decode cc pc = .ok (.i2l, 1))  (k : J M X Q σ (pc + 1) L (.long x.toInt64 :: st)) : J M X Q σ pc L (.int x :: st) := by
  obtain ⟨p, l, e, R, s, m, args, below, meth, c, cells, slots⟩ := M
  intro H locs ls hP hS hl
  exact lv_i2l cx.1 cx.2.1 d rfl (k H locs ls hP hS hl)
theorem J_l2i (cx : Cx M X own cc nL ret lvl) {x : Int64} (d : decode cc pc = .ok (.l2i, 1))  (k : J M X Q σ (pc + 1) L (.int x.toInt32 :: st)) : J M X Q σ pc L (.long x :: st) := by
  obtain ⟨p, l, e, R, s, m, args, below, meth, c, cells, slots⟩ := M
  intro H locs ls hP hS hl
  exact lv_l2i cx.1 cx.2.1 d rfl (k H locs ls hP hS hl)
theorem J_i2b (cx : Cx M X own cc nL ret lvl) {x : Int32} (d : decode cc pc = .ok (.i2b, 1))  (k : J M X Q σ (pc + 1) L (.int x.toInt8.toInt32 :: st)) : J M X Q σ pc L (.int x :: st) := by
  obtain ⟨p, l, e, R, s, m, args, below, meth, c, cells, slots⟩ := M
  intro H locs ls hP hS hl
  exact lv_i2b cx.1 cx.2.1 d rfl (k H locs ls hP hS hl)
theorem J_i2s (cx : Cx M X own cc nL ret lvl) {x : Int32} (d : decode cc pc = .ok (.i2s, 1))  (k : J M X Q σ (pc + 1) L (.int x.toInt16.toInt32 :: st)) : J M X Q σ pc L (.int x :: st) := by
  obtain ⟨p, l, e, R, s, m, args, below, meth, c, cells, slots⟩ := M
  intro H locs ls hP hS hl
  exact lv_i2s cx.1 cx.2.1 d rfl (k H locs ls hP hS hl)
theorem J_iushr (cx : Cx M X own cc nL ret lvl) {x y : Int32} (d : decode cc pc = .ok (.iushr, 1))  (k : J M X Q σ (pc + 1) L (.int (x.toUInt32 >>> (y.toUInt32 &&& Int32.toUInt32 31)).toInt32 :: st)) : J M X Q σ pc L (.int y :: .int x :: st) := by
  obtain ⟨p, l, e, R, s, m, args, below, meth, c, cells, slots⟩ := M
  intro H locs ls hP hS hl
  exact lv_iushr cx.1 cx.2.1 d rfl (k H locs ls hP hS hl)
theorem J_lcmp (cx : Cx M X own cc nL ret lvl) {x y : Int64} (d : decode cc pc = .ok (.lcmp, 1))  (k : J M X Q σ (pc + 1) L (.int (lg_cmp x y) :: st)) : J M X Q σ pc L (.long y :: .long x :: st) := by
  obtain ⟨p, l, e, R, s, m, args, below, meth, c, cells, slots⟩ := M
  intro H locs ls hP hS hl
  exact W.lcmp cx.1 cx.2.1 d (k H locs ls hP hS hl)
theorem J_dup (cx : Cx M X own cc nL ret lvl) {v : Value} (d : decode cc pc = .ok (.dup, 1)) (hv : v.category = 1) (k : J M X Q σ (pc + 1) L (v :: v :: st)) : J M X Q σ pc L (v :: st) := by
  obtain ⟨p, l, e, R, s, m, args, below, meth, c, cells, slots⟩ := M
  intro H locs ls hP hS hl
  exact lv_dup cx.1 cx.2.1 d hv (k H locs ls hP hS hl)
theorem J_pop (cx : Cx M X own cc nL ret lvl) {v : Value} (d : decode cc pc = .ok (.pop, 1)) (hv : v.category = 1) (k : J M X Q σ (pc + 1) L (st)) : J M X Q σ pc L (v :: st) := by
  obtain ⟨p, l, e, R, s, m, args, below, meth, c, cells, slots⟩ := M
  intro H locs ls hP hS hl
  exact lv_pop cx.1 cx.2.1 d hv (k H locs ls hP hS hl)
theorem J_dup2 (cx : Cx M X own cc nL ret lvl) {v w : Value} (d : decode cc pc = .ok (.dup2, 1)) (hv : v.category = 1) (hw : w.category = 1) (k : J M X Q σ (pc + 1) L (v :: w :: v :: w :: st)) : J M X Q σ pc L (v :: w :: st) := by
  obtain ⟨p, l, e, R, s, m, args, below, meth, c, cells, slots⟩ := M
  intro H locs ls hP hS hl
  exact lv_dup2_11 cx.1 cx.2.1 d hv hw (k H locs ls hP hS hl)
theorem J_if_eq (cx : Cx M X own cc nL ret lvl) {x : Int32} {off : Int} {tgt : Nat} (d : decode cc pc = .ok (.ifCond .eq off, 3)) (ht : (pc : Int) + off = (tgt : Int)) (kt : x = 0 → J M X Q σ tgt L st) (kf : ¬ x = 0 → J M X Q σ (pc + 3) L st) : J M X Q σ pc L (.int x :: st) := by
  obtain ⟨p, l, e, R, s, m, args, below, meth, c, cells, slots⟩ := M
  intro H locs ls hP hS hl
  exact lv_if_eq cx.1 cx.2.1 d ht (fun q => kt q H locs ls hP hS hl) (fun q => kf q H locs ls hP hS hl)
theorem J_icmp_eq (cx : Cx M X own cc nL ret lvl) {x y : Int32} {off : Int} {tgt : Nat} (d : decode cc pc = .ok (.if_icmp .eq off, 3)) (ht : (pc : Int) + off = (tgt : Int)) (kt : x = y → J M X Q σ tgt L st) (kf : ¬ x = y → J M X Q σ (pc + 3) L st) : J M X Q σ pc L (.int y :: .int x :: st) := by
  obtain ⟨p, l, e, R, s, m, args, below, meth, c, cells, slots⟩ := M
  intro H locs ls hP hS hl
  exact lv_icmp_eq cx.1 cx.2.1 d ht (fun q => kt q H locs ls hP hS hl) (fun q => kf q H locs ls hP hS hl)
theorem J_if_ne (cx : Cx M X own cc nL ret lvl) {x : Int32} {off : Int} {tgt : Nat} (d : decode cc pc = .ok (.ifCond .ne off, 3)) (ht : (pc : Int) + off = (tgt : Int)) (kt : ¬ x = 0 → J M X Q σ tgt L st) (kf : x = 0 → J M X Q σ (pc + 3) L st) : J M X Q σ pc L (.int x :: st) := by
  obtain ⟨p, l, e, R, s, m, args, below, meth, c, cells, slots⟩ := M
  intro H locs ls hP hS hl
  exact lv_if_ne cx.1 cx.2.1 d ht (fun q => kt q H locs ls hP hS hl) (fun q => kf q H locs ls hP hS hl)
theorem J_icmp_ne (cx : Cx M X own cc nL ret lvl) {x y : Int32} {off : Int} {tgt : Nat} (d : decode cc pc = .ok (.if_icmp .ne off, 3)) (ht : (pc : Int) + off = (tgt : Int)) (kt : ¬ x = y → J M X Q σ tgt L st) (kf : x = y → J M X Q σ (pc + 3) L st) : J M X Q σ pc L (.int y :: .int x :: st) := by
  obtain ⟨p, l, e, R, s, m, args, below, meth, c, cells, slots⟩ := M
  intro H locs ls hP hS hl
  exact lv_icmp_ne cx.1 cx.2.1 d ht (fun q => kt q H locs ls hP hS hl) (fun q => kf q H locs ls hP hS hl)
theorem J_if_lt (cx : Cx M X own cc nL ret lvl) {x : Int32} {off : Int} {tgt : Nat} (d : decode cc pc = .ok (.ifCond .lt off, 3)) (ht : (pc : Int) + off = (tgt : Int)) (kt : x < 0 → J M X Q σ tgt L st) (kf : ¬ x < 0 → J M X Q σ (pc + 3) L st) : J M X Q σ pc L (.int x :: st) := by
  obtain ⟨p, l, e, R, s, m, args, below, meth, c, cells, slots⟩ := M
  intro H locs ls hP hS hl
  exact lv_if_lt cx.1 cx.2.1 d ht (fun q => kt q H locs ls hP hS hl) (fun q => kf q H locs ls hP hS hl)
theorem J_icmp_lt (cx : Cx M X own cc nL ret lvl) {x y : Int32} {off : Int} {tgt : Nat} (d : decode cc pc = .ok (.if_icmp .lt off, 3)) (ht : (pc : Int) + off = (tgt : Int)) (kt : x < y → J M X Q σ tgt L st) (kf : ¬ x < y → J M X Q σ (pc + 3) L st) : J M X Q σ pc L (.int y :: .int x :: st) := by
  obtain ⟨p, l, e, R, s, m, args, below, meth, c, cells, slots⟩ := M
  intro H locs ls hP hS hl
  exact lv_icmp_lt cx.1 cx.2.1 d ht (fun q => kt q H locs ls hP hS hl) (fun q => kf q H locs ls hP hS hl)
theorem J_if_ge (cx : Cx M X own cc nL ret lvl) {x : Int32} {off : Int} {tgt : Nat} (d : decode cc pc = .ok (.ifCond .ge off, 3)) (ht : (pc : Int) + off = (tgt : Int)) (kt : 0 ≤ x → J M X Q σ tgt L st) (kf : ¬ 0 ≤ x → J M X Q σ (pc + 3) L st) : J M X Q σ pc L (.int x :: st) := by
  obtain ⟨p, l, e, R, s, m, args, below, meth, c, cells, slots⟩ := M
  intro H locs ls hP hS hl
  exact lv_if_ge cx.1 cx.2.1 d ht (fun q => kt q H locs ls hP hS hl) (fun q => kf q H locs ls hP hS hl)
theorem J_icmp_ge (cx : Cx M X own cc nL ret lvl) {x y : Int32} {off : Int} {tgt : Nat} (d : decode cc pc = .ok (.if_icmp .ge off, 3)) (ht : (pc : Int) + off = (tgt : Int)) (kt : y ≤ x → J M X Q σ tgt L st) (kf : ¬ y ≤ x → J M X Q σ (pc + 3) L st) : J M X Q σ pc L (.int y :: .int x :: st) := by
  obtain ⟨p, l, e, R, s, m, args, below, meth, c, cells, slots⟩ := M
  intro H locs ls hP hS hl
  exact lv_icmp_ge cx.1 cx.2.1 d ht (fun q => kt q H locs ls hP hS hl) (fun q => kf q H locs ls hP hS hl)
theorem J_if_gt (cx : Cx M X own cc nL ret lvl) {x : Int32} {off : Int} {tgt : Nat} (d : decode cc pc = .ok (.ifCond .gt off, 3)) (ht : (pc : Int) + off = (tgt : Int)) (kt : 0 < x → J M X Q σ tgt L st) (kf : ¬ 0 < x → J M X Q σ (pc + 3) L st) : J M X Q σ pc L (.int x :: st) := by
  obtain ⟨p, l, e, R, s, m, args, below, meth, c, cells, slots⟩ := M
  intro H locs ls hP hS hl
  exact lv_if_gt cx.1 cx.2.1 d ht (fun q => kt q H locs ls hP hS hl) (fun q => kf q H locs ls hP hS hl)
theorem J_icmp_gt (cx : Cx M X own cc nL ret lvl) {x y : Int32} {off : Int} {tgt : Nat} (d : decode cc pc = .ok (.if_icmp .gt off, 3)) (ht : (pc : Int) + off = (tgt : Int)) (kt : y < x → J M X Q σ tgt L st) (kf : ¬ y < x → J M X Q σ (pc + 3) L st) : J M X Q σ pc L (.int y :: .int x :: st) := by
  obtain ⟨p, l, e, R, s, m, args, below, meth, c, cells, slots⟩ := M
  intro H locs ls hP hS hl
  exact lv_icmp_gt cx.1 cx.2.1 d ht (fun q => kt q H locs ls hP hS hl) (fun q => kf q H locs ls hP hS hl)
theorem J_if_le (cx : Cx M X own cc nL ret lvl) {x : Int32} {off : Int} {tgt : Nat} (d : decode cc pc = .ok (.ifCond .le off, 3)) (ht : (pc : Int) + off = (tgt : Int)) (kt : x ≤ 0 → J M X Q σ tgt L st) (kf : ¬ x ≤ 0 → J M X Q σ (pc + 3) L st) : J M X Q σ pc L (.int x :: st) := by
  obtain ⟨p, l, e, R, s, m, args, below, meth, c, cells, slots⟩ := M
  intro H locs ls hP hS hl
  exact lv_if_le cx.1 cx.2.1 d ht (fun q => kt q H locs ls hP hS hl) (fun q => kf q H locs ls hP hS hl)
theorem J_icmp_le (cx : Cx M X own cc nL ret lvl) {x y : Int32} {off : Int} {tgt : Nat} (d : decode cc pc = .ok (.if_icmp .le off, 3)) (ht : (pc : Int) + off = (tgt : Int)) (kt : x ≤ y → J M X Q σ tgt L st) (kf : ¬ x ≤ y → J M X Q σ (pc + 3) L st) : J M X Q σ pc L (.int y :: .int x :: st) := by
  obtain ⟨p, l, e, R, s, m, args, below, meth, c, cells, slots⟩ := M
  intro H locs ls hP hS hl
  exact lv_icmp_le cx.1 cx.2.1 d ht (fun q => kt q H locs ls hP hS hl) (fun q => kf q H locs ls hP hS hl)
theorem J_goto (cx : Cx M X own cc nL ret lvl) {off : Int} {tgt : Nat} (d : decode cc pc = .ok (.goto off, 3)) (ht : (pc : Int) + off = (tgt : Int)) (k : J M X Q σ tgt L st) : J M X Q σ pc L st := by
  obtain ⟨p, l, e, R, s, m, args, below, meth, c, cells, slots⟩ := M
  intro H locs ls hP hS hl
  exact lv_goto cx.1 cx.2.1 d ht (k H locs ls hP hS hl)
theorem J_ldc (cx : Cx M X own cc nL ret lvl) {i : Nat} {v : Int32} (d : decode cc pc = .ok (.ldc i, 2)) (hw : Cond.constant own i v ∈ gt) (k : J M X Q σ (pc + 2) L (.int v :: st)) : J M X Q σ pc L st := by
  obtain ⟨p, l, e, R, s, m, args, below, meth, c, cells, slots⟩ := M
  intro H locs ls hP hS hl
  exact lv_ldc cx.1 cx.2.1 cx.2.2.2.1 (cx.2.2.2.2.1 _ hw) d (k H locs ls hP hS hl)
theorem J_ldc_w (cx : Cx M X own cc nL ret lvl) {i : Nat} {v : Int32} (d : decode cc pc = .ok (.ldc_w i, 3)) (hw : Cond.constant own i v ∈ gt) (k : J M X Q σ (pc + 3) L (.int v :: st)) : J M X Q σ pc L st := by
  obtain ⟨p, l, e, R, s, m, args, below, meth, c, cells, slots⟩ := M
  intro H locs ls hP hS hl
  exact lv_ldcw cx.1 cx.2.1 cx.2.2.2.1 (cx.2.2.2.2.1 _ hw) d (k H locs ls hP hS hl)
theorem J_ldc2 (cx : Cx M X own cc nL ret lvl) {i : Nat} {v : Int64} (d : decode cc pc = .ok (.ldc2_w i, 3)) (hw : Cond.constantLong own i v ∈ gt) (k : J M X Q σ (pc + 3) L (.long v :: st)) : J M X Q σ pc L st := by
  obtain ⟨p, l, e, R, s, m, args, below, meth, c, cells, slots⟩ := M
  intro H locs ls hP hS hl
  exact lv_ldc2 cx.1 cx.2.1 cx.2.2.2.1 (cx.2.2.2.2.1 _ hw) d (k H locs ls hP hS hl)
theorem J_tsI (cx : Cx M X own cc nL ret lvl) {dflt lo hi : Int} {offs : Array Int} {len : Nat} {x : Int32} {off : Int} {tgt : Nat} (v : Int32) (hx : x = v) (d : decode cc pc = .ok (.tableswitch dflt lo hi offs, len)) (h1 : ¬ v.toInt < lo) (h2 : ¬ hi < v.toInt) (ho : offs[(v.toInt - lo).toNat]? = some off) (ht : (pc : Int) + off = (tgt : Int)) (k : J M X Q σ tgt L st) : J M X Q σ pc L (.int x :: st) := by
  obtain ⟨p, l, e, R, s, m, args, below, meth, c, cells, slots⟩ := M
  intro H locs ls hP hS hl
  subst hx
  exact lv_tableIn cx.1 cx.2.1 d h1 h2 ho ht (k H locs ls hP hS hl)
theorem J_tsO (cx : Cx M X own cc nL ret lvl) {dflt lo hi : Int} {offs : Array Int} {len : Nat} {x : Int32} {tgt : Nat} (d : decode cc pc = .ok (.tableswitch dflt lo hi offs, len)) (h : x.toInt < lo ∨ hi < x.toInt) (ht : (pc : Int) + dflt = (tgt : Int)) (k : J M X Q σ tgt L st) : J M X Q σ pc L (.int x :: st) := by
  obtain ⟨p, l, e, R, s, m, args, below, meth, c, cells, slots⟩ := M
  intro H locs ls hP hS hl
  exact lv_tableOut cx.1 cx.2.1 d h ht (k H locs ls hP hS hl)
theorem J_lsw (cx : Cx M X own cc nL ret lvl) {dflt : Int} {ps : Array (Int × Int)} {len : Nat} {x : Int32} {off : Int} {tgt : Nat} (d : decode cc pc = .ok (.lookupswitch dflt ps, len)) (hp : (ps.toList.zip (ps.toList.drop 1)).all (fun (a, next) => a.1 < next.1) = true) (ho : Op.lookupswitch.offset ps.toList dflt x.toInt = off) (ht : (pc : Int) + off = (tgt : Int)) (k : J M X Q σ tgt L st) : J M X Q σ pc L (.int x :: st) := by
  obtain ⟨p, l, e, R, s, m, args, below, meth, c, cells, slots⟩ := M
  intro H locs ls hP hS hl
  exact lv_lookup cx.1 cx.2.1 d hp ho ht (k H locs ls hP hS hl)

end JR
