/-! ===== the words that every method takes: the tables' good ones ===== -/
def gt : List Cond := lw_tbl.filter goodWord
theorem gt_of {w : Cond} (h : w ∈ lw_tbl) (g : goodWord w = true) : w ∈ gt := List.mem_filter.mpr ⟨h, g⟩
theorem gt_good {w : Cond} (h : w ∈ gt) : goodWord w = true := (List.mem_filter.mp h).2
theorem gt_tb {w : Cond} (i : Nat) (h : tables_1[i]? = some w) (g : goodWord w = true) : w ∈ gt := gt_of (List.mem_append_right _ (List.mem_of_getElem? h)) g
theorem gt_pv {y : MethodName} (i n : Nat) (h : lw_privs[i]? = some (y, n)) (g : goodWord (Cond.selects y.cls y y) = true) : Cond.selects y.cls y y ∈ gt :=
  gt_of (List.mem_append_left _ (List.mem_map.mpr ⟨(y, n), List.mem_of_getElem? h, rfl⟩)) g
theorem gt_in {y : MethodName} {b : ByteArray} {n : Nat} {r : Option FieldType} (h : Cond.code y b n r ∈ gt) : GoodIn gt (Cond.code y b n r :: gt) := fun w hw => by
  rcases List.mem_cons.mp hw with rfl | h1
  · exact ⟨h, good_of_word (gt_good h)⟩
  · exact ⟨h1, good_of_word (gt_good h1)⟩
/-! ===== the layout: what each cell is ===== -/
abbrev PI : Type := Nat → Nat → Int32
/-- Town number k (0 the town, 1 the trial, 2, 3 the images, 4 .. 27 the acts): its object at j = 0, its arrays at j = 1 .. 8 -/
def tc (k j : Nat) : Nat := 9 * k + j
/-- Row number r: its object at j = 0, its items at 1 -/
def rc (r j : Nat) : Nat := 260 + 2 * r + j
def kq (i : Nat) : Nat × Nat :=
  if i < 252 then (if i % 9 = 0 then (3, 0) else if i % 9 = 7 then (6, 30) else if i % 9 = 1 then (6, 5) else if i % 9 = 2 then (6, 5) else if i % 9 = 8 then (6, 5) else (6, 6))
  else if i = 252 then (4, 0) else if i = 253 then (8, 8) else if i = 254 then (9, 2) else if i = 255 then (9, 24) else if i = 256 then (0, 0) else if i = 257 then (1, 0) else if i = 258 then (6, 120) else if i = 259 then (6, 16)
  else if i < 276 then (if i % 2 = 0 then (2, 0) else (6, 40))
  else if i = 276 then (5, 0) else if i = 277 then (6, 8) else if i = 278 then (6, 8) else if i = 279 then (6, 320) else if i = 280 then (6, 70) else if i = 281 then (6, 40) else if i = 282 then (6, 120) else if i = 283 then (6, 70)
  else if i = 284 then (6, 1680) else if i = 285 then (6, 70) else if i = 286 then (7, 2) else if i = 287 then (6, 140) else (6, 16)
def rq (i k : Nat) : Option Nat :=
  if i < 252 then some (i + 1 + k)
  else if i = 252 then (if k = 0 then some 253 else if k = 1 then some 257 else if k = 2 then some 256 else if k = 3 then some 0 else if k = 4 then some 9 else if k = 5 then some 254 else some 259)
  else if i = 253 then some (260 + 2 * k) else if i = 254 then some (18 + 9 * k) else if i = 255 then some (36 + 9 * k) else if i = 256 then some 255 else if i = 257 then some 258
  else if i < 276 then some (i + 1)
  else if k = 0 then some 277 else if k = 1 then some 278 else if k = 2 then some 279 else if k = 5 then some 280 else if k = 7 then some 281 else if k = 8 then some 282 else if k = 16 then some 283 else if k = 18 then some 284 else if k = 20 then some 285 else if k = 21 then some 286 else if k = 22 then some 287 else some 288
def nF (c : Nat) : Nat := if c = 0 then 3 else if c = 1 then 8 else if c = 2 then 4 else if c = 3 then 15 else if c = 4 then 10 else 25
def fR (c k : Nat) : Bool := if c = 3 then decide (k < 8) else if c = 4 then decide (k < 7) else if c = 5 then decide (k ∈ [0, 1, 2, 5, 7, 8, 16, 18, 20, 21, 22, 23]) else decide (k = 0)
/-- addresses, classes and slots, array classes (6 int, 7 boolean, 8 Row, 9 Town), the three static rows, what may change -/
abbrev XP : Type := (Nat → Nat) × va_G × (Nat → ClassId) × (Nat → Nat) × (Nat → Prop)
def fsO (X : XP) (σ : PI) (c i : Nat) : List Value := (List.range (nF c)).map (fun k => if fR c k then va_rf ((rq i k).map X.1) else .int (σ i k))
def ent (X : XP) (σ : PI) (i : Nat) : va_E :=
  if (kq i).1 < 6 then .inr ((kq i).1, fsO X σ (kq i).1 i)
  else if (kq i).1 < 8 then .inl (X.2.2.1 (kq i).1, (kq i).2, .inl (σ i))
  else .inl (X.2.2.1 (kq i).1, (kq i).2, .inr (.inr (.inr (.inr (fun j => (rq i j).map X.1)))))
def wl (X : XP) (σ : PI) : va_W := (List.range 289).map (fun i => (X.1 i, ent X σ i))
def up (σ : PI) (i k : Nat) (v : Int32) : PI := fun a => if a = i then upd (σ i) k v else σ a
def upA (σ : PI) (i : Nat) (f : Nat → Int32) : PI := fun a => if a = i then f else σ a
theorem wl_get {X : XP} {σ : PI} {i : Nat} (h : i < 289) : (wl X σ)[i]? = some (X.1 i, ent X σ i) := by
  simp [wl, List.getElem?_map, List.getElem?_range h]
theorem ent_cong {X : XP} {σ τ : PI} {i : Nat} (h : τ i = σ i) : ent X τ i = ent X σ i := by
  unfold ent fsO
  rw [h]
theorem wl_set {X : XP} {σ τ : PI} {i : Nat} {e : va_E} (hi : i < 289) (h : ∀ j, j ≠ i → τ j = σ j) (he : ent X τ i = e) : (wl X σ).set i (X.1 i, e) = wl X τ := by
  apply List.ext_getElem?
  intro j
  by_cases hj : j < 289
  · rw [wl_get hj]
    by_cases e1 : i = j
    · subst e1
      rw [List.getElem?_set_self (by simp [wl]; exact hi), he]
    · rw [List.getElem?_set_ne e1, wl_get hj, ent_cong (h j (fun q => e1 q.symm))]
  · rw [List.getElem?_eq_none (by simp [wl]; omega), List.getElem?_eq_none (by simp [wl]; omega)]
def tyX (X : XP) : List (ClassId × FieldType) := [(X.2.2.1 6, .int), (X.2.2.1 7, .boolean), (X.2.2.1 8, .object "LeftAlone$Row"), (X.2.2.1 9, .object "LeftAlone$Town")]
def nestW : List Cond := [.methodLinkNest "LeftAlone$Reader" 107 ⟨"LeftAlone", "within", "(III)Z"⟩ "LeftAlone", .methodLinkNest "LeftAlone$Town" 84 ⟨"LeftAlone", "bit", "(II)I"⟩ "LeftAlone"]
def sArr (n : Nat) : Nat → Int32 := fun j => if n = 0 then [-1, 0, 1, 1, 0, 4].getD j 0 else if n = 1 then [10, 11, 12, 0, 13, 14].getD j 0 else [20, 21, 24, 22, 23, 0].getD j 0
def sNm (n : Nat) : String := if n = 0 then "ABOVE" else if n = 1 then "SIZE_BODIES" else "MARK_BODIES"
def VK (X : XP) (U : State) : Prop := va_K X.2.1 vwCl (tyX X) U ∧ ∀ w ∈ nestW, va_Nw w U
def ST (X : XP) (U : State) (H : Heap) : Prop := ∀ n, n < 3 → va_Z "LeftAlone" (sNm n) "[I" (.ref (X.2.2.2.1 n)) X.2.2.2.2 U H ∧ va_T .int (X.2.2.2.1 n) 6 (fun j => .int (sArr n j)) X.2.2.2.2 U H
def AD (X : XP) : Prop := (∀ i j, i < 289 → j < 289 → X.1 i = X.1 j → i = j) ∧ ∀ i, i < 289 → X.2.2.2.2 (X.1 i)
def Wd (X : XP) (σ : PI) (U : State) : Prop := va_P X.2.1 vwCl (wl X σ) U.heap ∧ VK X U ∧ ST X U U.heap ∧ AD X
theorem AD.d {X : XP} (h : AD X) (σ : PI) : va_D X.2.2.2.2 (wl X σ) := by
  have key : ∀ (i : Nat) (p : Nat × va_E), (wl X σ)[i]? = some p → i < 289 ∧ p.1 = X.1 i := by
    intro i p hp
    by_cases hi : i < 289
    · rw [wl_get hi] at hp
      cases hp
      exact ⟨hi, rfl⟩
    · rw [List.getElem?_eq_none (by simp [wl]; omega)] at hp
      cases hp
  refine ⟨fun i j p q hp hq e => ?_, fun k q hq => ?_⟩
  · obtain ⟨h1, h2⟩ := key i p hp
    obtain ⟨h3, h4⟩ := key j q hq
    exact h.1 i j h1 h3 (by rw [← h2, ← h4]; exact e)
  · obtain ⟨h1, h2⟩ := key k q hq
    rw [h2]
    exact h.2 k h1
theorem va_Nw.warmW {w : Cond} (hw : w ∈ nestW) {s U : State} (hW : s.WarmedH U.vm) (h : va_Nw w s) : va_Nw w U := by
  simp only [nestW, List.mem_cons, List.not_mem_nil, or_false] at hw
  rcases hw with rfl | rfl <;> exact va_Nw.warmM hW h
theorem VK.warm {X : XP} {s U : State} (hW : s.WarmedH U.vm) (h : VK X s) : VK X U := ⟨va_K.moved hW.alike h.1, fun w hw => va_Nw.warmW hw hW (h.2 w hw)⟩
/-! ===== the locals ===== -/
def en : Nat → List (Option Value) → List (Nat × Value)
  | _, [] => []
  | i, none :: t => en (i + 1) t
  | i, some v :: t => (i, v) :: en (i + 1) t
def lg : List (Option Value) → Nat → Option Value
  | [], _ => none
  | x :: _, 0 => x
  | _ :: t, n + 1 => lg t n
theorem lg_en {v : Value} : ∀ (L : List (Option Value)) (i j : Nat), lg L i = some v → (j + i, v) ∈ en j L
  | [], i, j, h => by cases h
  | none :: t, 0, j, h => by cases h
  | some w :: t, 0, j, h => by
    cases h
    exact List.mem_cons_self
  | none :: t, i + 1, j, h => by
    have := lg_en t i (j + 1) h
    rw [show j + 1 + i = j + (i + 1) by omega] at this
    exact this
  | some w :: t, i + 1, j, h => by
    have := lg_en t i (j + 1) h
    rw [show j + 1 + i = j + (i + 1) by omega] at this
    exact List.mem_cons_of_mem _ this
theorem en_lg {v : Value} {q : Nat} : ∀ (L : List (Option Value)) (j : Nat), (q, v) ∈ en j L → j ≤ q ∧ lg L (q - j) = some v
  | [], j, h => by cases h
  | none :: t, j, h => by
    obtain ⟨h1, h2⟩ := en_lg t (j + 1) h
    refine ⟨by omega, ?_⟩
    rw [show q - j = (q - (j + 1)) + 1 by omega]
    exact h2
  | some w :: t, j, h => by
    rcases List.mem_cons.mp h with h | h
    · cases h
      refine ⟨Nat.le_refl _, ?_⟩
      rw [Nat.sub_self]
      rfl
    · obtain ⟨h1, h2⟩ := en_lg t (j + 1) h
      refine ⟨by omega, ?_⟩
      rw [show q - j = (q - (j + 1)) + 1 by omega]
      exact h2
theorem en_at {L : List (Option Value)} {i : Nat} {v : Value} {ls : Array Slot} {n : Nat} (h : lv_has ls n (en 0 L)) (hi : lg L i = some v) : ls[i]? = some (.val v) := by
  have := lg_en L i 0 hi
  rw [Nat.zero_add] at this
  exact h.2.2 _ this
def ls1 : List (Option Value) → Nat → Option Value → List (Option Value)
  | [], _, _ => []
  | _ :: t, 0, v => v :: t
  | x :: t, n + 1, v => x :: ls1 t n v
theorem lg_ls1 {v : Option Value} : ∀ (L : List (Option Value)) (i j : Nat) (w : Value), lg (ls1 L i v) j = some w → (j = i ∧ v = some w) ∨ (j ≠ i ∧ lg L j = some w)
  | [], i, j, w, h => by cases h
  | x :: t, 0, 0, w, h => Or.inl ⟨rfl, h⟩
  | x :: t, 0, j + 1, w, h => Or.inr ⟨by omega, h⟩
  | x :: t, i + 1, 0, w, h => Or.inr ⟨by omega, h⟩
  | x :: t, i + 1, j + 1, w, h => by
    rcases lg_ls1 t i j w h with ⟨h1, h2⟩ | ⟨h1, h2⟩
    · exact Or.inl ⟨by omega, h2⟩
    · exact Or.inr ⟨by omega, h2⟩
/-- no long stands just ahead of place i -/
def ok1 (L : List (Option Value)) (i : Nat) : Bool := match i with
  | 0 => true
  | j + 1 => match lg L j with
    | some (.long _) => false
    | some (.double _) => false
    | _ => true
theorem ok1_cat {L : List (Option Value)} {i q : Nat} {w : Value} (h : ok1 L i = true) (hq : q + 1 = i) (hw : lg L q = some w) : ¬ w.category = 2 := by
  subst hq
  simp only [ok1, hw] at h
  intro hc
  cases w <;> simp [Value.category] at hc <;> simp at h
theorem lv_has_sub {ls : Array Slot} {n : Nat} {l l' : List (Nat × Value)} (h : lv_has ls n l) (hs : ∀ q ∈ l', q ∈ l) : lv_has ls n l' := ⟨h.1, h.2.1, fun q hq => h.2.2 q (hs q hq)⟩
theorem en_st1 {L : List (Option Value)} {i : Nat} {v : Value} (ho : ok1 L i = true) : ∀ q ∈ en 0 (ls1 L i (some v)), q ∈ (i, v) :: (en 0 L).filter (fun q => !(q.1 == i) && !(q.1 + 1 == i && q.2.category == 2)) := by
  rintro ⟨q, w⟩ hq
  obtain ⟨-, h2⟩ := en_lg _ 0 hq
  rw [Nat.sub_zero] at h2
  rcases lg_ls1 L i q w h2 with ⟨h3, h4⟩ | ⟨h3, h4⟩
  · cases h4
    subst h3
    exact List.mem_cons_self
  · refine List.mem_cons_of_mem _ (List.mem_filter.mpr ⟨?_, ?_⟩)
    · have := lg_en L q 0 h4
      rwa [Nat.zero_add] at this
    · by_cases h5 : q + 1 = i
      · have := ok1_cat ho h5 h4
        simp [h3, this]
      · simp [h3, h5]
theorem en_st2 {L : List (Option Value)} {i : Nat} {v : Value} (ho : ok1 L i = true) : ∀ q ∈ en 0 (ls1 (ls1 L i (some v)) (i + 1) none), q ∈ (i, v) :: (en 0 L).filter (fun q => !(q.1 == i) && (!(q.1 == i + 1) && !(q.1 + 1 == i && q.2.category == 2))) := by
  rintro ⟨q, w⟩ hq
  obtain ⟨-, h2⟩ := en_lg _ 0 hq
  rw [Nat.sub_zero] at h2
  rcases lg_ls1 _ (i + 1) q w h2 with ⟨h3, h4⟩ | ⟨h3, h4⟩
  · cases h4
  · rcases lg_ls1 L i q w h4 with ⟨h5, h6⟩ | ⟨h5, h6⟩
    · cases h6
      subst h5
      exact List.mem_cons_self
    · refine List.mem_cons_of_mem _ (List.mem_filter.mpr ⟨?_, ?_⟩)
      · have := lg_en L q 0 h6
        rwa [Nat.zero_add] at this
      · by_cases h7 : q + 1 = i
        · have := ok1_cat ho h7 h6
          simp [h3, h5, this]
        · simp [h3, h5, h7]
theorem en_fg {L : List (Option Value)} (i : Nat) : ∀ q ∈ en 0 (ls1 L i none), q ∈ en 0 L := by
  rintro ⟨q, w⟩ hq
  obtain ⟨-, h2⟩ := en_lg _ 0 hq
  rw [Nat.sub_zero] at h2
  rcases lg_ls1 L i q w h2 with ⟨-, h4⟩ | ⟨-, h4⟩
  · cases h4
  · have := lg_en L q 0 h4
    rwa [Nat.zero_add] at this
