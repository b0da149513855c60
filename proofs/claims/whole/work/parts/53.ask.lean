/-! ===== ask: bodies that begin, in a trace ===== -/
section AK
variable {σ τ : PI} {t : Nat → Nat}
/-- the class's trace is L, all else as in σ -/
def Tr (σ τ : PI) (L : List Int32) : Prop := (∀ c, c ≠ 252 → c ≠ 259 → τ c = σ c) ∧ (∀ s, s ≠ 7 → τ 252 s = σ 252 s) ∧ τ 252 7 = nI L.length ∧ ∀ i, i < L.length → τ 259 i = L.getD i 0
def Ts (σ τ : PI) (L : List Int32) : Prop := (∀ c, c ≠ 276 → c ≠ 288 → τ c = σ c) ∧ (∀ s, s ≠ 24 → τ 276 s = σ 276 s) ∧ τ 276 24 = nI L.length ∧ ∀ i, i < L.length → τ 288 i = L.getD i 0
theorem getD_app {L : List Int32} {x : Int32} {i : Nat} (h : i < L.length) : (L ++ [x]).getD i 0 = L.getD i 0 := by
  rw [List.getD_eq_getElem?_getD, List.getD_eq_getElem?_getD, List.getElem?_append_left h]
theorem getD_app' {L : List Int32} {x : Int32} : (L ++ [x]).getD L.length 0 = x := by
  rw [List.getD_eq_getElem?_getD, List.getElem?_append_right (Nat.le_refl _), Nat.sub_self]; rfl
theorem C_leave {L : List Int32} {x : Int32} {Q : PI → Prop} (hT : Tr σ τ L) (hl : L.length < 16) (h : ∀ υ, Tr σ υ (L ++ [x]) → Q υ) : wp_X4_leaveInTrace x τ Q := by
  obtain ⟨h1, h2, h3, h4⟩ := hT
  unfold wp_X4_leaveInTrace
  rw [h3, nI_le' (by omega) (by omega), nI_cl (a := L.length) (by omega)]
  refine ⟨fun q => absurd q (by omega), fun _ => ⟨vpN hl (by omega), fun τ1 e1 τ2 e2 => h τ2 ⟨fun c c1 c2 => ?_, fun s hs => ?_, ?_, fun i hi => ?_⟩⟩⟩
  · rw [e2, up_ne c1, e1, up_ne c2]; exact h1 c c1 c2
  · rw [e2, up_k hs, e1, up_ne (by omega)]; exact h2 s hs
  · rw [e2, up_s, e1, up_ne (by omega), h3, nI_add, List.length_append]; rfl
  · rw [List.length_append] at hi
    rw [e2, up_ne (by omega), e1]
    by_cases q : i = L.length
    · subst q; rw [up_s, getD_app']
    · have : i < L.length := by simp at hi; omega
      rw [up_k q, getD_app this]; exact h4 i this
theorem M_begin {L : List Int32} {x : Int32} {Q : PI → Prop} (hT : Ts σ τ L) (hl : L.length < 16) (h : ∀ υ, Ts σ υ (L ++ [x]) → Q υ) : wp_X5_begin x τ Q := by
  obtain ⟨h1, h2, h3, h4⟩ := hT
  unfold wp_X5_begin
  rw [h3, nI_le' (by omega) (by omega), nI_cl (a := L.length) (by omega)]
  refine ⟨fun q => absurd q (by omega), fun _ => ⟨vpN hl (by omega), fun τ1 e1 τ2 e2 => h τ2 ⟨fun c c1 c2 => ?_, fun s hs => ?_, ?_, fun i hi => ?_⟩⟩⟩
  · rw [e2, up_ne c1, e1, up_ne c2]; exact h1 c c1 c2
  · rw [e2, up_k hs, e1, up_ne (by omega)]; exact h2 s hs
  · rw [e2, up_s, e1, up_ne (by omega), h3, nI_add, List.length_append]; rfl
  · rw [List.length_append] at hi
    rw [e2, up_ne (by omega), e1]
    by_cases q : i = L.length
    · subst q; rw [up_s, getD_app']
    · have : i < L.length := by simp at hi; omega
      rw [up_k q, getD_app this]; exact h4 i this
theorem B_10 {rec : Int32 → Int32 → Int32 → PI → (Int32 → PI → Prop) → Prop} {l a : Nat} {L : List Int32} {Q : Int32 → PI → Prop} (hT : Tr σ τ L) (ha : a ≤ 12) (hl : L.length < 16) (h : ∀ υ, Tr σ υ (L ++ [nI 10]) → vp_in (nI l) 6 ∧ (Q (υ (tc 0 5) (nI l : Int32).toNatClampNeg) υ)) : B_X4_body rec (nI 10) (nI l) (nI a) τ Q := by
  unfold B_X4_body
  rw [nI_le' (by omega) (by omega)]
  refine ⟨fun _ => C_leave hT hl (fun υ hu x ex => ?_), fun q => absurd ha q⟩
  rw [ex, nI_add]
  exact ⟨fun _ => h υ hu, fun q => absurd q (by decide), fun q => absurd q (by decide), fun q => absurd q (by decide), fun q => absurd q (by decide), fun q => absurd q (by decide), fun q => absurd q (by decide), fun q => absurd q (by decide), fun q => absurd q (by decide), fun q => absurd q (by decide), fun q => absurd q (by decide), fun q => absurd q (by decide), fun q => absurd q (by decide), fun q => absurd q (by decide), fun q => absurd q (by decide), fun q => absurd q (by decide)⟩
theorem B_11 {rec : Int32 → Int32 → Int32 → PI → (Int32 → PI → Prop) → Prop} {l a : Nat} {L : List Int32} {Q : Int32 → PI → Prop} (hT : Tr σ τ L) (ha : a ≤ 12) (hl : L.length < 16) (h : ∀ υ, Tr σ υ (L ++ [nI 11]) → rec (nI 10) (nI l) (nI (a + 1)) υ (fun r8 τ7 => (wp_X4_markBody (nI l) τ7 (fun r10 τ9 => (rec r10 (nI l) (nI (a + 1)) τ9 (fun r12 τ11 => (Q (r8 + r12) τ11))))))) : B_X4_body rec (nI 11) (nI l) (nI a) τ Q := by
  unfold B_X4_body
  rw [nI_le' (by omega) (by omega)]
  refine ⟨fun _ => C_leave hT hl (fun υ hu x ex => ?_), fun q => absurd ha q⟩
  rw [ex, nI_add]
  exact ⟨fun q => absurd q (by decide), fun _ => h υ hu, fun q => absurd q (by decide), fun q => absurd q (by decide), fun q => absurd q (by decide), fun q => absurd q (by decide), fun q => absurd q (by decide), fun q => absurd q (by decide), fun q => absurd q (by decide), fun q => absurd q (by decide), fun q => absurd q (by decide), fun q => absurd q (by decide), fun q => absurd q (by decide), fun q => absurd q (by decide), fun q => absurd q (by decide), fun q => absurd q (by decide)⟩
theorem B_12 {rec : Int32 → Int32 → Int32 → PI → (Int32 → PI → Prop) → Prop} {l a : Nat} {L : List Int32} {Q : Int32 → PI → Prop} (hT : Tr σ τ L) (ha : a ≤ 12) (hl : L.length < 16) (h : ∀ υ, Tr σ υ (L ++ [nI 12]) → rec (nI 11) (nI l) (nI (a + 1)) υ (fun r15 τ14 => (Q (-r15) τ14))) : B_X4_body rec (nI 12) (nI l) (nI a) τ Q := by
  unfold B_X4_body
  rw [nI_le' (by omega) (by omega)]
  refine ⟨fun _ => C_leave hT hl (fun υ hu x ex => ?_), fun q => absurd ha q⟩
  rw [ex, nI_add]
  exact ⟨fun q => absurd q (by decide), fun q => absurd q (by decide), fun _ => h υ hu, fun q => absurd q (by decide), fun q => absurd q (by decide), fun q => absurd q (by decide), fun q => absurd q (by decide), fun q => absurd q (by decide), fun q => absurd q (by decide), fun q => absurd q (by decide), fun q => absurd q (by decide), fun q => absurd q (by decide), fun q => absurd q (by decide), fun q => absurd q (by decide), fun q => absurd q (by decide), fun q => absurd q (by decide)⟩
theorem B_13 {rec : Int32 → Int32 → Int32 → PI → (Int32 → PI → Prop) → Prop} {l a : Nat} {L : List Int32} {Q : Int32 → PI → Prop} (hT : Tr σ τ L) (ha : a ≤ 12) (hl : L.length < 16) (h : ∀ υ, Tr σ υ (L ++ [nI 13]) → rec (nI 10) (nI l) (nI (a + 1)) υ (fun r18 τ17 => (Q (r18 - (nI 100)) τ17))) : B_X4_body rec (nI 13) (nI l) (nI a) τ Q := by
  unfold B_X4_body
  rw [nI_le' (by omega) (by omega)]
  refine ⟨fun _ => C_leave hT hl (fun υ hu x ex => ?_), fun q => absurd ha q⟩
  rw [ex, nI_add]
  exact ⟨fun q => absurd q (by decide), fun q => absurd q (by decide), fun q => absurd q (by decide), fun _ => h υ hu, fun q => absurd q (by decide), fun q => absurd q (by decide), fun q => absurd q (by decide), fun q => absurd q (by decide), fun q => absurd q (by decide), fun q => absurd q (by decide), fun q => absurd q (by decide), fun q => absurd q (by decide), fun q => absurd q (by decide), fun q => absurd q (by decide), fun q => absurd q (by decide), fun q => absurd q (by decide)⟩
theorem B_14 {rec : Int32 → Int32 → Int32 → PI → (Int32 → PI → Prop) → Prop} {l a : Nat} {L : List Int32} {Q : Int32 → PI → Prop} (hT : Tr σ τ L) (ha : a ≤ 12) (hl : L.length < 16) (h : ∀ υ, Tr σ υ (L ++ [nI 14]) → rec (nI 13) (nI l) (nI (a + 1)) υ (fun r21 τ20 => (Q ((nI 2) * r21) τ20))) : B_X4_body rec (nI 14) (nI l) (nI a) τ Q := by
  unfold B_X4_body
  rw [nI_le' (by omega) (by omega)]
  refine ⟨fun _ => C_leave hT hl (fun υ hu x ex => ?_), fun q => absurd ha q⟩
  rw [ex, nI_add]
  exact ⟨fun q => absurd q (by decide), fun q => absurd q (by decide), fun q => absurd q (by decide), fun q => absurd q (by decide), fun _ => h υ hu, fun q => absurd q (by decide), fun q => absurd q (by decide), fun q => absurd q (by decide), fun q => absurd q (by decide), fun q => absurd q (by decide), fun q => absurd q (by decide), fun q => absurd q (by decide), fun q => absurd q (by decide), fun q => absurd q (by decide), fun q => absurd q (by decide), fun q => absurd q (by decide)⟩
theorem B_20 {rec : Int32 → Int32 → Int32 → PI → (Int32 → PI → Prop) → Prop} {l a : Nat} {L : List Int32} {Q : Int32 → PI → Prop} (hT : Tr σ τ L) (ha : a ≤ 12) (hl : L.length < 16) (h : ∀ υ, Tr σ υ (L ++ [nI 20]) → Q (nI l) υ) : B_X4_body rec (nI 20) (nI l) (nI a) τ Q := by
  unfold B_X4_body
  rw [nI_le' (by omega) (by omega)]
  refine ⟨fun _ => C_leave hT hl (fun υ hu x ex => ?_), fun q => absurd ha q⟩
  rw [ex, nI_add]
  exact ⟨fun q => absurd q (by decide), fun q => absurd q (by decide), fun q => absurd q (by decide), fun q => absurd q (by decide), fun q => absurd q (by decide), fun q => absurd q (by decide), fun q => absurd q (by decide), fun q => absurd q (by decide), fun q => absurd q (by decide), fun q => absurd q (by decide), fun _ => h υ hu, fun q => absurd q (by decide), fun q => absurd q (by decide), fun q => absurd q (by decide), fun q => absurd q (by decide), fun q => absurd q (by decide)⟩
theorem B_21 {rec : Int32 → Int32 → Int32 → PI → (Int32 → PI → Prop) → Prop} {l a : Nat} {L : List Int32} {Q : Int32 → PI → Prop} (hT : Tr σ τ L) (ha : a ≤ 12) (hl : L.length < 16) (h : ∀ υ, Tr σ υ (L ++ [nI 21]) → rec (nI 20) (nI l) (nI (a + 1)) υ (fun r30 τ29 => (wp_X3_makesToday 0 (nI l) τ29 (fun r32 τ31 => (Q (r30 + r32) τ31))))) : B_X4_body rec (nI 21) (nI l) (nI a) τ Q := by
  unfold B_X4_body
  rw [nI_le' (by omega) (by omega)]
  refine ⟨fun _ => C_leave hT hl (fun υ hu x ex => ?_), fun q => absurd ha q⟩
  rw [ex, nI_add]
  exact ⟨fun q => absurd q (by decide), fun q => absurd q (by decide), fun q => absurd q (by decide), fun q => absurd q (by decide), fun q => absurd q (by decide), fun q => absurd q (by decide), fun q => absurd q (by decide), fun q => absurd q (by decide), fun q => absurd q (by decide), fun q => absurd q (by decide), fun q => absurd q (by decide), fun _ => h υ hu, fun q => absurd q (by decide), fun q => absurd q (by decide), fun q => absurd q (by decide), fun q => absurd q (by decide)⟩
theorem B_22 {rec : Int32 → Int32 → Int32 → PI → (Int32 → PI → Prop) → Prop} {l a : Nat} {L : List Int32} {Q : Int32 → PI → Prop} (hT : Tr σ τ L) (ha : a ≤ 12) (hl : L.length < 16) (h : ∀ υ, Tr σ υ (L ++ [nI 22]) → rec (nI 21) (nI l) (nI (a + 1)) υ (fun r35 τ34 => (Q (r35 - (nI 1000)) τ34))) : B_X4_body rec (nI 22) (nI l) (nI a) τ Q := by
  unfold B_X4_body
  rw [nI_le' (by omega) (by omega)]
  refine ⟨fun _ => C_leave hT hl (fun υ hu x ex => ?_), fun q => absurd ha q⟩
  rw [ex, nI_add]
  exact ⟨fun q => absurd q (by decide), fun q => absurd q (by decide), fun q => absurd q (by decide), fun q => absurd q (by decide), fun q => absurd q (by decide), fun q => absurd q (by decide), fun q => absurd q (by decide), fun q => absurd q (by decide), fun q => absurd q (by decide), fun q => absurd q (by decide), fun q => absurd q (by decide), fun q => absurd q (by decide), fun _ => h υ hu, fun q => absurd q (by decide), fun q => absurd q (by decide), fun q => absurd q (by decide)⟩
theorem B_23 {rec : Int32 → Int32 → Int32 → PI → (Int32 → PI → Prop) → Prop} {l a : Nat} {L : List Int32} {Q : Int32 → PI → Prop} (hT : Tr σ τ L) (ha : a ≤ 12) (hl : L.length < 16) (h : ∀ υ, Tr σ υ (L ++ [nI 23]) → rec (nI 20) (nI l) (nI (a + 1)) υ (fun r38 τ37 => (wp_X4_sizeBody (nI l) τ37 (fun r40 τ39 => (rec r40 (nI l) (nI (a + 1)) τ39 (fun r42 τ41 => (Q (r38 - r42) τ41))))))) : B_X4_body rec (nI 23) (nI l) (nI a) τ Q := by
  unfold B_X4_body
  rw [nI_le' (by omega) (by omega)]
  refine ⟨fun _ => C_leave hT hl (fun υ hu x ex => ?_), fun q => absurd ha q⟩
  rw [ex, nI_add]
  exact ⟨fun q => absurd q (by decide), fun q => absurd q (by decide), fun q => absurd q (by decide), fun q => absurd q (by decide), fun q => absurd q (by decide), fun q => absurd q (by decide), fun q => absurd q (by decide), fun q => absurd q (by decide), fun q => absurd q (by decide), fun q => absurd q (by decide), fun q => absurd q (by decide), fun q => absurd q (by decide), fun q => absurd q (by decide), fun _ => h υ hu, fun q => absurd q (by decide), fun q => absurd q (by decide)⟩
theorem B_24 {rec : Int32 → Int32 → Int32 → PI → (Int32 → PI → Prop) → Prop} {l a : Nat} {L : List Int32} {Q : Int32 → PI → Prop} (hT : Tr σ τ L) (ha : a ≤ 12) (hl : L.length < 16) (h : ∀ υ, Tr σ υ (L ++ [nI 24]) → rec (nI 21) (nI l) (nI (a + 1)) υ (fun r45 τ44 => (Q ((nI 2) * r45) τ44))) : B_X4_body rec (nI 24) (nI l) (nI a) τ Q := by
  unfold B_X4_body
  rw [nI_le' (by omega) (by omega)]
  refine ⟨fun _ => C_leave hT hl (fun υ hu x ex => ?_), fun q => absurd ha q⟩
  rw [ex, nI_add]
  exact ⟨fun q => absurd q (by decide), fun q => absurd q (by decide), fun q => absurd q (by decide), fun q => absurd q (by decide), fun q => absurd q (by decide), fun q => absurd q (by decide), fun q => absurd q (by decide), fun q => absurd q (by decide), fun q => absurd q (by decide), fun q => absurd q (by decide), fun q => absurd q (by decide), fun q => absurd q (by decide), fun q => absurd q (by decide), fun q => absurd q (by decide), fun _ => h υ hu, fun q => absurd q (by decide)⟩
/-- which body: the kind's own, or the one that it is a kind of -/
def nb (o k : Nat) : Int32 := if sArr o k = nI 0 then sArr o (par k) else sArr o k
theorem nb_ne : ∀ o : Fin 3, ∀ k : Fin 6, 1 ≤ o.val → 1 ≤ k.val → 1 ≤ par k.val ∨ ¬ sArr o.val k.val = nI 0 := by decide +kernel
theorem nb_ne' : ∀ o : Fin 3, ∀ k : Fin 6, 1 ≤ o.val → 1 ≤ k.val → sArr o.val k.val = nI 0 → ¬ sArr o.val (par k.val) = nI 0 := by decide +kernel
theorem C_nb {o k : Nat} {Q : Int32 → PI → Prop} (ho : 1 ≤ o) (ho2 : o < 3) (hk : k < 6) (hk1 : 1 ≤ k) (h : Q (nb o k) σ) : wp_X4_nearestBody o (nI k) σ Q := by
  have s1 := par_sA ⟨k, hk⟩ hk1
  obtain ⟨s2, s3⟩ := par_2 ⟨k, hk⟩
  have s5 := nb_ne ⟨o, ho2⟩ ⟨k, hk⟩ ho hk1
  have s6 := nb_ne' ⟨o, ho2⟩ ⟨k, hk⟩ ho hk1
  simp only at s1 s2 s3 s5 s6
  unfold wp_X4_nearestBody w_X4_nearestBody_4
  refine ⟨2, ?_⟩
  show B_X4_nearestBody_4 o _ Q (nI k) (nI 0) σ
  unfold B_X4_nearestBody_4
  unfold nb at h
  rw [nI_lt' (by omega) (by omega), nI_le' (by omega) (by omega), nI_cl (a := k) (by omega), s1, nI_add]
  have hv : vp_in (nI k) 6 := vpN hk (by omega)
  refine ⟨fun q => absurd q (by omega), fun _ => ⟨fun q => absurd q (by omega), fun _ => ⟨hv, fun q => ⟨hv, by rw [if_neg q] at h; exact h⟩, fun q => ⟨hv, fun x ex => ?_⟩⟩⟩⟩
  rw [if_pos q] at h
  have hp : 1 ≤ par k := s5.resolve_right (fun z => z q)
  rw [ex]
  show B_X4_nearestBody_4 o _ Q (nI (par k)) (nI 1) σ
  unfold B_X4_nearestBody_4
  rw [nI_lt' (by omega) (by omega), nI_le' (by omega) (by omega), nI_cl (a := par k) (by omega)]
  have hv' : vp_in (nI (par k)) 6 := vpN s3 (by omega)
  exact ⟨fun q => absurd q (by omega), fun _ => ⟨fun q => absurd q (by omega), fun _ => ⟨hv', fun _ => ⟨hv', h⟩, fun z => absurd z (s6 q)⟩⟩⟩
theorem nb_s : ∀ k : Fin 6, 1 ≤ k.val → nb 1 k.val = (if k.val = 2 then nI 12 else if k.val < 4 then nI 11 else if k.val = 5 then nI 14 else nI 13) := by decide +kernel
theorem nb_m : ∀ k : Fin 6, 1 ≤ k.val → nb 2 k.val = (if k.val = 2 then nI 24 else if k.val = 3 then nI 22 else if k.val = 1 then nI 21 else nI 23) := by decide +kernel
def pmV (t : Nat → Nat) (l : Nat) : Int32 := nI l + nI (mT t l)
def siL (t : Nat → Nat) (l : Nat) (L : List Int32) : List Int32 := if t (16 + l) = 5 then L ++ [nI 14] ++ [nI 13] ++ [nI 10] else L ++ [nI 13] ++ [nI 10]
def siV (t : Nat → Nat) (l : Nat) : Int32 := if t (16 + l) = 5 then nI 2 * (nI (t (28 + l)) - nI 100) else nI (t (28 + l)) - nI 100
def mkL (t : Nat → Nat) (l : Nat) (L : List Int32) : List Int32 := if t (16 + l) = 2 then L ++ [nI 24] ++ [nI 21] ++ [nI 20] else if t (16 + l) = 3 then L ++ [nI 22] ++ [nI 21] ++ [nI 20] else if t (16 + l) = 1 then L ++ [nI 21] ++ [nI 20] else siL t l (L ++ [nI 23] ++ [nI 20])
def mkV (t : Nat → Nat) (l : Nat) : Int32 := if t (16 + l) = 2 then nI 2 * pmV t l else if t (16 + l) = 3 then pmV t l - nI 1000 else if t (16 + l) = 1 then pmV t l else nI l - siV t l
def szL (t : Nat → Nat) (l : Nat) (L : List Int32) : List Int32 := if t (16 + l) = 2 then mkL t l (L ++ [nI 12] ++ [nI 11] ++ [nI 10]) else if t (16 + l) < 4 then mkL t l (L ++ [nI 11] ++ [nI 10]) else siL t l L
def szV (t : Nat → Nat) (l : Nat) : Int32 := if t (16 + l) = 2 then -(nI (t (28 + l)) + mkV t l) else if t (16 + l) < 4 then nI (t (28 + l)) + mkV t l else siV t l
section CL
variable {l : Nat} {L : List Int32} {Q : Int32 → PI → Prop}
theorem Tr_ht (ht : RTn σ t) (hI : Iv 999 t) (hl : l < t 3) (hT : Tr σ τ L) : TA τ 0 t := ht.1.cells (fun j hj => hT.1 _ (by unfold tc; omega) (by unfold tc; omega))
theorem c10 {a d : Nat} (ht : RTn σ t) (hI : Iv 999 t) (hl : l < t 3) (hT : Tr σ τ L) (ha : a ≤ 12) (h6 : L.length < 16) (h : ∀ υ, Tr σ υ (L ++ [nI 10]) → Q (nI (t (28 + l))) υ) : wpn_X4_body (d + 1) (nI 10) (nI l) (nI a) τ Q := by
  have b := hI.1.b
  refine B_10 hT ha h6 (fun υ hu => ⟨vpN (by omega) (by omega), ?_⟩)
  rw [nI_cl (a := l) (by omega), ((Tr_ht ht hI hl hu).2.2 l hl).2.2.1]
  exact h υ hu
theorem c20 {a d : Nat} (ht : RTn σ t) (hI : Iv 999 t) (hl : l < t 3) (hT : Tr σ τ L) (ha : a ≤ 12) (h6 : L.length < 16) (h : ∀ υ, Tr σ υ (L ++ [nI 20]) → Q (nI l) υ) : wpn_X4_body (d + 1) (nI 20) (nI l) (nI a) τ Q := by
  exact B_20 hT ha h6 h
theorem c21 {a d : Nat} (ht : RTn σ t) (hI : Iv 999 t) (hl : l < t 3) (hT : Tr σ τ L) (ha : a ≤ 11) (h6 : L.length < 15) (h : ∀ υ, Tr σ υ (L ++ [nI 21] ++ [nI 20]) → Q (pmV t l) υ) : wpn_X4_body (d + 2) (nI 21) (nI l) (nI a) τ Q := by
  have b := hI.1.b
  refine B_21 hT (by omega) (by omega) (fun υ hu => c20 ht hI hl hu (by omega) (by rw [List.length_append]; show L.length + 1 < 16; omega) (fun ω hw => ?_))
  have hA := Tr_ht ht hI hl hw
  exact T_makes hA.1 hI.1 (hA.2.2 l hl) (hI.2.2 l hl) (by omega) (h ω hw)
theorem c13 {a d : Nat} (ht : RTn σ t) (hI : Iv 999 t) (hl : l < t 3) (hT : Tr σ τ L) (ha : a ≤ 11) (h6 : L.length < 15) (h : ∀ υ, Tr σ υ (L ++ [nI 13] ++ [nI 10]) → Q (nI (t (28 + l)) - nI 100) υ) : wpn_X4_body (d + 2) (nI 13) (nI l) (nI a) τ Q :=
  B_13 hT (by omega) (by omega) (fun υ hu => c10 ht hI hl hu (by omega) (by rw [List.length_append]; show L.length + 1 < 16; omega) (fun ω hw => h ω hw))
theorem c14 {a d : Nat} (ht : RTn σ t) (hI : Iv 999 t) (hl : l < t 3) (hT : Tr σ τ L) (ha : a ≤ 10) (h6 : L.length < 14) (h : ∀ υ, Tr σ υ (L ++ [nI 14] ++ [nI 13] ++ [nI 10]) → Q (nI 2 * (nI (t (28 + l)) - nI 100)) υ) : wpn_X4_body (d + 3) (nI 14) (nI l) (nI a) τ Q :=
  B_14 hT (by omega) (by omega) (fun υ hu => c13 ht hI hl hu (by omega) (by rw [List.length_append]; show L.length + 1 < 15; omega) (fun ω hw => h ω hw))
theorem c22 {a d : Nat} (ht : RTn σ t) (hI : Iv 999 t) (hl : l < t 3) (hT : Tr σ τ L) (ha : a ≤ 10) (h6 : L.length < 14) (h : ∀ υ, Tr σ υ (L ++ [nI 22] ++ [nI 21] ++ [nI 20]) → Q (pmV t l - nI 1000) υ) : wpn_X4_body (d + 3) (nI 22) (nI l) (nI a) τ Q :=
  B_22 hT (by omega) (by omega) (fun υ hu => c21 ht hI hl hu (by omega) (by rw [List.length_append]; show L.length + 1 < 15; omega) (fun ω hw => h ω hw))
theorem c24 {a d : Nat} (ht : RTn σ t) (hI : Iv 999 t) (hl : l < t 3) (hT : Tr σ τ L) (ha : a ≤ 10) (h6 : L.length < 14) (h : ∀ υ, Tr σ υ (L ++ [nI 24] ++ [nI 21] ++ [nI 20]) → Q (nI 2 * pmV t l) υ) : wpn_X4_body (d + 3) (nI 24) (nI l) (nI a) τ Q :=
  B_24 hT (by omega) (by omega) (fun υ hu => c21 ht hI hl hu (by omega) (by rw [List.length_append]; show L.length + 1 < 15; omega) (fun ω hw => h ω hw))
theorem c_sizeB {Q : Int32 → PI → Prop} (ht : RTn σ t) (hI : Iv 999 t) (hl : l < t 3) (hT : Tr σ τ L) (h : Q (nb 1 (t (16 + l))) τ) : wp_X4_sizeBody (nI l) τ Q := by
  have b := hI.1.b
  unfold wp_X4_sizeBody
  have hA := Tr_ht ht hI hl hT
  rw [nI_cl (a := l) (by omega), (hA.2.2 l hl).1]
  have k1 := (hI.2.2 l hl).1
  have k2 := (hI.2.2 l hl).2.1
  exact ⟨vpN (by omega) (by omega), C_nb (by omega) (by omega) (by omega) (by omega) h⟩
theorem c_markB {Q : Int32 → PI → Prop} (ht : RTn σ t) (hI : Iv 999 t) (hl : l < t 3) (hT : Tr σ τ L) (h : Q (nb 2 (t (16 + l))) τ) : wp_X4_markBody (nI l) τ Q := by
  have b := hI.1.b
  unfold wp_X4_markBody
  have hA := Tr_ht ht hI hl hT
  rw [nI_cl (a := l) (by omega), (hA.2.2 l hl).1]
  have k1 := (hI.2.2 l hl).1
  have k2 := (hI.2.2 l hl).2.1
  exact ⟨vpN (by omega) (by omega), C_nb (by omega) (by omega) (by omega) (by omega) h⟩
theorem c_idle {a d : Nat} (ht : RTn σ t) (hI : Iv 999 t) (hl : l < t 3) (hk : 4 ≤ t (16 + l)) (hT : Tr σ τ L) (ha : a ≤ 10) (h6 : L.length < 14) (h : ∀ υ, Tr σ υ (siL t l L) → Q (siV t l) υ) : wpn_X4_body (d + 3) (nb 1 (t (16 + l))) (nI l) (nI a) τ Q := by
  have k1 := (hI.2.2 l hl).1
  have k2 := (hI.2.2 l hl).2.1
  have e := nb_s ⟨t (16 + l), by omega⟩ k1
  simp only at e
  rw [e, if_neg (by omega), if_neg (by omega)]
  unfold siL siV at h
  by_cases q : t (16 + l) = 5
  · rw [if_pos q] at h ⊢
    rw [if_pos q] at h
    exact c14 ht hI hl hT ha h6 h
  · rw [if_neg q] at h ⊢
    rw [if_neg q] at h
    exact c13 ht hI hl hT (by omega) (by omega) h
theorem c_mark {a d : Nat} (ht : RTn σ t) (hI : Iv 999 t) (hl : l < t 3) (hT : Tr σ τ L) (ha : a ≤ 9) (h6 : L.length < 12) (h : ∀ υ, Tr σ υ (mkL t l L) → Q (mkV t l) υ) : wpn_X4_body (d + 4) (nb 2 (t (16 + l))) (nI l) (nI a) τ Q := by
  have k1 := (hI.2.2 l hl).1
  have k2 := (hI.2.2 l hl).2.1
  have e := nb_m ⟨t (16 + l), by omega⟩ k1
  simp only at e
  rw [e]
  unfold mkL mkV at h
  by_cases q2 : t (16 + l) = 2
  · rw [if_pos q2] at h ⊢
    rw [if_pos q2] at h
    exact c24 ht hI hl hT (by omega) (by omega) h
  rw [if_neg q2] at h ⊢
  rw [if_neg q2] at h
  by_cases q3 : t (16 + l) = 3
  · rw [if_pos q3] at h ⊢
    rw [if_pos q3] at h
    exact c22 ht hI hl hT (by omega) (by omega) h
  rw [if_neg q3] at h ⊢
  rw [if_neg q3] at h
  by_cases q1 : t (16 + l) = 1
  · rw [if_pos q1] at h ⊢
    rw [if_pos q1] at h
    exact c21 ht hI hl hT (by omega) (by omega) h
  rw [if_neg q1] at h ⊢
  rw [if_neg q1] at h
  refine B_23 hT (by omega) (by omega) (fun υ hu => c20 ht hI hl hu (by omega) (by rw [List.length_append]; show L.length + 1 < 16; omega) (fun ω hw => c_sizeB ht hI hl hw (c_idle ht hI hl (by omega) hw (by omega) (by rw [List.length_append, List.length_append]; show L.length + 1 + 1 < 14; omega) (fun ψ hp => h ψ hp))))
theorem c_size {a d : Nat} (ht : RTn σ t) (hI : Iv 999 t) (hl : l < t 3) (hT : Tr σ τ L) (ha : a ≤ 7) (h6 : L.length < 8) (h : ∀ υ, Tr σ υ (szL t l L) → Q (szV t l) υ) : wpn_X4_body (d + 6) (nb 1 (t (16 + l))) (nI l) (nI a) τ Q := by
  have k1 := (hI.2.2 l hl).1
  have k2 := (hI.2.2 l hl).2.1
  by_cases q4 : 4 ≤ t (16 + l)
  · unfold szL szV at h
    rw [if_neg (by omega), if_neg (by omega), if_neg (by omega), if_neg (by omega)] at h
    exact c_idle ht hI hl q4 hT (by omega) (by omega) h
  have e := nb_s ⟨t (16 + l), by omega⟩ k1
  simp only at e
  rw [e]
  unfold szL szV at h
  have c11 : ∀ {Q : Int32 → PI → Prop} {τ : PI} {L : List Int32} {a d : Nat}, Tr σ τ L → a ≤ 8 → L.length < 9 → (∀ υ, Tr σ υ (mkL t l (L ++ [nI 11] ++ [nI 10])) → Q (nI (t (28 + l)) + mkV t l) υ) → wpn_X4_body (d + 5) (nI 11) (nI l) (nI a) τ Q := by
    intro Q τ L a d hT ha h6 h
    exact B_11 hT (by omega) (by omega) (fun υ hu => c10 ht hI hl hu (by omega) (by rw [List.length_append]; show L.length + 1 < 16; omega) (fun ω hw => c_markB ht hI hl hw (c_mark ht hI hl hw (by omega) (by rw [List.length_append, List.length_append]; show L.length + 1 + 1 < 12; omega) (fun ψ hp => h ψ hp))))
  by_cases q2 : t (16 + l) = 2
  · rw [if_pos q2] at h ⊢
    rw [if_pos q2] at h
    exact B_12 hT (by omega) (by omega) (fun υ hu => c11 hu (by omega) (by rw [List.length_append]; show L.length + 1 < 9; omega) (fun ψ hp => h ψ hp))
  · rw [if_neg q2, if_pos (by omega)] at h ⊢
    rw [if_neg q2, if_pos (by omega)] at h
    exact c11 hT (by omega) (by omega) (fun ψ hp => h ψ hp)
end CL
section ML
variable {l : Nat} {L : List Int32} {Q : Int32 → PI → Prop}
theorem Ts_ht (ht : RTn σ t) (hI : Iv 999 t) (hl : l < t 3) (hT : Ts σ τ L) : MA (τ 280) t := by rw [hT.1 _ (by omega) (by omega)]; exact ht.2.1
theorem m10 (ht : RTn σ t) (hI : Iv 999 t) (hl : l < t 3) (hT : Ts σ τ L) (h6 : L.length < 16) (h : ∀ υ, Ts σ υ (L ++ [nI 10]) → Q (nI (t (28 + l))) υ) : wp_X5_lent (nI l) (nI 10) τ Q := by
  have b := hI.1.b
  refine M_begin hT h6 (fun υ hu => ⟨fun q => absurd rfl q, fun _ => ?_⟩)
  rw [nI_add, nI_cl (a := 28 + l) (by omega), Ts_ht ht hI hl hu _ (by omega)]
  exact ⟨vpN (by omega) (by omega), h υ hu⟩
theorem m20 (ht : RTn σ t) (hI : Iv 999 t) (hl : l < t 3) (hT : Ts σ τ L) (h6 : L.length < 16) (h : ∀ υ, Ts σ υ (L ++ [nI 20]) → Q (nI l) υ) : wp_X5_lent (nI l) (nI 20) τ Q :=
  M_begin hT h6 (fun υ hu => ⟨fun _ => h υ hu, fun q => absurd q (by decide)⟩)
theorem m21 (ht : RTn σ t) (hI : Iv 999 t) (hl : l < t 3) (hT : Ts σ τ L) (h6 : L.length < 15) (h : ∀ υ, Ts σ υ (L ++ [nI 21] ++ [nI 20]) → Q (pmV t l) υ) : wp_X5_pointedMark (nI l) τ Q := by
  have b := hI.1.b
  refine M_begin hT (by omega) (fun υ hu => m20 ht hI hl hu (by rw [List.length_append]; show L.length + 1 < 16; omega) (fun ω hw => ?_))
  have hA := Ts_ht ht hI hl hw
  exact M_makes hA.h hI.1 (hA.l (by omega)) (hI.2.2 l hl) (by omega) (h ω hw)
theorem m13 (ht : RTn σ t) (hI : Iv 999 t) (hl : l < t 3) (hT : Ts σ τ L) (h6 : L.length < 15) (h : ∀ υ, Ts σ υ (L ++ [nI 13] ++ [nI 10]) → Q (nI (t (28 + l)) - nI 100) υ) : wp_X5_idleSize (nI l) τ Q :=
  M_begin hT (by omega) (fun υ hu => m10 ht hI hl hu (by rw [List.length_append]; show L.length + 1 < 16; omega) (fun ω hw => h ω hw))
theorem m_idle (ht : RTn σ t) (hI : Iv 999 t) (hl : l < t 3) (hT : Ts σ τ L) (h6 : L.length < 14) (h : ∀ υ, Ts σ υ (siL t l L) → Q (siV t l) υ) : wp_X5_sizeOfIdle (nI l) τ Q := by
  have b := hI.1.b
  have k2 := (hI.2.2 l hl).2.1
  unfold wp_X5_sizeOfIdle
  rw [nI_add, nI_cl (a := 16 + l) (by omega), Ts_ht ht hI hl hT _ (by omega), nI_inj (by omega) (by omega)]
  unfold siL siV at h
  refine ⟨vpN (by omega) (by omega), fun q => ?_, fun q => ?_⟩
  · rw [if_neg q, if_neg q] at h
    exact m13 ht hI hl hT (by omega) h
  · rw [if_pos q, if_pos q] at h
    exact M_begin hT (by omega) (fun υ hu => m13 ht hI hl hu (by rw [List.length_append]; show L.length + 1 < 15; omega) (fun ω hw => h ω hw))
theorem m_mark (ht : RTn σ t) (hI : Iv 999 t) (hl : l < t 3) (hT : Ts σ τ L) (h6 : L.length < 12) (h : ∀ υ, Ts σ υ (mkL t l L) → Q (mkV t l) υ) : wp_X5_markOf (nI l) τ Q := by
  have b := hI.1.b
  have k2 := (hI.2.2 l hl).2.1
  unfold wp_X5_markOf
  rw [nI_add, nI_cl (a := 16 + l) (by omega), Ts_ht ht hI hl hT _ (by omega)]
  refine ⟨vpN (by omega) (by omega), fun x ex => ?_⟩
  rw [ex, nI_inj (by omega) (by omega), nI_inj (by omega) (by omega), nI_inj (by omega) (by omega)]
  unfold mkL mkV at h
  refine ⟨fun q2 => ⟨fun q3 => ⟨fun q1 => ?_, fun q1 => ?_⟩, fun q3 => ?_⟩, fun q2 => ?_⟩
  · rw [if_neg q2, if_neg q2, if_neg q3, if_neg q3, if_neg q1, if_neg q1] at h
    exact M_begin hT (by omega) (fun υ hu => m20 ht hI hl hu (by rw [List.length_append]; show L.length + 1 < 16; omega) (fun ω hw => m_idle ht hI hl hw (by rw [List.length_append, List.length_append]; show L.length + 1 + 1 < 14; omega) (fun ψ hp => h ψ hp)))
  · rw [if_neg q2, if_neg q2, if_neg q3, if_neg q3, if_pos q1, if_pos q1] at h
    exact m21 ht hI hl hT (by omega) h
  · rw [if_neg q2, if_neg q2, if_pos q3, if_pos q3] at h
    exact M_begin hT (by omega) (fun υ hu => m21 ht hI hl hu (by rw [List.length_append]; show L.length + 1 < 15; omega) (fun ω hw => h ω hw))
  · rw [if_pos q2, if_pos q2] at h
    exact M_begin hT (by omega) (fun υ hu => m21 ht hI hl hu (by rw [List.length_append]; show L.length + 1 < 15; omega) (fun ω hw => h ω hw))
theorem m_size (ht : RTn σ t) (hI : Iv 999 t) (hl : l < t 3) (hT : Ts σ τ L) (h6 : L.length < 8) (h : ∀ υ, Ts σ υ (szL t l L) → Q (szV t l) υ) : wp_X5_sizeOf (nI l) τ Q := by
  have b := hI.1.b
  have k2 := (hI.2.2 l hl).2.1
  unfold wp_X5_sizeOf
  rw [nI_add, nI_cl (a := 16 + l) (by omega), Ts_ht ht hI hl hT _ (by omega)]
  refine ⟨vpN (by omega) (by omega), fun x ex => ?_⟩
  rw [ex, nI_inj (by omega) (by omega), nI_lt' (by omega) (by omega)]
  unfold szL szV at h
  have m11 : ∀ {Q : Int32 → PI → Prop} {τ : PI} {L : List Int32}, Ts σ τ L → L.length < 9 → (∀ υ, Ts σ υ (mkL t l (L ++ [nI 11] ++ [nI 10])) → Q (nI (t (28 + l)) + mkV t l) υ) → wp_X5_pointedSize (nI l) τ Q := by
    intro Q τ L hT h6 h
    exact M_begin hT (by omega) (fun υ hu => m10 ht hI hl hu (by rw [List.length_append]; show L.length + 1 < 16; omega) (fun ω hw => m_mark ht hI hl hw (by rw [List.length_append, List.length_append]; show L.length + 1 + 1 < 12; omega) (fun ψ hp => h ψ hp)))
  refine ⟨fun q2 => ⟨fun q4 => ?_, fun q4 => ?_⟩, fun q2 => ?_⟩
  · rw [if_neg q2, if_neg q2, if_pos q4, if_pos q4] at h
    exact m11 hT (by omega) (fun ψ hp => h ψ hp)
  · rw [if_neg q2, if_neg q2, if_neg q4, if_neg q4] at h
    exact m_idle ht hI hl hT (by omega) (fun ψ hp => h ψ hp)
  · rw [if_pos q2, if_pos q2] at h
    exact M_begin hT (by omega) (fun υ hu => m11 hu (by rw [List.length_append]; show L.length + 1 < 9; omega) (fun ψ hp => h ψ hp))
end ML
theorem Rel.trace {υ : PI} {L : List Int32} (h : Rel σ) (hT : Tr σ τ L) (hS : Ts τ υ L) (hl : L.length ≤ 16) : Rel υ := by
  obtain ⟨h1, h2, h3, h4, h5, ⟨t, h6⟩, ⟨m, A, j1, ⟨o, j2, j3, j4, j7⟩, ⟨j5, j8⟩, j6, j9⟩, h8⟩ := h
  have ec : ∀ c, c ≠ 252 → c ≠ 259 → c ≠ 276 → c ≠ 288 → υ c = σ c := fun c q1 q2 q3 q4 => by rw [hS.1 c q3 q4, hT.1 c q1 q2]
  have e2 : ∀ s, s ≠ 7 → υ 252 s = σ 252 s := fun s hs => by rw [hS.1 _ (by omega) (by omega), hT.2.1 s hs]
  have e276 : ∀ s, s ≠ 24 → υ 276 s = σ 276 s := fun s hs => by rw [hS.2.1 s hs, hT.1 _ (by omega) (by omega)]
  refine ⟨fun r hr => (h1 r hr).k hr (fun c hc => ec c (by unfold rwc at hc; omega) (by unfold rwc at hc; omega) (by unfold rwc at hc; omega) (by unfold rwc at hc; omega)), by rw [e2 _ (by omega), e276 3 (by omega)]; exact h2, by rw [e2 _ (by omega), e276 10 (by omega)]; exact h3, ?_, ?_, ⟨t, ?_⟩, ?_, ?_⟩
  · unfold RTp at h4 ⊢
    rw [ec 257 (by omega) (by omega) (by omega) (by omega), e276 9 (by omega), ec 258 (by omega) (by omega) (by omega) (by omega), ec 282 (by omega) (by omega) (by omega) (by omega)]
    exact h4
  · exact ⟨L.length, hl, by rw [hS.1 _ (by omega) (by omega), hT.2.2.1], hS.2.2.1, fun i hi => by rw [hS.1 _ (by omega) (by omega), hT.2.2.2 i hi, hS.2.2.2 i hi]⟩
  · obtain ⟨k1, k2, k3, k4, k5⟩ := h6
    exact ⟨k1.cells (fun j hj => ec _ (by unfold tc; omega) (by unfold tc; omega) (by unfold tc; omega) (by unfold tc; omega)), by rw [ec 280 (by omega) (by omega) (by omega) (by omega)]; exact k2, by rw [ec _ (by unfold tc; omega) (by unfold tc; omega) (by unfold tc; omega) (by unfold tc; omega)]; exact k3, by rw [e276 6 (by omega)]; exact k4, by rw [e276 4 (by omega)]; exact k5⟩
  · refine ⟨m, A, j1, ⟨o, j2, by rw [ec 256 (by omega) (by omega) (by omega) (by omega)]; exact j3, by rw [ec 256 (by omega) (by omega) (by omega) (by omega)]; exact j4, fun j hj => ⟨(j7 j hj).1.cells (fun i hi => ec _ (by unfold tc; omega) (by unfold tc; omega) (by unfold tc; omega) (by unfold tc; omega)), by rw [ec _ (by unfold tc; omega) (by unfold tc; omega) (by unfold tc; omega) (by unfold tc; omega)]; exact (j7 j hj).2⟩⟩, ⟨by rw [e276 19 (by omega)]; exact j5, fun j hj => by rw [ec 284 (by omega) (by omega) (by omega) (by omega)]; exact j8 j hj⟩, by rw [e276 4 (by omega)]; exact j6, j9⟩
  · intro k hk
    rw [ec 286 (by omega) (by omega) (by omega) (by omega), e276 4 (by omega), ec (tc (2 + k) 0) (by unfold tc; omega) (by unfold tc; omega) (by unfold tc; omega) (by unfold tc; omega)]
    rcases h8 k hk with ⟨k1, k2, t, k3, k4, k5, k6⟩ | k1
    · exact Or.inl ⟨k1, k2, t, k3, k4.cells (fun i hi => ec _ (by unfold tc; omega) (by unfold tc; omega) (by unfold tc; omega) (by unfold tc; omega)), k5, by rw [ec 287 (by omega) (by omega) (by omega) (by omega)]; exact k6⟩
    · exact Or.inr k1
theorem lenL {t : Nat → Nat} {l : Nat} (L : List Int32) : (siL t l L).length ≤ L.length + 3 ∧ (mkL t l L).length ≤ L.length + 5 ∧ (szL t l L).length ≤ L.length + 8 := by
  have a1 : ∀ L, (siL t l L).length ≤ L.length + 3 := by intro L; unfold siL; split <;> simp
  have a2 : ∀ L, (mkL t l L).length ≤ L.length + 5 := by
    intro L; unfold mkL
    split
    · simp
    · split
      · simp
      · split
        · simp
        · have := a1 (L ++ [nI 23] ++ [nI 20]); simp at this ⊢; omega
  refine ⟨a1 L, a2 L, ?_⟩
  unfold szL
  split
  · have := a2 (L ++ [nI 12] ++ [nI 11] ++ [nI 10]); simp at this ⊢; omega
  · split
    · have := a2 (L ++ [nI 11] ++ [nI 10]); simp at this ⊢; omega
    · have := a1 L; omega
theorem eq_ask {a0 a1 : Int32} (h : Rel σ) : wp_X4_ask a0 a1 σ (fun r τ => wp_X5_ask a0 a1 τ (fun r' τ' => r = r' ∧ Rel τ')) := by
  unfold wp_X4_ask
  obtain ⟨t, ht⟩ := h.2.2.2.2.2.1
  obtain ⟨b2, b3, b4⟩ := ht.b
  have m3 := ht.2.1 3 (by omega)
  by_cases hr0 : ¬ ∃ a, a < t 3 ∧ a0 = nI a
  · exact C_lvF ht.1.1.2.1 (by omega) hr0 (z_t (M_lvF m3 (by omega) hr0 (z_t ⟨rfl, h⟩)))
  obtain ⟨l, hl, rfl⟩ := Classical.not_not.mp hr0
  refine C_lvT ht.1.1.2.1 (by omega) hl (o_t ?_)
  by_cases hw0 : ¬ ∃ a, a < 2 ∧ a1 = nI a
  · exact C_bitF hw0 (z_t' (M_lvT m3 (by omega) hl (o_t (M_if (by omega) (by omega) (fun ⟨a, _, z2, z3⟩ => hw0 ⟨a, by omega, z3⟩) (z_t' ⟨rfl, h⟩)))))
  obtain ⟨w, hw, rfl⟩ := Classical.not_not.mp hw0
  have hI : Iv 999 t := by
    rcases ht.2.2.2.2 with ⟨-, z⟩ | ⟨-, z⟩
    · exact z
    · have := z 3 (by omega); omega
  refine C_bitT hw (o_t' (fun τ e => ?_))
  have hT : Tr σ τ [] := ⟨fun c c1 c2 => by rw [e, up_ne c1], fun s hs => by rw [e, up_k hs], by rw [e, up_s]; rfl, fun i hi => by simp at hi⟩
  have fin : ∀ (υ : PI) (L : List Int32) (x : Int32), L.length ≤ 16 → Tr σ υ L → (w = 0 → L = szL t l [] ∧ x = szV t l) → (¬ w = 0 → L = mkL t l [] ∧ x = mkV t l) → wp_X5_ask (nI l) (nI w) υ (fun r' τ' => x = r' ∧ Rel τ') := by
    intro υ L x h16 hL h0 h1
    have hR : RTn υ t := by
      obtain ⟨k1, k2, k3, k4, k5⟩ := ht
      exact ⟨k1.cells (fun j hj => hL.1 _ (by unfold tc; omega) (by unfold tc; omega)), by rw [hL.1 280 (by omega) (by omega)]; exact k2, by rw [hL.1 _ (by unfold tc; omega) (by unfold tc; omega)]; exact k3, by rw [hL.1 276 (by omega) (by omega)]; exact k4, by rw [hL.1 276 (by omega) (by omega)]; exact k5⟩
    refine M_lvT (by rw [hL.1 280 (by omega) (by omega)]; exact m3) (by omega) hl (o_t (M_it (by omega) (by omega) (by omega) (o_t' (fun ω ew => ?_))))
    have hS : Ts υ ω [] := ⟨fun c c1 c2 => by rw [ew, up_ne c1], fun s hs => by rw [ew, up_k hs], by rw [ew, up_s]; rfl, fun i hi => by simp at hi⟩
    rw [nI_inj (by omega) (by omega)]
    refine ⟨fun q => m_mark hR hI hl hS (by simp) (fun ψ hp => ?_), fun q => m_size hR hI hl hS (by simp) (fun ψ hp => ?_)⟩
    · obtain ⟨rfl, rfl⟩ := h1 q
      exact ⟨rfl, h.trace hL hp h16⟩
    · obtain ⟨rfl, rfl⟩ := h0 q
      exact ⟨rfl, h.trace hL hp h16⟩
  unfold w_X4_ask_41 wp_X4_body
  rw [nI_inj (by omega) (by omega)]
  obtain ⟨l1, l2, l3⟩ := lenL (t := t) (l := l) []
  simp at l2 l3
  refine ⟨fun q => c_markB ht hI hl hT (c_mark (d := 10) ht hI hl hT (by omega) (by simp) (fun υ hu => fin υ _ _ (by omega) hu (fun z => absurd z q) (fun _ => ⟨rfl, rfl⟩))), fun q => c_sizeB ht hI hl hT (c_size (d := 8) ht hI hl hT (by omega) (by simp) (fun υ hu => fin υ _ _ (by omega) hu (fun _ => ⟨rfl, rfl⟩) (fun z => absurd q z)))⟩
end AK
