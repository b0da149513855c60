/-! ===== a town as 70 numbers t (the model's st); the class's town k ===== -/
def TH (σ : PI) (k : Nat) (t : Nat → Nat) : Prop := σ (tc k 0) 8 = nI (t 2) ∧ σ (tc k 0) 9 = nI (t 3) ∧ σ (tc k 0) 10 = nI (t 0) ∧ σ (tc k 0) 11 = nI (t 1) ∧ σ (tc k 0) 12 = nI (t 4) ∧ σ (tc k 0) 13 = nI (t 5)
def TM (σ : PI) (k : Nat) (t : Nat → Nat) (i : Nat) : Prop := σ (tc k 1) i = nI (t (6 + i)) ∧ σ (tc k 2) i = nI (t (11 + i))
def TL (σ : PI) (k : Nat) (t : Nat → Nat) (l : Nat) : Prop := σ (tc k 3) l = nI (t (16 + l)) ∧ σ (tc k 4) l = nI (t (22 + l)) ∧ σ (tc k 5) l = nI (t (28 + l)) ∧ σ (tc k 6) l = nI (t (34 + l)) ∧ ∀ m, m < 5 → σ (tc k 7) (l * 5 + m) = nI (t (40 + 5 * l + m))
def TA (σ : PI) (k : Nat) (t : Nat → Nat) : Prop := TH σ k t ∧ (∀ i, i < t 2 → TM σ k t i) ∧ ∀ l, l < t 3 → TL σ k t l
def IH (N : Nat) (t : Nat → Nat) : Prop := 1 ≤ t 2 ∧ t 2 ≤ 5 ∧ 1 ≤ t 3 ∧ t 3 ≤ 6 ∧ 1 ≤ t 0 ∧ t 0 ≤ 9 ∧ t 1 ≤ 9 ∧ t 4 ≤ N ∧ t 5 < 2 ^ t 2 ∧ N ≤ 3000
def IM (t : Nat → Nat) (i : Nat) : Prop := t (6 + i) ≤ 99 ∧ t (11 + i) ≤ 9
def IL (t : Nat → Nat) (l : Nat) : Prop := 1 ≤ t (16 + l) ∧ t (16 + l) ≤ 5 ∧ t (22 + l) < t 2 ∧ 1 ≤ t (28 + l) ∧ t (28 + l) ≤ 9 ∧ t (34 + l) ≤ 4 ∧ ∀ m, m < 5 → t (40 + 5 * l + m) ≤ t 4
def Iv (N : Nat) (t : Nat → Nat) : Prop := IH N t ∧ (∀ i, i < t 2 → IM t i) ∧ ∀ l, l < t 3 → IL t l
def hT (t : Nat → Nat) (l : Nat) : Nat := (t (22 + l) + t (34 + l) * t 4) % t 2
def mI (t : Nat → Nat) (l : Nat) : Nat := if t 4 % 3 = 0 then t (28 + l) else 0
def mT (t : Nat → Nat) (l : Nat) : Nat :=
  if t (16 + l) = 2 then t (28 + l) + (if t (40 + 5 * l + hT t l) < 9 then t (40 + 5 * l + hT t l) else 9)
  else if t (16 + l) = 3 then t (28 + l) / 2
  else if t (16 + l) = 4 then mI t l
  else if t (16 + l) = 5 then (if 7 * t 4 % 10 < t 1 then 2 * t (28 + l) else mI t l)
  else t (28 + l)
/-- leaver l, if he isn't sent home, is away from m -/
def pa (t : Nat → Nat) (hb : Nat → Bool) (m l : Nat) : Bool := !hb l && decide (hT t l = m)
def aw (t : Nat → Nat) (hb : Nat → Bool) (m n : Nat) : Nat := bm (pa t hb m) n
def md (t : Nat → Nat) (hb : Nat → Bool) (m n : Nat) : Nat := sm (fun l => if pa t hb m l then mT t l else 0) n
theorem IH.b {N : Nat} {t : Nat → Nat} (h : IH N t) : 1 ≤ t 2 ∧ t 2 ≤ 5 ∧ 1 ≤ t 3 ∧ t 3 ≤ 6 ∧ 1 ≤ t 0 ∧ t 0 ≤ 9 ∧ t 1 ≤ 9 ∧ t 4 ≤ 3000 ∧ t 5 < 32 := by
  obtain ⟨h1, h2, h3, h4, h5, h6, h7, h8, h9, h10⟩ := h
  have : 2 ^ t 2 ≤ 2 ^ 5 := Nat.pow_le_pow_right (by omega) h2
  refine ⟨h1, h2, h3, h4, h5, h6, h7, by omega, by omega⟩
theorem hT_lt {N : Nat} {t : Nat → Nat} (h : IH N t) (l : Nat) : hT t l < t 2 := Nat.mod_lt _ (by have := h.1; omega)
theorem mT_le {N : Nat} {t : Nat → Nat} {l : Nat} (h : IH N t) (hL : IL t l) : mT t l ≤ 18 := by
  obtain ⟨h1, h2, h3, h4, h5, h6, h7⟩ := hL
  unfold mT mI
  repeat' split
  all_goals omega
section TW
variable {σ : PI} {k N : Nat} {t : Nat → Nat} {l m : Nat} {hb : Nat → Bool}
theorem T_house {Q : Int32 → PI → Prop} (hH : TH σ k t) (hI : IH N t) (hL : TL σ k t l) (iL : IL t l) (hl : l < 6) (h : Q (nI (hT t l)) σ) : wp_X3_houseToday k (nI l) σ Q := by
  obtain ⟨a8, a9, a10, a11, a12, a13⟩ := hH
  obtain ⟨v3, v4, v5, v6, v7⟩ := hL
  obtain ⟨i1, i2, i3, i4, i5, i6, i7, i8, i9⟩ := hI.b
  obtain ⟨j1, j2, j3, j4, j5, j6, j7⟩ := iL
  have hp : t (34 + l) * t 4 ≤ 4 * 3000 := Nat.mul_le_mul (by omega) (by omega)
  unfold wp_X3_houseToday
  rw [a8, a12, nI_cl (a := l) (by omega), v4, v6]
  refine ⟨fun q => ?_, fun _ => ⟨vpN hl (by omega), vpN hl (by omega), ?_, ?_⟩⟩
  · rw [nI_le' (by omega) (by omega)] at q; omega
  · rw [nI_inj (by omega) (by omega)]; omega
  · rw [pk_mul, nI_add, nI_rem (by omega) (by omega) (by omega)]; exact h
theorem T_times {Q : Int32 → PI → Prop} (hL : TL σ k t l) (hl : l < 6) (hm : m < 5) (h : Q (nI (t (40 + 5 * l + m))) σ) : wp_X3_timesAway k (nI l) (nI m) σ Q := by
  unfold wp_X3_timesAway
  rw [pk_mul, nI_add, nI_cl (a := l * 5 + m) (by omega), hL.2.2.2.2 m hm]
  exact ⟨vpN (by omega) (by omega), h⟩
theorem T_idly {Q : Int32 → PI → Prop} (hH : TH σ k t) (hI : IH N t) (hL : TL σ k t l) (hl : l < 6) (h : Q (nI (mI t l)) σ) : wp_X3_idly k (nI l) σ Q := by
  obtain ⟨a8, a9, a10, a11, a12, a13⟩ := hH
  obtain ⟨i1, i2, i3, i4, i5, i6, i7, i8, i9⟩ := hI.b
  unfold wp_X3_idly
  rw [a12, nI_cl (a := l) (by omega), hL.2.2.1, nI_rem (by omega) (by omega) (by omega), nI_inj (by omega) (by omega)]
  unfold mI at h
  refine ⟨fun q => ?_, fun q => ⟨vpN hl (by omega), ?_⟩⟩
  · rw [if_neg q] at h; exact h
  · rw [if_pos q] at h; exact h
theorem T_rainy {Q : Int32 → PI → Prop} (hH : TH σ k t) (hI : IH N t) (h : Q (if 7 * t 4 % 10 < t 1 then nI 1 else nI 0) σ) : wp_X3_isRainy k σ Q := by
  obtain ⟨a8, a9, a10, a11, a12, a13⟩ := hH
  obtain ⟨i1, i2, i3, i4, i5, i6, i7, i8, i9⟩ := hI.b
  unfold wp_X3_isRainy
  rw [a12, a11, pk_mul, nI_rem (by omega) (by omega) (by omega), nI_le' (by omega) (by omega)]
  refine ⟨fun q => ?_, fun q => ?_⟩
  · rw [if_neg (by omega)] at h; exact h
  · rw [if_pos (by omega)] at h; exact h
theorem T_makes {Q : Int32 → PI → Prop} (hH : TH σ k t) (hI : IH N t) (hL : TL σ k t l) (iL : IL t l) (hl : l < 6) (h : Q (nI (mT t l)) σ) : wp_X3_makesToday k (nI l) σ Q := by
  obtain ⟨v3, v4, v5, v6, v7⟩ := id hL
  obtain ⟨i1, i2, i3, i4, i5, i6, i7, i8, i9⟩ := hI.b
  obtain ⟨j1, j2, j3, j4, j5, j6, j7⟩ := id iL
  have hv := vpN (N := 6) hl (by omega)
  have hh := hT_lt hI l
  unfold wp_X3_makesToday w_X3_makesToday_103
  rw [nI_cl (a := l) (by omega), v3, v5]
  unfold mT at h
  refine ⟨hv, fun q => ⟨hv, ?_⟩, fun q => ⟨hv, ?_⟩, fun q => ⟨hv, ?_⟩, fun q => ?_, fun q => ?_, fun q => ?_⟩
  · rw [nI_inj (by omega) (by omega)] at q
    rw [if_neg (by omega), if_neg (by omega), if_neg (by omega), if_neg (by omega)] at h
    exact h
  · rw [nI_inj (by omega) (by omega)] at q
    rw [if_pos q] at h
    refine T_house hH hI hL iL hl (T_times hL hl (by omega) ?_)
    have := j7 (hT t l) (by omega)
    rw [nI_min (by omega) (by omega), nI_add]
    exact h
  · rw [nI_inj (by omega) (by omega)] at q
    rw [if_neg (by omega), if_pos q] at h
    rw [nI_div (by omega) (by omega) (by omega)]
    exact h
  · rw [nI_inj (by omega) (by omega)] at q
    rw [if_neg (by omega), if_neg (by omega), if_pos q] at h
    exact T_idly hH hI hL hl h
  · rw [nI_inj (by omega) (by omega)] at q
    rw [if_neg (by omega), if_neg (by omega), if_neg (by omega), if_pos q] at h
    refine T_rainy hH hI ?_
    by_cases q2 : 7 * t 4 % 10 < t 1
    · rw [if_pos q2] at h ⊢
      rw [v5, pk_mul]
      exact ⟨fun e => absurd e b_ne, fun _ => ⟨hv, h⟩⟩
    · rw [if_neg q2] at h ⊢
      exact ⟨fun _ => T_idly hH hI hL hl h, fun e => absurd rfl e⟩
  · exfalso
    rw [show (nI (t (16 + l))).toInt = ((t (16 + l) : Nat) : Int) from nI_toInt (by omega)] at q
    omega
theorem T_bit {x : Int32} {Q : Int32 → PI → Prop} (hx : HB x hb) (hl : l < 6) (h : Q (if hb l then nI 1 else nI 0) σ) : wp_X4_bit x (nI l) σ Q := by
  unfold wp_X4_bit
  rw [hx l hl]
  exact h
theorem T_isAway {Q : Int32 → PI → Prop} (hH : TH σ k t) (hI : IH N t) (hL : TL σ k t l) (iL : IL t l) (hl : l < 6) (hx : HB (σ (tc k 0) 14) hb) (hm : m < 2147483648) (h : Q (if pa t hb m l then nI 1 else nI 0) σ) : wp_X3_isAway k (nI l) (nI m) σ Q := by
  unfold wp_X3_isAway
  obtain ⟨i1, i2, i3, i4, i5, i6, i7, i8, i9⟩ := hI.b
  have hh := hT_lt hI l
  refine T_bit hx hl ?_
  unfold pa at h
  cases hbl : hb l
  · rw [hbl] at h
    refine ⟨fun e => absurd rfl e, fun _ => T_house hH hI hL iL hl ?_⟩
    rw [nI_inj (by omega) hm]
    refine ⟨fun e => ?_, fun e => ?_⟩
    · simp only [e, decide_false, Bool.and_false, Bool.false_eq_true, if_false] at h; exact h
    · simp only [e, decide_true, Bool.not_false, Bool.and_true, if_true] at h; exact h
  · rw [hbl] at h
    exact ⟨fun _ => h, fun e => absurd e b_ne⟩
theorem T_awayFrom {Q : Int32 → PI → Prop} (hA : TA σ k t) (hI : Iv N t) (hx : HB (σ (tc k 0) 14) hb) (hm : m < 2147483648) (h : Q (nI (aw t hb m (t 3))) σ) : wp_X3_awayFrom k (nI m) σ Q := by
  obtain ⟨i1, i2, i3, i4, i5, i6, i7, i8, i9⟩ := hI.1.b
  unfold wp_X3_awayFrom w_X3_awayFrom_4
  refine for_det (t 3) (fun i => (nI m, nI (aw t hb m i), nI i, σ)) (fun K => ?_) (fun K i hi hK => ?_) 0 (Nat.zero_le _)
  · show B_X3_awayFrom_4 k K Q (nI m) (nI (aw t hb m (t 3))) (nI (t 3)) σ
    unfold B_X3_awayFrom_4
    rw [hA.1.2.1]
    exact ⟨fun _ => h, fun q => absurd (Int32.le_refl _) q⟩
  · show B_X3_awayFrom_4 k K Q (nI m) (nI (aw t hb m i)) (nI i) σ
    unfold B_X3_awayFrom_4 w_X3_awayFrom_27
    rw [hA.1.2.1, nI_le' (by omega) (by omega)]
    refine ⟨fun q => absurd q (by omega), fun _ => T_isAway hA.1 hI.1 (hA.2.2 i hi) (hI.2.2 i hi) (by omega) hx hm ?_⟩
    have hlt := bm_lt (pa t hb m) i
    replace hK : K (nI m, nI (bm (pa t hb m) i + if pa t hb m i then 2 ^ i else 0), nI (i + 1), σ) := hK
    cases hp : pa t hb m i
    · rw [hp] at hK
      exact ⟨fun _ => by rw [nI_add]; exact hK, fun e => absurd rfl e⟩
    · rw [hp] at hK
      refine ⟨fun e => absurd e b_ne, fun _ x hx => ?_⟩
      rw [hx, nI_shl (by omega), show aw t hb m i = bm (pa t hb m) i from rfl, nI_or hlt, nI_add]
      exact hK
theorem T_madeAt {Q : Int32 → PI → Prop} (hA : TA σ k t) (hI : Iv N t) (hx : HB (σ (tc k 0) 14) hb) (hm : m < 2147483648) (h : Q (nI (md t hb m (t 3))) σ) : wp_X3_madeAt k (nI m) σ Q := by
  obtain ⟨i1, i2, i3, i4, i5, i6, i7, i8, i9⟩ := hI.1.b
  unfold wp_X3_madeAt w_X3_madeAt_4
  refine for_det (t 3) (fun i => (nI m, nI (md t hb m i), nI i, σ)) (fun K => ?_) (fun K i hi hK => ?_) 0 (Nat.zero_le _)
  · show B_X3_madeAt_4 k K Q (nI m) (nI (md t hb m (t 3))) (nI (t 3)) σ
    unfold B_X3_madeAt_4
    rw [hA.1.2.1]
    exact ⟨fun _ => h, fun q => absurd (Int32.le_refl _) q⟩
  · show B_X3_madeAt_4 k K Q (nI m) (nI (md t hb m i)) (nI i) σ
    unfold B_X3_madeAt_4 w_X3_madeAt_29
    rw [hA.1.2.1, nI_le' (by omega) (by omega)]
    refine ⟨fun q => absurd q (by omega), fun _ => T_isAway hA.1 hI.1 (hA.2.2 i hi) (hI.2.2 i hi) (by omega) hx hm ?_⟩
    replace hK : K (nI m, nI (md t hb m i + if pa t hb m i then mT t i else 0), nI (i + 1), σ) := hK
    cases hp : pa t hb m i
    · rw [hp] at hK
      exact ⟨fun _ => by rw [nI_add]; exact hK, fun e => absurd rfl e⟩
    · rw [hp] at hK
      refine ⟨fun e => absurd e b_ne, fun _ => T_makes hA.1 hI.1 (hA.2.2 i hi) (hI.2.2 i hi) (by omega) (fun x hx => ?_)⟩
      rw [hx, nI_add, nI_add]
      exact hK
theorem T_felt {Q : Int32 → PI → Prop} (hA : TA σ k t) (hm : t 2 ≤ 5) (h : Q (nI (sm (fun i => t (6 + i)) (t 2))) σ) : wp_X3_feltByAll k σ Q := by
  unfold wp_X3_feltByAll w_X3_feltByAll_4
  refine for_det (t 2) (fun i => (nI (sm (fun i => t (6 + i)) i), nI i, σ)) (fun K => ?_) (fun K i hi hK => ?_) 0 (Nat.zero_le _)
  · show B_X3_feltByAll_4 k K Q (nI (sm (fun i => t (6 + i)) (t 2))) (nI (t 2)) σ
    unfold B_X3_feltByAll_4
    rw [hA.1.1]
    exact ⟨fun _ => h, fun q => absurd (Int32.le_refl _) q⟩
  · show B_X3_feltByAll_4 k K Q (nI (sm (fun i => t (6 + i)) i)) (nI i) σ
    unfold B_X3_feltByAll_4
    rw [hA.1.1, nI_le' (by omega) (by omega)]
    refine ⟨fun q => absurd q (by omega), fun _ => ⟨vpN (by omega) (by omega), fun x hx => ?_⟩⟩
    rw [hx, nI_cl (a := i) (by omega), (hA.2.1 i hi).1, nI_add, nI_add]
    exact hK
/-! ===== what changes a town ===== -/
def Fr (k : Nat) (σ τ : PI) : Prop := ∀ c, (∀ j, j < 9 → c ≠ tc k j) → τ c = σ c
theorem Fr.o {k k' : Nat} {σ τ : PI} (h : Fr k σ τ) (hk : k' ≠ k) {j : Nat} (hj : j < 9) : τ (tc k' j) = σ (tc k' j) := h _ (fun i hi => tc_ne hj hi (Or.inl hk))
theorem Fr.hi {k c : Nat} {σ τ : PI} (h : Fr k σ τ) (hk : k < 28) (hc : 252 ≤ c) : τ c = σ c := h _ (fun i hi => (tc_hi hk hi hc).symm)
theorem Fr.tr {k : Nat} {σ τ υ : PI} (h : Fr k σ τ) (g : Fr k τ υ) : Fr k σ υ := fun c hc => (g c hc).trans (h c hc)
theorem Fr.rf {k : Nat} {σ : PI} : Fr k σ σ := fun _ _ => rfl
theorem Fr.u {k : Nat} {σ : PI} {j s : Nat} {v : Int32} (hj : j < 9) : Fr k σ (up σ (tc k j) s v) := fun c hc => up_ne (hc j hj)
theorem TA.fr {k k' : Nat} {σ τ : PI} {t : Nat → Nat} (h : TA σ k' t) (hf : Fr k σ τ) (hk : k' ≠ k) : TA τ k' t := by
  unfold TA TH TM TL at *
  rw [hf.o hk (j := 0) (by omega), hf.o hk (j := 1) (by omega), hf.o hk (j := 2) (by omega), hf.o hk (j := 3) (by omega), hf.o hk (j := 4) (by omega), hf.o hk (j := 5) (by omega), hf.o hk (j := 6) (by omega), hf.o hk (j := 7) (by omega)]
  exact h
def CP (k o : Nat) (σ τ : PI) : Prop := (∀ s, 8 ≤ s → s ≤ 14 → τ (tc k 0) s = σ (tc o 0) s) ∧ (∀ i, i < 5 → τ (tc k 1) i = σ (tc o 1) i ∧ τ (tc k 2) i = σ (tc o 2) i) ∧ (∀ l, l < 6 → τ (tc k 3) l = σ (tc o 3) l ∧ τ (tc k 4) l = σ (tc o 4) l ∧ τ (tc k 5) l = σ (tc o 5) l ∧ τ (tc k 6) l = σ (tc o 6) l) ∧ (∀ i, i < 30 → τ (tc k 7) i = σ (tc o 7) i) ∧ Fr k σ τ
theorem T_copy {o : Nat} {Q : PI → Prop} (hko : o ≠ k) (h : ∀ τ, CP k o σ τ → Q τ) : wp_X3_copyFrom k o σ Q := by
  unfold wp_X3_copyFrom
  intro τ1 e1 τ2 e2 τ3 e3 τ4 e4 τ5 e5 τ6 e6 τ7 e7 τ8 e8 τ9 e9 τ10 e10 τ11 e11 τ12 e12 τ13 e13 τ14 e14
  apply h
  have n1 : (o = k) = False := eq_false hko
  have n2 : (k = o) = False := eq_false (fun q => hko q.symm)
  subst e1 e2 e3 e4 e5 e6 e7 e8 e9 e10 e11 e12 e13 e14
  refine ⟨fun s h1 h2 => ?_, fun i hi => ⟨?_, ?_⟩, fun l hl => ⟨?_, ?_, ?_, ?_⟩, fun i hi => ?_, fun c hc => ?_⟩
  · rcases (show s = 8 ∨ s = 9 ∨ s = 10 ∨ s = 11 ∨ s = 12 ∨ s = 13 ∨ s = 14 by omega) with rfl | rfl | rfl | rfl | rfl | rfl | rfl <;> simp [up, upA, upd, tc_iff, n1, n2]
  · simp [up, upA, upd, tc_iff, n1, n2, va_cpy, hi]
  · simp [up, upA, upd, tc_iff, n1, n2, va_cpy, hi]
  · simp [up, upA, upd, tc_iff, n1, n2, va_cpy, hl]
  · simp [up, upA, upd, tc_iff, n1, n2, va_cpy, hl]
  · simp [up, upA, upd, tc_iff, n1, n2, va_cpy, hl]
  · simp [up, upA, upd, tc_iff, n1, n2, va_cpy, hl]
  · simp [up, upA, upd, tc_iff, n1, n2, va_cpy, hi]
  · have c0 := hc 0 (by omega); have c1 := hc 1 (by omega); have c2 := hc 2 (by omega); have c3 := hc 3 (by omega); have c4 := hc 4 (by omega); have c5 := hc 5 (by omega); have c6 := hc 6 (by omega); have c7 := hc 7 (by omega)
    simp [up, upA, c0, c1, c2, c3, c4, c5, c6, c7]
theorem CP.ta {k o : Nat} {σ τ : PI} {t : Nat → Nat} (h : CP k o σ τ) (hA : TA σ o t) (h2 : t 2 ≤ 5) (h3 : t 3 ≤ 6) : TA τ k t := by
  obtain ⟨a, b, c, d, -⟩ := h
  obtain ⟨⟨a8, a9, a10, a11, a12, a13⟩, hm, hl⟩ := hA
  refine ⟨⟨by rw [a 8 (by omega) (by omega), a8], by rw [a 9 (by omega) (by omega), a9], by rw [a 10 (by omega) (by omega), a10], by rw [a 11 (by omega) (by omega), a11], by rw [a 12 (by omega) (by omega), a12], by rw [a 13 (by omega) (by omega), a13]⟩, fun i hi => ?_, fun l hi => ?_⟩
  · obtain ⟨b1, b2⟩ := b i (by omega)
    obtain ⟨m1, m2⟩ := hm i hi
    exact ⟨b1.trans m1, b2.trans m2⟩
  · obtain ⟨c1, c2, c3, c4⟩ := c l (by omega)
    obtain ⟨l1, l2, l3, l4, l5⟩ := hl l hi
    exact ⟨c1.trans l1, c2.trans l2, c3.trans l3, c4.trans l4, fun m hm => (d _ (by omega)).trans (l5 m hm)⟩
def snd (t : Nat → Nat) (l h : Nat) : Nat → Nat := fun i => if i = 22 + l then h else if 40 + 5 * l ≤ i ∧ i < 45 + 5 * l then 0 else t i
theorem T_sendTo {Q : PI → Prop} {h0 : Nat} (hA : TA σ k t) (hl : l < 6) (hh : h0 < 5) (h2 : t 2 ≤ 5) (h3 : t 3 ≤ 6) (h : ∀ τ, TA τ k (snd t l h0) → τ (tc k 0) = σ (tc k 0) → Fr k σ τ → Q τ) : wp_X3_sendTo k (nI l) (nI h0) σ Q := by
  unfold wp_X3_sendTo w_X3_sendTo_9
  refine ⟨vpN hl (by omega), fun τ e => ?_⟩
  rw [nI_cl (a := l) (by omega)] at e
  refine for_h2 5 (fun _ => nI l) (fun i => nI i) (fun i υ => (∀ c, c ≠ tc k 7 → υ c = τ c) ∧ (∀ j, υ (tc k 7) j = if l * 5 ≤ j ∧ j < l * 5 + i then nI 0 else σ (tc k 7) j)) ?_ ?_ 0 _ (Nat.zero_le _) ⟨fun c _ => rfl, fun j => by rw [if_neg (by omega), e, up_ne (by rw [Ne, tc_iff (by omega) (by omega)]; omega)]⟩
  · rintro K υ ⟨g1, g2⟩
    show B_X3_sendTo_9 k K Q (nI l) (nI 5) υ
    unfold B_X3_sendTo_9
    refine ⟨fun _ => ?_, fun q => absurd (Int32.le_refl _) q⟩
    have g0 : ∀ j, j < 9 → j ≠ 7 → j ≠ 4 → υ (tc k j) = σ (tc k j) := by
      intro j hj h7 h4
      rw [g1 _ (by rw [Ne, tc_iff hj (by omega)]; omega), e, up_ne (by rw [Ne, tc_iff hj (by omega)]; omega)]
    refine h υ ⟨?_, fun i hi => ?_, fun l' hl' => ?_⟩ (g0 0 (by omega) (by omega) (by omega)) (fun c hc => ?_)
    · have := hA.1
      unfold TH at this ⊢
      rw [g0 0 (by omega) (by omega) (by omega)]
      have e0 : ∀ i, i < 6 → snd t l h0 i = t i := fun i hi => by unfold snd; rw [if_neg (by omega), if_neg (by omega)]
      rw [e0 2 (by omega), e0 3 (by omega), e0 0 (by omega), e0 1 (by omega), e0 4 (by omega), e0 5 (by omega)]
      exact this
    · have e2 : snd t l h0 2 = t 2 := by unfold snd; rw [if_neg (by omega), if_neg (by omega)]
      rw [e2] at hi
      have := hA.2.1 i hi
      unfold TM at this ⊢
      rw [g0 1 (by omega) (by omega) (by omega), g0 2 (by omega) (by omega) (by omega)]
      unfold snd
      rw [if_neg (by omega), if_neg (by omega), if_neg (by omega), if_neg (by omega)]
      exact this
    · have e3 : snd t l h0 3 = t 3 := by unfold snd; rw [if_neg (by omega), if_neg (by omega)]
      rw [e3] at hl'
      obtain ⟨w3, w4, w5, w6, w7⟩ := hA.2.2 l' hl'
      refine ⟨?_, ?_, ?_, ?_, fun m hm => ?_⟩
      · rw [g0 3 (by omega) (by omega) (by omega), w3]; unfold snd; rw [if_neg (by omega), if_neg (by omega)]
      · rw [g1 _ (by rw [Ne, tc_iff (by omega) (by omega)]; omega), e]
        unfold snd
        by_cases q : l' = l
        · subst q; rw [up_s, if_pos rfl]
        · rw [up_k q, w4, if_neg (by omega), if_neg (by omega)]
      · rw [g0 5 (by omega) (by omega) (by omega), w5]; unfold snd; rw [if_neg (by omega), if_neg (by omega)]
      · rw [g0 6 (by omega) (by omega) (by omega), w6]; unfold snd; rw [if_neg (by omega), if_neg (by omega)]
      · rw [g2]
        unfold snd
        rw [if_neg (show ¬ 40 + 5 * l' + m = 22 + l by omega)]
        by_cases q : l' = l
        · subst q; rw [if_pos (by omega), if_pos (by omega)]
        · rw [if_neg (by omega), if_neg (by omega), w7 m hm]
    · show υ c = σ c
      rw [g1 c (hc 7 (by omega)), e, up_ne (hc 4 (by omega))]
  · rintro K i υ hi ⟨g1, g2⟩ hK
    show B_X3_sendTo_9 k K Q (nI l) (nI i) υ
    unfold B_X3_sendTo_9
    rw [nI_le' (by omega) (by omega), pk_mul, nI_add, nI_cl (a := l * 5 + i) (by omega)]
    refine ⟨fun q => absurd q (by omega), fun _ => ⟨vpN (by omega) (by omega), fun ω e2 => ?_⟩⟩
    rw [nI_add]
    refine hK ω ⟨fun c hc => ?_, fun j => ?_⟩
    · show ω c = τ c
      rw [e2, up_ne hc]; exact g1 c hc
    · show ω (tc k 7) j = _
      rw [e2]
      by_cases q : j = l * 5 + i
      · subst q; rw [up_s, if_pos (by omega)]
      · rw [up_k q, show υ (tc k 7) j = _ from g2 j]
        by_cases q2 : l * 5 ≤ j ∧ j < l * 5 + i
        · rw [if_pos q2, if_pos (by omega)]
        · rw [if_neg q2, if_neg (by omega)]
/-! ===== a day ===== -/
def nf (t : Nat → Nat) (hb : Nat → Bool) (m : Nat) : Nat := if aw t hb m (t 3) = 0 then t (6 + m) - 1 else if t (11 + m) < md t hb m (t 3) then (if t (6 + m) + md t hb m (t 3) < 99 then t (6 + m) + md t hb m (t 3) else 99) else t (6 + m) - t 0
def ud (t : Nat → Nat) (hb : Nat → Bool) (m : Nat) : Bool := !decide (aw t hb m (t 3) = 0) && !decide (t (11 + m) < md t hb m (t 3))
def us (t : Nat → Nat) (hb : Nat → Bool) : Nat := bm (ud t hb) (t 2)
def dy (t : Nat → Nat) (hb : Nat → Bool) : Nat → Nat := fun i => if i = 4 then t 4 + 1 else if 6 ≤ i ∧ i < 6 + t 2 then nf t hb (i - 6) else if 40 ≤ i ∧ i < 40 + 5 * t 3 then t i + (if pa t hb ((i - 40) % 5) ((i - 40) / 5) then 1 else 0) else t i
theorem md_le (hI : Iv N t) : ∀ n, n ≤ t 3 → md t hb m n ≤ n * 18 := fun n hn => sm_le n (fun i hi => by
  have := mT_le hI.1 (hI.2.2 i (by omega))
  split <;> omega)
theorem orb {x m : Nat} (hx : x < 32) (hm : m < 5) : nI x ||| nI (2 ^ m) = nI (x ||| 2 ^ m) ∧ x ||| 2 ^ m < 32 := by
  refine ⟨?_, ?_⟩
  · apply Int32.toBitVec_inj.1
    show BitVec.ofNat 32 x ||| BitVec.ofNat 32 (2 ^ m) = BitVec.ofNat 32 (x ||| 2 ^ m)
    apply BitVec.eq_of_getLsbD_eq
    intro i hi
    simp [hi]
  · have h1 : 2 ^ m < 2 ^ 5 := Nat.pow_lt_pow_right (by omega) hm
    exact Nat.or_lt_two_pow (n := 5) hx h1
theorem T_stay {Q : Int32 → PI → Prop} (hA : TA σ k t) (hI : Iv N t) (hx : HB (σ (tc k 0) 14) hb)
    (h : ∀ (x : Nat) (τ : PI), x < 32 → (∀ m, m < 5 → x.testBit m = !decide (aw t hb m (t 3) = 0)) → (∀ c, c ≠ tc k 7 → c ≠ tc k 8 → τ c = σ c) → (∀ m, m < 5 → τ (tc k 8) m = nI (md t hb m (t 3))) → (∀ l m, l < t 3 → m < 5 → τ (tc k 7) (l * 5 + m) = nI (t (40 + 5 * l + m) + if pa t hb m l then 1 else 0)) → Q (nI x) τ) : wp_X3_stayAway k σ Q := by
  obtain ⟨i1, i2, i3, i4, i5, i6, i7, i8, i9⟩ := hI.1.b
  unfold wp_X3_stayAway w_X3_stayAway_2
  refine for_h1 5 (fun i => nI i) (fun i τ => (∀ c, c ≠ tc k 8 → τ c = σ c) ∧ ∀ m, m < i → τ (tc k 8) m = nI 0) ?_ ?_ 0 _ (Nat.zero_le _) ⟨fun _ _ => rfl, fun m hm => absurd hm (Nat.not_lt_zero m)⟩
  · rintro K τ ⟨g1, g2⟩
    show B_X3_stayAway_2 k K Q (nI 5) τ
    unfold B_X3_stayAway_2 w_X3_stayAway_24
    refine ⟨fun _ => ?_, fun q => absurd (Int32.le_refl _) q⟩
    refine for_up (α := Int32 × Int32 × PI) (t 3) (fun i a => ∃ x, a.1 = nI x ∧ x < 32 ∧ a.2.1 = nI i ∧ (∀ m, m < 5 → x.testBit m = !decide (aw t hb m i = 0)) ∧ (∀ c, c ≠ tc k 7 → c ≠ tc k 8 → a.2.2 c = σ c) ∧ (∀ m, m < 5 → a.2.2 (tc k 8) m = nI (md t hb m i)) ∧ (∀ l m, l < t 3 → m < 5 → a.2.2 (tc k 7) (l * 5 + m) = nI (t (40 + 5 * l + m) + if l < i ∧ pa t hb m l = true then 1 else 0))) ?_ ?_ 0 _ (Nat.zero_le _) ⟨0, rfl, by omega, rfl, fun m hm => by simp [aw, bm], fun c _ h8 => g1 c h8, fun m hm => g2 m hm, fun l m hl hm => ?_⟩
    · rintro K2 ⟨a, b, υ⟩ ⟨x, rfl, hx32, rfl, e1, e2, e3, e4⟩
      show B_X3_stayAway_24 k K2 Q (nI x) (nI (t 3)) υ
      unfold B_X3_stayAway_24
      have e0 : υ (tc k 0) = σ (tc k 0) := e2 _ (by rw [Ne, tc_iff (by omega) (by omega)]; omega) (by rw [Ne, tc_iff (by omega) (by omega)]; omega)
      rw [e0, hA.1.2.1]
      refine ⟨fun _ => h x υ hx32 e1 e2 e3 (fun l m hl hm => ?_), fun q => absurd (Int32.le_refl _) q⟩
      have := e4 l m hl hm
      rw [show υ (tc k 7) (l * 5 + m) = _ from this]
      simp only [hl, true_and]
    · rintro K2 i ⟨a, b, υ⟩ hi ⟨x, rfl, hx32, rfl, e1, e2, e3, e4⟩ hK
      show B_X3_stayAway_24 k K2 Q (nI x) (nI i) υ
      unfold B_X3_stayAway_24 w_X3_stayAway_83
      have ec : ∀ j, j < 9 → j ≠ 7 → j ≠ 8 → υ (tc k j) = σ (tc k j) := fun j hj h7 h8 => e2 _ (by rw [Ne, tc_iff hj (by omega)]; omega) (by rw [Ne, tc_iff hj (by omega)]; omega)
      have e0 := ec 0 (by omega) (by omega) (by omega)
      have hH : TH υ k t := by
        have := hA.1
        unfold TH at this ⊢
        rw [e0]; exact this
      obtain ⟨w3, w4, w5, w6, w7⟩ := hA.2.2 i hi
      have hL : TL υ k t i := ⟨by rw [ec 3 (by omega) (by omega) (by omega), w3], by rw [ec 4 (by omega) (by omega) (by omega), w4], by rw [ec 5 (by omega) (by omega) (by omega), w5], by rw [ec 6 (by omega) (by omega) (by omega), w6], fun m hm => by
        rw [show υ (tc k 7) (i * 5 + m) = _ from e4 i m hi hm]
        simp⟩
      have iL := hI.2.2 i hi
      have hh := hT_lt hI.1 i
      rw [hH.2.1, nI_le' (by omega) (by omega), e0]
      refine ⟨fun q => absurd q (by omega), fun _ => T_bit hx (by omega) ?_⟩
      cases hbl : hb i
      · refine ⟨fun q => absurd rfl q, fun _ => T_house hH hI.1 hL iL (by omega) ⟨vpN (by omega) (by omega), T_makes hH hI.1 hL iL (by omega) ⟨vpN (by omega) (by omega), fun τ1 f1 => ?_⟩⟩⟩
        rw [nI_cl (a := hT t i) (by omega), show υ (tc k 8) (hT t i) = _ from e3 _ (by omega), nI_add] at f1
        rw [pk_mul, nI_add, nI_cl (a := i * 5 + hT t i) (by omega)]
        refine ⟨vpN (by omega) (by omega), vpN (by omega) (by omega), fun τ2 f2 y hy => ?_⟩
        rw [hy, nI_shl (by omega), (orb hx32 (by omega)).1, nI_add]
        have hpa : ∀ m, pa t hb m i = decide (hT t i = m) := fun m => by simp [pa, hbl]
        have hn78 : tc k 7 ≠ tc k 8 := by rw [Ne, tc_iff (by omega) (by omega)]; omega
        have h7 : τ1 (tc k 7) = υ (tc k 7) := by rw [f1, up_ne hn78]
        refine hK (nI (x ||| 2 ^ hT t i), nI (i + 1), τ2) ⟨x ||| 2 ^ hT t i, rfl, (orb hx32 (by omega)).2, rfl, fun m hm => ?_, fun c h7 h8 => ?_, fun m hm => ?_, fun l m hl hm => ?_⟩
        · rw [Nat.testBit_or, e1 m hm, Nat.testBit_two_pow]
          show _ = !decide (bm (pa t hb m) i + (if pa t hb m i then 2 ^ i else 0) = 0)
          rw [hpa m]
          by_cases q : hT t i = m
          · have := Nat.two_pow_pos i
            simp [q, show ¬ (bm (pa t hb m) i + 2 ^ i = 0) by omega]
          · simp [q, aw]
            exact decide_eq_decide.mpr Iff.rfl
        · show τ2 c = σ c
          rw [f2, up_ne h7, f1, up_ne h8]
          exact e2 c h7 h8
        · show τ2 (tc k 8) m = nI (md t hb m i + if pa t hb m i then mT t i else 0)
          rw [f2, up_ne hn78.symm, f1, hpa m]
          by_cases q : hT t i = m
          · subst q
            rw [up_s]; simp
          · rw [up_k (fun z => q z.symm), show υ (tc k 8) m = _ from e3 m hm]
            simp [q]
        · show τ2 (tc k 7) (l * 5 + m) = _
          rw [f2]
          by_cases q : l * 5 + m = i * 5 + hT t i
          · obtain ⟨rfl, rfl⟩ : l = i ∧ m = hT t i := by omega
            rw [up_s, h7, show υ (tc k 7) (l * 5 + hT t l) = _ from e4 l _ hl hm, nI_add, hpa]
            simp
          · rw [up_k q, h7, show υ (tc k 7) (l * 5 + m) = _ from e4 l m hl hm]
            congr 2
            by_cases q2 : l = i
            · subst q2
              have q3 : ¬ hT t l = m := fun z => q (by omega)
              simp [hpa, q3]
            · simp [show (l < i + 1) = (l < i) from propext ⟨fun _ => by omega, fun _ => by omega⟩]
      · refine ⟨fun _ => ?_, fun q => absurd q b_ne⟩
        have hpa : ∀ m, pa t hb m i = false := fun m => by simp [pa, hbl]
        rw [nI_add]
        refine hK (nI x, nI (i + 1), υ) ⟨x, rfl, hx32, rfl, fun m hm => ?_, e2, fun m hm => ?_, fun l m hl hm => ?_⟩
        · rw [e1 m hm]
          show _ = !decide (bm (pa t hb m) i + (if pa t hb m i then 2 ^ i else 0) = 0)
          rw [hpa m]; simp [aw]
          exact decide_eq_decide.mpr Iff.rfl
        · show υ (tc k 8) m = nI (md t hb m i + if pa t hb m i then mT t i else 0)
          rw [show υ (tc k 8) m = _ from e3 m hm, hpa m]; simp
        · show υ (tc k 7) (l * 5 + m) = _
          rw [show υ (tc k 7) (l * 5 + m) = _ from e4 l m hl hm]
          congr 2
          by_cases q2 : l = i
          · subst q2; simp [hpa]
          · simp [show (l < i + 1) = (l < i) from propext ⟨fun _ => by omega, fun _ => by omega⟩]
    · show τ (tc k 7) (l * 5 + m) = _
      rw [g1 _ (by rw [Ne, tc_iff (by omega) (by omega)]; omega), (hA.2.2 l hl).2.2.2.2 m hm]
      simp
  · rintro K i τ hi ⟨g1, g2⟩ hK
    show B_X3_stayAway_2 k K Q (nI i) τ
    unfold B_X3_stayAway_2
    rw [nI_le' (by omega) (by omega), nI_cl (a := i) (by omega)]
    refine ⟨fun q => absurd q (by omega), fun _ => ⟨vpN (by omega) (by omega), fun υ e => ?_⟩⟩
    rw [nI_add]
    refine hK υ ⟨fun c hc => by rw [e, up_ne hc]; exact g1 c hc, fun m hm => ?_⟩
    rw [e]
    by_cases q : m = i
    · subst q; rw [up_s]
    · rw [up_k q]; exact g2 m (by omega)
end TW
