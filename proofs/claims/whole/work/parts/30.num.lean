/-! ===== numbers, bits, sums ===== -/
theorem for_up {α : Type} {F : (α → Prop) → α → Prop} (n : Nat) (I : Nat → α → Prop) (hend : ∀ K a, I n a → F K a) (hstep : ∀ K i a, i < n → I i a → (∀ b, I (i + 1) b → K b) → F K a) (i : Nat) (a : α) (hi : i ≤ n) (ha : I i a) : ∃ m, Lp F m a := by
  have key : ∀ d i a, i + d = n → I i a → Lp F (d + 1) a := by
    intro d
    induction d with
    | zero => intro i a h1 h2; exact hend _ a (by rw [← h1]; exact h2)
    | succ d ih => intro i a h1 h2; exact hstep _ i a (by omega) h2 (fun b h3 => ih (i + 1) b (by omega) h3)
  exact ⟨n - i + 1, key (n - i) i a (by omega) ha⟩
theorem for_det {α : Type} {F : (α → Prop) → α → Prop} (n : Nat) (st : Nat → α) (hend : ∀ K, F K (st n)) (hstep : ∀ K i, i < n → K (st (i + 1)) → F K (st i)) (i : Nat) (hi : i ≤ n) : ∃ m, Lp F m (st i) :=
  for_up n (fun i a => a = st i) (fun K a h => by rw [h]; exact hend K) (fun K i a h1 h2 h3 => by rw [h2]; exact hstep K i h1 (h3 _ rfl)) i _ hi rfl
theorem nI_inj {a b : Nat} (ha : a < 2147483648) (hb : b < 2147483648) : nI a = nI b ↔ a = b := nI_eq ha hb
theorem nI_le' {a b : Nat} (ha : a < 2147483648) (hb : b < 2147483648) : nI a ≤ nI b ↔ a ≤ b := nI_leI ha hb
theorem nI_lt' {a b : Nat} (ha : a < 2147483648) (hb : b < 2147483648) : nI a < nI b ↔ a < b := nI_ltI ha hb
theorem nI_cl {a : Nat} (h : a < 2147483648) : (nI a).toNatClampNeg = a := nI_clamp h
theorem nI_rem {a d : Nat} (ha : a < 2147483648) (h0 : 0 < d) (hd : d < 2147483648) : nI a - nI a / nI d * nI d = nI (a % d) := pk_rem ha h0 hd
theorem nI_div {a d : Nat} (ha : a < 2147483648) (h0 : 0 < d) (hd : d < 2147483648) : nI a / nI d = nI (a / d) := pk_div ha h0 hd
theorem nI_sub {a b : Nat} (h : b ≤ a) : nI a - nI b = nI (a - b) := pk_sub h
theorem vpN {n N : Nat} (h : n < N) (hN : N < 2147483648) : vp_in (nI n) N := vp_in_nI h hN
theorem nI_msk : ∀ l : Fin 32, ((nI l.val &&& 31).toBitVec.smod 32).toNat = l.val := by decide +kernel
theorem nI_shl {l : Nat} (h : l < 31) : nI 1 <<< (nI l &&& 31) = nI (2 ^ l) := by
  have h1 : 2 ^ l < 2 ^ 31 := Nat.pow_lt_pow_right (by omega) h
  have h2 := pk_shlN (n := 1) (nI l &&& 31) l (nI_msk ⟨l, by omega⟩) (by omega)
  rw [h2, Nat.one_mul]
theorem nI_bit {x l : Nat} (hx : x < 2147483648) (h : l < 31) : ((nI x >>> (nI l &&& 31)) &&& nI 1) = nI (x / 2 ^ l % 2) := by
  rw [pk_shrN hx (nI l &&& 31) l (nI_msk ⟨l, by omega⟩), pk_andN (m := nI 1) (Nat.lt_of_le_of_lt (Nat.div_le_self _ _) (by omega)) 1 rfl]
theorem nI_or {a l : Nat} (ha : a < 2 ^ l) : nI a ||| nI (2 ^ l) = nI (a + 2 ^ l) := by
  have e : nI a ||| nI (2 ^ l) = nI (2 ^ l) ||| nI a := Int32.or_comm _ _
  have : nI (2 ^ l) ||| nI a = nI (2 ^ l + a) := by
    apply Int32.toBitVec_inj.1
    show BitVec.ofNat 32 (2 ^ l) ||| BitVec.ofNat 32 a = BitVec.ofNat 32 (2 ^ l + a)
    rw [show 2 ^ l + a = 2 ^ l ||| a from by
      have := Nat.two_pow_add_eq_or_of_lt ha 1
      simpa using this]
    apply BitVec.eq_of_getLsbD_eq
    intro i hi
    simp [hi]
  rw [e, this, Nat.add_comm]
/-- the bits of p below n -/
def bm (p : Nat → Bool) : Nat → Nat
  | 0 => 0
  | n + 1 => bm p n + if p n then 2 ^ n else 0
theorem bm_lt (p : Nat → Bool) : ∀ n, bm p n < 2 ^ n
  | 0 => by simp [bm]
  | n + 1 => by
    have := bm_lt p n
    simp only [bm, Nat.pow_succ]
    split <;> omega
theorem bm_le (p : Nat → Bool) {n m : Nat} (h : n ≤ m) : bm p n < 2 ^ m := Nat.lt_of_lt_of_le (bm_lt p n) (Nat.pow_le_pow_right (by omega) h)
theorem bm_bit (p : Nat → Bool) : ∀ n l, l < n → bm p n / 2 ^ l % 2 = if p l then 1 else 0
  | 0, l, h => absurd h (Nat.not_lt_zero l)
  | n + 1, l, h => by
    have ih := bm_bit p n l
    have hlt := bm_lt p n
    by_cases e : l = n
    · subst e
      simp only [bm]
      by_cases hp : p l = true
      · simp only [hp, if_true]
        rw [Nat.add_div_right _ (Nat.two_pow_pos l), Nat.div_eq_of_lt hlt]
      · simp only [hp, if_false, Nat.add_zero, Bool.false_eq_true]
        rw [Nat.div_eq_of_lt hlt]
    · have hl : l < n := by omega
      rw [← ih hl]
      simp only [bm]
      by_cases hp : p n = true
      · simp only [hp, if_true]
        rw [show 2 ^ n = 2 ^ l * (2 * 2 ^ (n - l - 1)) from by
          rw [← Nat.pow_succ', ← Nat.pow_add]; congr 1; omega, Nat.add_mul_div_left _ _ (Nat.two_pow_pos l)]
        omega
      · simp only [hp, if_false, Nat.add_zero, Bool.false_eq_true]
theorem bm_zero (p : Nat → Bool) : ∀ n, bm p n = 0 ↔ ∀ l, l < n → p l = false
  | 0 => by simp [bm]
  | n + 1 => by
    have ih := bm_zero p n
    have hp := Nat.two_pow_pos n
    constructor
    · intro h l hl
      simp only [bm] at h
      by_cases e : l = n
      · subst e
        cases hq : p l
        · rfl
        · rw [hq] at h; simp at h
      · exact ih.mp (by omega) l (by omega)
    · intro h
      simp only [bm, h n (by omega), ih.mpr (fun l hl => h l (by omega))]
      rfl
theorem bm_cong {p q : Nat → Bool} : ∀ n, (∀ l, l < n → p l = q l) → bm p n = bm q n
  | 0, _ => rfl
  | n + 1, h => by simp only [bm, bm_cong n (fun l hl => h l (by omega)), h n (by omega)]
def sm (f : Nat → Nat) : Nat → Nat
  | 0 => 0
  | n + 1 => sm f n + f n
theorem sm_le {f : Nat → Nat} {c : Nat} : ∀ n, (∀ i, i < n → f i ≤ c) → sm f n ≤ n * c
  | 0, _ => by simp [sm]
  | n + 1, h => by
    have := sm_le n (fun i hi => h i (by omega))
    have h2 := h n (by omega)
    simp only [sm, Nat.succ_mul]
    omega
theorem sm_cong {f g : Nat → Nat} : ∀ n, (∀ i, i < n → f i = g i) → sm f n = sm g n
  | 0, _ => rfl
  | n + 1, h => by simp only [sm, sm_cong n (fun i hi => h i (by omega)), h n (by omega)]
/-- x's bits 0 .. 5 are those of hb -/
def HB (x : Int32) (hb : Nat → Bool) : Prop := ∀ l, l < 6 → ((x >>> (nI l &&& 31)) &&& nI 1) = if hb l then nI 1 else nI 0
theorem HB_0 : HB (nI 0) (fun _ => false) := by
  intro l hl
  rw [nI_bit (by omega) (by omega), Nat.zero_div]
  rfl
theorem HB_n {x : Nat} (hx : x < 64) : HB (nI x) (fun l => x.testBit l) := by
  intro l hl
  show _ = if x.testBit l = true then nI 1 else nI 0
  rw [nI_bit (by omega) (by omega), Nat.testBit_eq_decide_div_mod_eq]
  by_cases h : x / 2 ^ l % 2 = 1
  · simp [h]
  · have : x / 2 ^ l % 2 = 0 := by omega
    simp [this]
theorem HB_not : ∀ x : Fin 64, ∀ l : Fin 6, (((nI x.val ^^^ (-1)) >>> (nI l.val &&& 31)) &&& nI 1) = if !(x.val.testBit l.val) then nI 1 else nI 0 := by decide +kernel
theorem HB_n' {x : Nat} (hx : x < 64) : HB (nI x ^^^ (-1)) (fun l => !(x.testBit l)) := fun l hl => HB_not ⟨x, hx⟩ ⟨l, hl⟩
theorem b_1 : nI 1 = 1 := rfl
theorem b_ne : ¬ nI 1 = nI 0 := by decide
theorem upd_s {f : Nat → Int32} {k : Nat} {x : Int32} : upd f k x k = x := pk_us
theorem upd_n {f : Nat → Int32} {k j : Nat} {x : Int32} (h : j ≠ k) : upd f k x j = f j := pk_un h
theorem up_s {σ : PI} {i k : Nat} {v : Int32} : up σ i k v i k = v := by rw [up_self, upd_s]
theorem up_k {σ : PI} {i k j : Nat} {v : Int32} (h : j ≠ k) : up σ i k v i j = σ i j := by rw [up_self, upd_n h]
theorem tc_ne {k j k' j' : Nat} (hj : j < 9) (hj' : j' < 9) (h : k ≠ k' ∨ j ≠ j') : tc k j ≠ tc k' j' := by unfold tc; omega
theorem tc_hi {k j c : Nat} (hk : k < 28) (hj : j < 9) (hc : 252 ≤ c) : tc k j ≠ c := by unfold tc; omega
theorem rc_hi {r j : Nat} : 260 ≤ rc r j := by unfold rc; omega
theorem nI_min {a b : Nat} (ha : a < 2147483648) (hb : b < 2147483648) : (if nI a < nI b then nI a else nI b) = nI (if a < b then a else b) := by
  by_cases h : a < b
  · rw [if_pos ((nI_lt' ha hb).mpr h), if_pos h]
  · rw [if_neg (fun q => h ((nI_lt' ha hb).mp q)), if_neg h]
theorem nI_sat {a b : Nat} (ha : a < 1073741824) (hb : b < 1073741824) : (if nI 0 < nI a - nI b then nI a - nI b else nI 0) = nI (a - b) := by
  by_cases h : b < a
  · rw [nI_sub (by omega), if_pos ((nI_lt' (by omega) (by omega)).mpr (by omega))]
  · rw [show a - b = 0 by omega]
    by_cases e : a = b
    · subst e
      rw [nI_sub (Nat.le_refl _), Nat.sub_self]
      split <;> rfl
    · have h1 : nI a - nI b < 0 := pk_sneg (by omega) (by omega)
      rw [if_neg]
      intro q
      have h2 : (nI 0 : Int32) = 0 := rfl
      rw [h2, Int32.lt_iff_toInt_lt] at q
      rw [Int32.lt_iff_toInt_lt] at h1
      omega
theorem tc_iff {a i b j : Nat} (hi : i < 9) (hj : j < 9) : (tc a i = tc b j) = (a = b ∧ i = j) := by
  unfold tc
  apply propext
  omega
theorem for_h1 {A : Type} {F : (A × PI → Prop) → A × PI → Prop} (n : Nat) (v : Nat → A) (I : Nat → PI → Prop) (hend : ∀ K σ, I n σ → F K (v n, σ)) (hstep : ∀ K i σ, i < n → I i σ → (∀ τ, I (i + 1) τ → K (v (i + 1), τ)) → F K (v i, σ)) (i : Nat) (σ : PI) (hi : i ≤ n) (h : I i σ) : ∃ m, Lp F m (v i, σ) :=
  for_up n (fun i a => a.1 = v i ∧ I i a.2) (fun K a ha => by obtain ⟨x, σ⟩ := a; obtain ⟨e, h⟩ := ha; cases e; exact hend K σ h) (fun K i a hi ha hK => by obtain ⟨x, σ⟩ := a; obtain ⟨e, h⟩ := ha; cases e; exact hstep K i σ hi h (fun τ ht => hK (v (i + 1), τ) ⟨rfl, ht⟩)) i (v i, σ) hi ⟨rfl, h⟩
theorem for_h2 {A B : Type} {F : (A × B × PI → Prop) → A × B × PI → Prop} (n : Nat) (v : Nat → A) (w : Nat → B) (I : Nat → PI → Prop) (hend : ∀ K σ, I n σ → F K (v n, w n, σ)) (hstep : ∀ K i σ, i < n → I i σ → (∀ τ, I (i + 1) τ → K (v (i + 1), w (i + 1), τ)) → F K (v i, w i, σ)) (i : Nat) (σ : PI) (hi : i ≤ n) (h : I i σ) : ∃ m, Lp F m (v i, w i, σ) :=
  for_up n (fun i a => a.1 = v i ∧ a.2.1 = w i ∧ I i a.2.2) (fun K a ha => by obtain ⟨x, y, σ⟩ := a; obtain ⟨e, e2, h⟩ := ha; cases e; cases e2; exact hend K σ h) (fun K i a hi ha hK => by obtain ⟨x, y, σ⟩ := a; obtain ⟨e, e2, h⟩ := ha; cases e; cases e2; exact hstep K i σ hi h (fun τ ht => hK (v (i + 1), w (i + 1), τ) ⟨rfl, rfl, ht⟩)) i (v i, w i, σ) hi ⟨rfl, rfl, h⟩
theorem for_h3 {A B C : Type} {F : (A × B × C × PI → Prop) → A × B × C × PI → Prop} (n : Nat) (v : Nat → A) (w : Nat → B) (u : Nat → C) (I : Nat → PI → Prop) (hend : ∀ K σ, I n σ → F K (v n, w n, u n, σ)) (hstep : ∀ K i σ, i < n → I i σ → (∀ τ, I (i + 1) τ → K (v (i + 1), w (i + 1), u (i + 1), τ)) → F K (v i, w i, u i, σ)) (i : Nat) (σ : PI) (hi : i ≤ n) (h : I i σ) : ∃ m, Lp F m (v i, w i, u i, σ) :=
  for_up n (fun i a => a.1 = v i ∧ a.2.1 = w i ∧ a.2.2.1 = u i ∧ I i a.2.2.2) (fun K a ha => by obtain ⟨x, y, z, σ⟩ := a; obtain ⟨e, e2, e3, h⟩ := ha; cases e; cases e2; cases e3; exact hend K σ h) (fun K i a hi ha hK => by obtain ⟨x, y, z, σ⟩ := a; obtain ⟨e, e2, e3, h⟩ := ha; cases e; cases e2; cases e3; exact hstep K i σ hi h (fun τ ht => hK (v (i + 1), w (i + 1), u (i + 1), τ) ⟨rfl, rfl, rfl, ht⟩)) i (v i, w i, u i, σ) hi ⟨rfl, rfl, rfl, h⟩
