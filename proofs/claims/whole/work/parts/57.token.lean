/-! ===== the tape's tokens, as the class's reader and the model see them ===== -/
def fg (b : Nat → Nat) (p : Nat) : Bool := decide (48 ≤ b p ∧ b p ≤ 57)
def reF (n : Nat) (b : Nat → Nat) : Nat → Nat → Nat
  | 0, p => p
  | k + 1, p => if p < n ∧ fg b p = true then reF n b k (p + 1) else p
def re (n : Nat) (b : Nat → Nat) (p : Nat) : Nat := reF n b (n - p) p
def te (n : Nat) (b : Nat → Nat) (p : Nat) : Nat := if n ≤ p then p else if fg b p = true then re n b p else p + 1
def isN (n : Nat) (b : Nat → Nat) (p : Nat) : Bool := decide (p < n) && fg b p && decide (re n b p - p ≤ 2)
def isC (n : Nat) (b : Nat → Nat) (p c : Nat) : Bool := decide (p < n) && !fg b p && decide (b p = c)
def tv (n : Nat) (b : Nat → Nat) (p : Nat) : Nat := if re n b p = p + 1 then b p - 48 else 10 * (b p - 48) + (b (p + 1) - 48)
def ctk (n : Nat) (b : Nat → Nat) (p : Nat) : Int32 := if n ≤ p then -1 else if fg b p = true then (if re n b p - p ≤ 2 then -2 else -3) else nI (b p)
def lt3 (c : Nat) : Prop := (97 ≤ c ∧ c ≤ 122) ∨ c = 44 ∨ c = 59
def kos (n : Nat) (b : Nat → Nat) (p : Nat) : Nat := if isC n b p 112 = true then 1 else if isC n b p 102 = true then 2 else if isC n b p 115 = true then 3 else if isC n b p 105 = true then 4 else if isC n b p 119 = true then 5 else 0
section TK
variable {n : Nat} {b : Nat → Nat} {σ τ υ : PI} {p : Nat}
theorem reF_is : ∀ k p, k = n - p → p ≤ n → p ≤ reF n b k p ∧ reF n b k p ≤ n ∧ (∀ q, p ≤ q → q < reF n b k p → q < n ∧ fg b q = true) ∧ ¬ (reF n b k p < n ∧ fg b (reF n b k p) = true) := by
  intro k
  induction k with
  | zero =>
    intro p hk hp
    rw [reF]
    exact ⟨Nat.le_refl _, hp, fun q h1 h2 => by omega, fun z => by omega⟩
  | succ k ih =>
    intro p hk hp
    rw [reF]
    by_cases q : p < n ∧ fg b p = true
    · rw [if_pos q]
      obtain ⟨i1, i2, i3, i4⟩ := ih (p + 1) (by omega) (by omega)
      refine ⟨by omega, i2, fun x h1 h2 => ?_, i4⟩
      by_cases e : x = p
      · rw [e]; exact q
      · exact i3 x (by omega) h2
    · rw [if_neg q]
      exact ⟨Nat.le_refl _, hp, fun x h1 h2 => by omega, q⟩
theorem re_is (hp : p ≤ n) : p ≤ re n b p ∧ re n b p ≤ n ∧ (∀ q, p ≤ q → q < re n b p → q < n ∧ fg b q = true) ∧ ¬ (re n b p < n ∧ fg b (re n b p) = true) := reF_is _ p rfl hp
theorem re_gt (hp : p < n) (hf : fg b p = true) : p < re n b p := by
  obtain ⟨h1, h2, h3, h4⟩ := re_is (b := b) (Nat.le_of_lt hp)
  by_cases q : re n b p = p
  · rw [q] at h4; exact absurd ⟨hp, hf⟩ h4
  · omega
theorem re_eq (h : ¬ (p < n ∧ fg b p = true)) (hp : p ≤ n) : re n b p = p := by
  obtain ⟨h1, h2, h3, h4⟩ := re_is (b := b) hp
  by_cases q : re n b p = p
  · exact q
  · exact absurd (h3 p (Nat.le_refl _) (by omega)) h
theorem te_le (hp : p ≤ n) : te n b p ≤ n := by
  unfold te
  split
  · exact hp
  · split
    · exact (re_is hp).2.1
    · omega
theorem fg_is : fg b p = true ↔ 48 ≤ b p ∧ b p ≤ 57 := by unfold fg; simp
theorem fg_no : fg b p = false ↔ ¬ (48 ≤ b p ∧ b p ≤ 57) := by unfold fg; simp
theorem isN_is : isN n b p = true ↔ p < n ∧ fg b p = true ∧ re n b p - p ≤ 2 := by unfold isN; simp [and_assoc]
theorem isC_is {c : Nat} : isC n b p c = true ↔ p < n ∧ fg b p = false ∧ b p = c := by unfold isC; simp [and_assoc]
theorem tv_le (hp : p < n) (hf : fg b p = true) : tv n b p ≤ 99 := by
  have h0 := fg_is.1 hf
  have h1 := re_gt hp hf
  obtain ⟨_, _, h3, _⟩ := re_is (b := b) (Nat.le_of_lt hp)
  unfold tv
  by_cases q : re n b p = p + 1
  · rw [if_pos q]; omega
  · rw [if_neg q]
    have := fg_is.1 (h3 (p + 1) (by omega) (by omega)).2
    omega
theorem neg_ne {k c : Nat} (hk : 1 ≤ k) (hk2 : k ≤ 3) (hc : c < 2147483648) : ¬ (-(nI k)) = nI c := by
  intro h
  have h2 := congrArg Int32.toInt h
  rw [nI_toInt hc] at h2
  have : (-(nI k)).toInt = -(k : Int) := by
    rcases (show k = 1 ∨ k = 2 ∨ k = 3 by omega) with e | e | e <;> subst e <;> decide
  omega
theorem n1 : (-1 : Int32) = -(nI 1) := rfl
theorem n2 : (-2 : Int32) = -(nI 2) := rfl
theorem n3 : (-3 : Int32) = -(nI 3) := rfl
theorem ctk_c {c : Nat} (hb : ∀ i, i < n → b i < 256) (hc : c < 256) (hf : ¬ (48 ≤ c ∧ c ≤ 57)) : ctk n b p = nI c ↔ isC n b p c = true := by
  rw [isC_is]
  unfold ctk
  by_cases h1 : n ≤ p
  · rw [if_pos h1, n1]; exact ⟨fun z => absurd z (neg_ne (by omega) (by omega) (by omega)), fun z => by omega⟩
  rw [if_neg h1]
  by_cases h2 : fg b p = true
  · rw [if_pos h2]
    refine ⟨fun z => ?_, fun z => by rw [h2] at z; exact absurd z.2.1 (by decide)⟩
    split at z
    · rw [n2] at z; exact absurd z (neg_ne (by omega) (by omega) (by omega))
    · rw [n3] at z; exact absurd z (neg_ne (by omega) (by omega) (by omega))
  · rw [if_neg h2]
    have := hb p (by omega)
    rw [nI_inj (by omega) (by omega)]
    exact ⟨fun z => ⟨by omega, by simpa using h2, z⟩, fun z => z.2.2⟩
theorem ctk_n (hb : ∀ i, i < n → b i < 256) : ctk n b p = -2 ↔ isN n b p = true := by
  rw [isN_is]
  unfold ctk
  by_cases h1 : n ≤ p
  · rw [if_pos h1]; exact ⟨fun z => absurd z (by decide), fun z => by omega⟩
  rw [if_neg h1]
  by_cases h2 : fg b p = true
  · rw [if_pos h2]
    by_cases h3 : re n b p - p ≤ 2
    · rw [if_pos h3]; exact ⟨fun _ => ⟨by omega, h2, h3⟩, fun _ => rfl⟩
    · rw [if_neg h3]; exact ⟨fun z => absurd z (by decide), fun z => absurd z.2.2 h3⟩
  · rw [if_neg h2]
    have := hb p (by omega)
    exact ⟨fun z => absurd z.symm (by rw [n2]; exact neg_ne (by omega) (by omega) (by omega)), fun z => absurd z.2.1 h2⟩
theorem ctk_e (hb : ∀ i, i < n → b i < 256) : ctk n b p = -1 ↔ n ≤ p := by
  unfold ctk
  by_cases h1 : n ≤ p
  · rw [if_pos h1]; exact ⟨fun _ => h1, fun _ => rfl⟩
  rw [if_neg h1]
  refine ⟨fun z => ?_, fun z => absurd z h1⟩
  by_cases h2 : fg b p = true
  · rw [if_pos h2] at z
    split at z
    · exact absurd z (by decide)
    · exact absurd z (by decide)
  · rw [if_neg h2] at z
    have := hb p (by omega)
    exact absurd z.symm (by rw [n1]; exact neg_ne (by omega) (by omega) (by omega))
/-- the class's reader stands at p -/
def CS (n : Nat) (b : Nat → Nat) (τ : PI) (p : Nat) : Prop := n ≤ 120 ∧ p ≤ n ∧ τ 257 1 = nI n ∧ (∀ i, i < n → b i < 256 ∧ τ 258 i = nI (b i)) ∧ τ 257 6 = nI p ∧ τ 257 7 = nI (te n b p) ∧ τ 257 4 = ctk n b p ∧ (isN n b p = true → τ 257 5 = nI (tv n b p))
theorem CS.k (h : CS n b τ p) (e7 : υ 257 = τ 257) (e8 : υ 258 = τ 258) : CS n b υ p := by
  unfold CS at h ⊢
  rw [e7, e8]; exact h
theorem CS.bb (h : CS n b τ p) : ∀ i, i < n → b i < 256 := fun i hi => (h.2.2.2.1 i hi).1
/-- nothing but the reader changed, and not its size -/
def R7 (τ υ : PI) : Prop := (∀ c, c ≠ 257 → υ c = τ c) ∧ υ 257 1 = τ 257 1
theorem C_fig {x : Nat} {Q : Int32 → PI → Prop} (hx : x < 256) (h1 : (48 ≤ x ∧ x ≤ 57) → Q (nI 1) σ) (h0 : ¬ (48 ≤ x ∧ x ≤ 57) → Q (nI 0) σ) : wp_X1_isFigure (nI x) σ Q := by
  unfold wp_X1_isFigure
  rw [nI_lt' (by omega) (by omega), nI_lt' (by omega) (by omega)]
  exact ⟨fun q => h0 (by omega), fun q => ⟨fun q => h0 (by omega), fun q2 => h1 (by omega)⟩⟩
theorem C_adv {Q : PI → Prop} (hn : n ≤ 120) (hp : p ≤ n) (e1 : τ 257 1 = nI n) (e8 : ∀ i, i < n → b i < 256 ∧ τ 258 i = nI (b i)) (e7 : τ 257 7 = nI p) (h : ∀ υ, R7 τ υ → CS n b υ p → Q υ) : wp_X1_advance τ Q := by
  unfold wp_X1_advance
  intro τ1 f1
  have g6 : τ1 257 6 = nI p := by rw [f1, up_s, e7]
  have g1 : τ1 257 1 = nI n := by rw [f1, up_k (by omega), e1]
  have g7 : τ1 257 7 = nI p := by rw [f1, up_k (by omega), e7]
  have gc : ∀ c, c ≠ 257 → τ1 c = τ c := fun c hc => by rw [f1, up_ne hc]
  rw [g6, g1, nI_lt' (by omega) (by omega), nI_cl (a := p) (by omega)]
  refine ⟨fun q => ⟨vpN (by omega) (by omega), fun τ4 f4 τ5 f5 => ?_⟩, fun q τ2 f2 => ?_⟩
  · have k1 : τ5 257 1 = nI n := by rw [f5, up_k (by omega), f4, up_k (by omega), g1]
    have k4 : τ5 257 4 = nI (b p) := by rw [f5, up_k (by omega), f4, up_s, gc _ (by omega), (e8 p q).2]
    have k6 : τ5 257 6 = nI p := by rw [f5, up_k (by omega), f4, up_k (by omega), g6]
    have k7 : τ5 257 7 = nI (p + 1) := by rw [f5, up_s, f4, up_k (by omega), g6, nI_add]
    have kc : ∀ c, c ≠ 257 → τ5 c = τ c := fun c hc => by rw [f5, up_ne hc, f4, up_ne hc, gc c hc]
    have hbp := (e8 p q).1
    rw [k4]
    refine C_fig hbp (fun qf => o_t' (fun τ9 f9 => ?_)) (fun qf => z_t' (h τ5 ⟨kc, by rw [k1, e1]⟩ ?_))
    · have hf : fg b p = true := fg_is.2 qf
      have hgt := re_gt q hf
      obtain ⟨_, r2, r3, r4⟩ := re_is (b := b) (Nat.le_of_lt q)
      rw [k4, nI_sub (by omega)] at f9
      unfold w_X1_advance_70
      refine for_up (α := PI) (re n b p - (p + 1)) (fun i s => R7 τ s ∧ s 257 6 = nI p ∧ s 257 7 = nI (p + 1 + i) ∧ (i = 0 → s 257 5 = nI (b p - 48)) ∧ (i = 1 → s 257 5 = nI (10 * (b p - 48) + (b (p + 1) - 48)))) ?_ ?_ 0 _ (by omega) ⟨⟨fun c hc => by rw [f9, up_ne hc]; exact kc c hc, by rw [f9, up_k (by omega), k1, e1]⟩, by rw [f9, up_k (by omega), k6], by rw [f9, up_k (by omega), k7], fun _ => by rw [f9, up_s], fun z => by omega⟩
      · rintro K s ⟨s1, s2, s3, s4, s5⟩
        unfold B_X1_advance_70
        have ee : w_X1_advance_137 Q s := by
          unfold w_X1_advance_137 w_X1_advance_158
          rw [s2, s3, nI_sub (by omega), nI_le' (by omega) (by omega)]
          have fin : ∀ υ : PI, (υ = up s 257 4 (if re n b p - p ≤ 2 then -2 else -3)) → Q υ := by
            intro υ ev
            refine h υ ⟨fun c hc => by rw [ev, up_ne hc]; exact s1.1 c hc, by rw [ev, up_k (by omega)]; exact s1.2⟩ ⟨hn, hp, by rw [ev, up_k (by omega), s1.2, e1], fun i hi => ⟨(e8 i hi).1, by rw [ev, up_ne (by omega), s1.1 _ (by omega)]; exact (e8 i hi).2⟩, by rw [ev, up_k (by omega), s2], ?_, ?_, fun hN => ?_⟩
            · rw [ev, up_k (by omega), s3]; unfold te; rw [if_neg (by omega), if_pos hf, show p + 1 + (re n b p - (p + 1)) = re n b p by omega]
            · rw [ev, up_s]; unfold ctk; rw [if_neg (show ¬ n ≤ p by omega), if_pos hf]
            · have hN2 := (isN_is.1 hN).2.2
              rw [ev, up_k (by omega)]
              unfold tv
              by_cases z : re n b p = p + 1
              · rw [if_pos z]; exact s4 (by omega)
              · rw [if_neg z]; exact s5 (by omega)
          refine ⟨fun z υ ev => fin υ ?_, fun z υ ev => fin υ ?_⟩
          · rw [ev, if_pos (by omega)]
          · rw [ev, if_neg (by omega)]
        rw [s1.2, e1, s3, show p + 1 + (re n b p - (p + 1)) = re n b p by omega, nI_le' (by omega) (by omega), nI_cl (a := re n b p) (by omega)]
        refine ⟨fun _ => ee, fun z => ?_⟩
        rw [s1.1 258 (by omega), (e8 _ (by omega)).2]
        refine ⟨vpN (by omega) (by omega), C_fig (e8 _ (by omega)).1 (fun z2 => absurd ⟨by omega, fg_is.2 z2⟩ r4) (fun _ => z_t ee)⟩
      · rintro K i s hi ⟨s1, s2, s3, s4, s5⟩ hK
        unfold B_X1_advance_70
        obtain ⟨j1, j2⟩ := r3 (p + 1 + i) (by omega) (by omega)
        have j3 := fg_is.1 j2
        rw [s1.2, e1, s3, nI_le' (by omega) (by omega), nI_cl (a := p + 1 + i) (by omega), s1.1 258 (by omega), (e8 _ j1).2]
        refine ⟨fun z => absurd z (by omega), fun _ => ⟨vpN (by omega) (by omega), C_fig (e8 _ j1).1 (fun _ => o_t ?_) (fun z => absurd j3 z)⟩⟩
        rw [s3, nI_cl (a := p + 1 + i) (by omega), s1.1 258 (by omega), (e8 _ j1).2]
        refine ⟨vpN (by omega) (by omega), fun τ7 h7 τ8 h8 => hK τ8 ⟨⟨fun c hc => by rw [h8, up_ne hc, h7, up_ne hc]; exact s1.1 c hc, by rw [h8, up_k (by omega), h7, up_k (by omega)]; exact s1.2⟩, by rw [h8, up_k (by omega), h7, up_k (by omega), s2], by rw [h8, up_s, h7, up_k (by omega), s3, nI_add, Nat.add_assoc], fun z => by omega, fun z => ?_⟩⟩
        have i0 : i = 0 := by omega
        subst i0
        rw [h8, up_k (by omega), h7, up_s, s4 rfl, pk_mul, nI_add, nI_sub (by omega), nI_rem (by omega) (by omega) (by omega)]
        rw [show p + 1 + 0 = p + 1 by omega] at j3 ⊢
        congr 1
        omega
    · have hf : fg b p = false := fg_no.2 qf
      refine ⟨hn, hp, k1, fun i hi => ⟨(e8 i hi).1, by rw [kc _ (by omega)]; exact (e8 i hi).2⟩, k6, ?_, ?_, fun z => ?_⟩
      · rw [k7]; unfold te; rw [if_neg (by omega), if_neg (by rw [hf]; decide)]
      · rw [k4]; unfold ctk; rw [if_neg (by omega), if_neg (by rw [hf]; decide)]
      · have := (isN_is.1 z).2.1; rw [hf] at this; exact absurd this (by decide)
  · refine h τ2 ⟨fun c hc => by rw [f2, up_ne hc]; exact gc c hc, by rw [f2, up_k (by omega), g1, e1]⟩ ⟨hn, hp, by rw [f2, up_k (by omega), g1], fun i hi => ⟨(e8 i hi).1, by rw [f2, up_ne (by omega), gc _ (by omega)]; exact (e8 i hi).2⟩, by rw [f2, up_k (by omega), g6], ?_, ?_, fun z => ?_⟩
    · rw [f2, up_k (by omega), g7]; unfold te; rw [if_pos (by omega)]
    · rw [f2, up_s]; unfold ctk; rw [if_pos (by omega)]
    · have := (isN_is.1 z).1; omega
def FT (τ : PI) (f p : Nat) : Prop := τ 257 2 = nI f ∧ τ 257 3 = nI p
theorem C_fail {f : Nat} {Q : Int32 → PI → Prop} (hs : CS n b τ p) (h : ∀ υ, R7 τ υ → FT υ f p → Q (nI 0) υ) : wp_X1_failBy (nI f) τ Q := by
  intro τ1 f1 τ2 f2
  refine h τ2 ⟨fun c hc => by rw [f2, up_ne hc, f1, up_ne hc], by rw [f2, up_k (by omega), f1, up_k (by omega)]⟩ ⟨by rw [f2, up_k (by omega), f1, up_s], by rw [f2, up_s, f1, up_k (by omega), hs.2.2.2.2.1]⟩
theorem C_go {Q : PI → Prop} (hs : CS n b τ p) (h : ∀ υ, R7 τ υ → CS n b υ (te n b p) → Q υ) : wp_X1_advance τ Q := C_adv hs.1 (te_le hs.2.1) hs.2.2.1 hs.2.2.2.1 hs.2.2.2.2.2.1 h
theorem C_tk {c : Nat} {Q : Int32 → PI → Prop} (hs : CS n b τ p) (hc : c < 256) (hf : ¬ (48 ≤ c ∧ c ≤ 57)) (h1 : isC n b p c = true → ∀ υ, R7 τ υ → CS n b υ (te n b p) → Q (nI 1) υ) (h0 : isC n b p c = false → ∀ υ, R7 τ υ → FT υ 1 p → Q (nI 0) υ) : wp_X1_take (nI c) τ Q := by
  unfold wp_X1_take
  rw [hs.2.2.2.2.2.2.1, ctk_c hs.bb hc hf]
  refine ⟨fun q => C_go hs (h1 q), fun q => C_fail hs (fun υ u1 u2 => ⟨bz0, h0 (by simpa using q) υ u1 u2⟩)⟩
theorem C_num {lo hi : Nat} {Q : Int32 → PI → Prop} (hs : CS n b τ p) (hlo : lo < 2147483648) (hhi : hi < 2147483648) (h1 : isN n b p = true → lo ≤ tv n b p ∧ tv n b p ≤ hi → ∀ υ, R7 τ υ → CS n b υ (te n b p) → Q (nI (tv n b p)) υ) (h2 : isN n b p = true → ¬ (lo ≤ tv n b p ∧ tv n b p ≤ hi) → ∀ υ, R7 τ υ → FT υ 2 p → Q (-1) υ) (h3 : isN n b p = false → ∀ υ, R7 τ υ → FT υ 1 p → Q (-1) υ) : wp_X1_takeNumber (nI lo) (nI hi) τ Q := by
  unfold wp_X1_takeNumber
  rw [hs.2.2.2.2.2.2.1, ctk_n hs.bb]
  refine ⟨fun q => ?_, fun q => C_fail hs (h3 (by simpa using q))⟩
  have hq := isN_is.1 q
  have htv := tv_le hq.1 hq.2.1
  have e5 := hs.2.2.2.2.2.2.2 q
  rw [e5]
  by_cases z : lo ≤ tv n b p ∧ tv n b p ≤ hi
  · refine C_wt z.1 z.2 hhi (o_t' (fun x ex => ?_))
    rw [ex, e5]
    exact C_go hs (h1 q z)
  · refine C_wf hhi hlo (fun ⟨a, z1, z2, z3⟩ => ?_) (z_t' (C_fail hs (h2 q z)))
    rw [nI_inj (by omega) (by omega)] at z3
    exact z (by omega)
theorem C_kos {Q : Int32 → PI → Prop} (hs : CS n b τ p) (h : Q (nI (kos n b p)) τ) : wp_X1_kindOfSort (τ 257 4) τ Q := by
  unfold wp_X1_kindOfSort
  rw [hs.2.2.2.2.2.2.1, ctk_c hs.bb (by omega) (by omega), ctk_c hs.bb (by omega) (by omega), ctk_c hs.bb (by omega) (by omega), ctk_c hs.bb (by omega) (by omega), ctk_c hs.bb (by omega) (by omega)]
  have ex : ∀ {c d : Nat}, isC n b p c = true → c ≠ d → ¬ isC n b p d = true := fun {c d} h1 h2 h3 => h2 (((isC_is.1 h1).2.2).symm.trans (isC_is.1 h3).2.2)
  unfold kos at h
  refine ⟨fun q => ?_, fun q => ?_, fun q => ?_, fun q => ?_, fun q => ?_, fun q => ?_⟩
  · rw [if_neg (ex q (by omega)), if_pos q] at h; exact h
  · rw [if_neg (ex q (by omega)), if_neg (ex q (by omega)), if_neg (ex q (by omega)), if_pos q] at h; exact h
  · rw [if_pos q] at h; exact h
  · rw [if_neg (ex q (by omega)), if_neg (ex q (by omega)), if_pos q] at h; exact h
  · rw [if_neg (ex q (by omega)), if_neg (ex q (by omega)), if_neg (ex q (by omega)), if_neg (ex q (by omega)), if_pos q] at h; exact h
  · obtain ⟨q1, q2, q3, q4, q5⟩ := q
    rw [if_neg q3, if_neg q1, if_neg q4, if_neg q2, if_neg q5] at h; exact h
/-- the model's token at p -/
def mtk (n : Nat) (b : Nat → Nat) (p : Nat) : Nat := if n ≤ p then 3 else if fg b p = true then (if re n b p - p ≤ 2 then 2 else 0) else if (97 ≤ b p ∧ b p ≤ 122) ∨ b p = 44 ∨ b p = 59 then 1 else 0
def MS (n : Nat) (b : Nat → Nat) (τ : PI) (p : Nat) : Prop := n ≤ 120 ∧ p ≤ n ∧ τ 276 9 = nI n ∧ (∀ i, i < n → b i < 256 ∧ τ 282 i = nI (b i)) ∧ τ 276 14 = nI p ∧ τ 276 11 = nI (te n b p) ∧ τ 276 12 = nI (mtk n b p) ∧ (isN n b p = true → τ 276 13 = nI (tv n b p)) ∧ (p < n → fg b p = false → τ 276 13 = nI (b p))
theorem MS.k (h : MS n b τ p) (e7 : υ 276 = τ 276) (e8 : υ 282 = τ 282) : MS n b υ p := by
  unfold MS at h ⊢
  rw [e7, e8]; exact h
/-- nothing but the model's reading changed -/
def R6 (τ υ : PI) : Prop := (∀ c, c ≠ 276 → υ c = τ c) ∧ ∀ s, s < 11 ∨ 15 ≤ s → υ 276 s = τ 276 s
theorem M_next {Q : PI → Prop} (hn : n ≤ 120) (hp : p ≤ n) (e1 : τ 276 9 = nI n) (e8 : ∀ i, i < n → b i < 256 ∧ τ 282 i = nI (b i)) (e7 : τ 276 11 = nI p) (h : ∀ υ, R6 τ υ → MS n b υ p → Q υ) : wp_X5_nextToken τ Q := by
  unfold wp_X5_nextToken
  intro τ1 f1
  have g14 : τ1 276 14 = nI p := by rw [f1, up_s, e7]
  have g9 : τ1 276 9 = nI n := by rw [f1, up_k (by omega), e1]
  have g11 : τ1 276 11 = nI p := by rw [f1, up_k (by omega), e7]
  have gR : R6 τ τ1 := ⟨fun c hc => by rw [f1, up_ne hc], fun s hs => by rw [f1, up_k (by omega)]⟩
  rw [g11, g9, nI_inj (by omega) (by omega)]
  obtain ⟨r1, r2, r3, r4⟩ := re_is (b := b) hp
  have main : ∀ x : Nat, x = (if n ≤ p then 3 else 0) → w_X5_nextToken_25 Q (nI x) τ1 := by
    intro x ex τ3 f3 τ4 f4
    have kR : R6 τ τ4 := ⟨fun c hc => by rw [f4, up_ne hc, f3, up_ne hc]; exact gR.1 c hc, fun s hs => by rw [f4, up_k (by omega), f3, up_k (by omega)]; exact gR.2 s hs⟩
    unfold w_X5_nextToken_33
    refine for_up (α := PI) (re n b p - p) (fun i s => R6 τ s ∧ s 276 14 = nI p ∧ s 276 11 = nI (p + i) ∧ s 276 12 = nI x ∧ (i = 0 → s 276 13 = nI 0) ∧ (i = 1 → s 276 13 = nI (b p - 48)) ∧ (i = 2 → s 276 13 = nI (10 * (b p - 48) + (b (p + 1) - 48)))) ?_ ?_ 0 _ (by omega) ⟨kR, by rw [f4, up_k (by omega), f3, up_k (by omega), g14], by rw [f4, up_k (by omega), f3, up_k (by omega), g11]; rfl, by rw [f4, up_k (by omega), f3, up_s], fun _ => by rw [f4, up_s], fun z => by omega, fun z => by omega⟩
    · rintro K s ⟨s1, s2, s3, s4, s5, s6, s7⟩
      unfold B_X5_nextToken_33
      have ep : p + (re n b p - p) = re n b p := by omega
      rw [ep] at s3
      have t8 : ∀ υ : PI, (∀ c, c ≠ 276 → υ c = s c) → ∀ i, i < n → b i < 256 ∧ υ 282 i = nI (b i) := fun υ hu i hi => ⟨(e8 i hi).1, by rw [hu _ (by omega), s1.1 _ (by omega)]; exact (e8 i hi).2⟩
      have e119 : w_X5_nextToken_119 Q s := by
        unfold w_X5_nextToken_119 w_X5_nextToken_211 w_X5_nextToken_216 w_X5_nextToken_149
        rw [s3, s2, nI_le' (by omega) (by omega), s4, nI_inj (by split at ex <;> omega) (by omega)]
        refine ⟨fun z => ⟨fun zx => ?_, fun zx => ?_⟩, fun z => ?_⟩
        · have hpn : n ≤ p := by
            by_cases q : n ≤ p
            · exact q
            · rw [if_neg q] at ex; omega
          refine h s s1 ⟨hn, hp, by rw [s1.2 9 (by omega), e1], t8 s (fun _ _ => rfl), s2, ?_, ?_, fun zn => by have := (isN_is.1 zn).1; omega, fun zn => by omega⟩
          · rw [s3]; unfold te; rw [if_pos hpn, show re n b p = p by omega]
          · rw [s4, ex, if_pos hpn]; unfold mtk; rw [if_pos hpn]
        · have hpn : p < n := by
            by_cases q : n ≤ p
            · rw [if_pos q] at ex; omega
            · omega
          have erp : re n b p = p := by omega
          have hf : fg b p = false := by
            cases hh : fg b p
            · rfl
            · have := re_gt hpn hh; omega
          have hfn := fg_no.1 hf
          rw [erp, nI_cl (a := p) (by omega)]
          refine ⟨vpN (by omega) (by omega), fun τ15 f15 => ?_⟩
          have hbp := (e8 p hpn).1
          have v13 : τ15 276 13 = nI (b p) := by rw [f15, up_s, s1.1 _ (by omega), (e8 p hpn).2]
          rw [v13]
          have fin : ∀ (y : Nat), y = (if (97 ≤ b p ∧ b p ≤ 122) ∨ b p = 44 ∨ b p = 59 then 1 else 0) → ∀ τ24 : PI, τ24 = up τ15 276 12 (nI y) → ∀ τ25 : PI, τ25 = up τ24 276 11 (τ24 276 11 + nI 1) → Q τ25 := by
            intro y ey τ24 f24 τ25 f25
            have oc : ∀ c, c ≠ 276 → τ25 c = s c := fun c hc => by rw [f25, up_ne hc, f24, up_ne hc, f15, up_ne hc]
            have os : ∀ j, j ≠ 11 → j ≠ 12 → j ≠ 13 → τ25 276 j = s 276 j := fun j j1 j2 j3 => by rw [f25, up_k j1, f24, up_k j2, f15, up_k j3]
            refine h τ25 ⟨fun c hc => by rw [oc c hc]; exact s1.1 c hc, fun j hj => by rw [os j (by omega) (by omega) (by omega)]; exact s1.2 j hj⟩ ⟨hn, hp, by rw [os 9 (by omega) (by omega) (by omega), s1.2 9 (by omega), e1], t8 τ25 oc, by rw [os 14 (by omega) (by omega) (by omega), s2], ?_, ?_, fun zn => ?_, fun _ _ => ?_⟩
            · rw [f25, up_s, f24, up_k (by omega), f15, up_k (by omega), s3, erp, nI_add]; unfold te; rw [if_neg (by omega), if_neg (by rw [hf]; decide)]
            · rw [f25, up_k (by omega), f24, up_s, ey]; unfold mtk; rw [if_neg (show ¬ n ≤ p by omega), if_neg (show ¬ fg b p = true by rw [hf]; decide)]
            · have := (isN_is.1 zn).2.1; rw [hf] at this; exact absurd this (by decide)
            · rw [f25, up_k (by omega), f24, up_k (by omega), v13]
          by_cases qz : ¬ ∃ a, 97 ≤ a ∧ a ≤ 122 ∧ nI (b p) = nI a
          · have qz' : ¬ (97 ≤ b p ∧ b p ≤ 122) := fun zz => qz ⟨b p, zz.1, zz.2, rfl⟩
            refine M_if (by omega) (by omega) qz (z_t' ?_)
            rw [v13, nI_inj (by omega) (by omega), nI_inj (by omega) (by omega)]
            refine ⟨fun q44 => fin 1 (by rw [if_pos (by omega)]), fun q44 => ⟨fun q59 => fin 0 (by rw [if_neg (by omega)]), fun q59 => fin 1 (by rw [if_pos (by omega)])⟩⟩
          · obtain ⟨a, a1, a2, a3⟩ := Classical.not_not.mp qz
            rw [nI_inj (by omega) (by omega)] at a3
            exact M_it (by omega) (by omega) (by omega) (o_t' (fin 1 (by rw [if_pos (by omega)])))
        · have hpn : p < n := by omega
          have hf : fg b p = true := (r3 p (by omega) (by omega)).2
          rw [nI_sub (by omega), nI_le' (by omega) (by omega)]
          have fin : ∀ (y : Nat), y = (if re n b p - p ≤ 2 then 2 else 0) → ∀ τ26 : PI, τ26 = up s 276 12 (nI y) → Q τ26 := by
            intro y ey τ26 f26
            have oc : ∀ c, c ≠ 276 → τ26 c = s c := fun c hc => by rw [f26, up_ne hc]
            refine h τ26 ⟨fun c hc => by rw [oc c hc]; exact s1.1 c hc, fun j hj => by rw [f26, up_k (by omega)]; exact s1.2 j hj⟩ ⟨hn, hp, by rw [f26, up_k (by omega), s1.2 9 (by omega), e1], t8 τ26 oc, by rw [f26, up_k (by omega), s2], ?_, ?_, fun zn => ?_, fun _ zf => by rw [hf] at zf; exact absurd zf (by decide)⟩
            · rw [f26, up_k (by omega), s3]; unfold te; rw [if_neg (by omega), if_pos hf]
            · rw [f26, up_s, ey]; unfold mtk; rw [if_neg (show ¬ n ≤ p by omega), if_pos hf]
            · have z2 := (isN_is.1 zn).2.2
              rw [f26, up_k (by omega)]
              unfold tv
              by_cases q1 : re n b p = p + 1
              · rw [if_pos q1]; exact s6 (by omega)
              · rw [if_neg q1]; exact s7 (by omega)
          exact ⟨fun q => fin 2 (by rw [if_pos q]), fun q => fin 0 (by rw [if_neg q])⟩
      rw [s1.2 9 (by omega), e1, s3, nI_le' (by omega) (by omega), nI_cl (a := re n b p) (by omega)]
      refine ⟨fun _ => e119, fun z => ⟨vpN (by omega) (by omega), ?_⟩⟩
      rw [s1.1 282 (by omega), (e8 _ (by omega)).2]
      have hbr := (e8 (re n b p) (by omega)).1
      refine M_if (by omega) (by omega) (fun ⟨a, a1, a2, a3⟩ => ?_) (z_t e119)
      rw [nI_inj (by omega) (by omega)] at a3
      exact r4 ⟨by omega, fg_is.2 (by omega)⟩
    · rintro K i s hi ⟨s1, s2, s3, s4, s5, s6, s7⟩ hK
      unfold B_X5_nextToken_33 w_X5_nextToken_103
      obtain ⟨j1, j2⟩ := r3 (p + i) (by omega) (by omega)
      have j3 := fg_is.1 j2
      have j4 := (e8 _ j1).1
      rw [s1.2 9 (by omega), e1, s3, nI_le' (by omega) (by omega), nI_cl (a := p + i) (by omega), s1.1 282 (by omega), (e8 _ j1).2]
      refine ⟨fun z => absurd z (by omega), fun _ => ⟨vpN (by omega) (by omega), M_it (by omega) (by omega) (by omega) (o_t ?_)⟩⟩
      have fin : ∀ v : Int32, (i = 0 → v = nI (b p - 48)) → (i = 1 → v = nI (10 * (b p - 48) + (b (p + 1) - 48))) → ∀ τ22 : PI, τ22 = up s 276 13 v → ∀ τ23 : PI, τ23 = up τ22 276 11 (τ22 276 11 + nI 1) → K τ23 := by
        intro v v0 v1 τ22 f22 τ23 f23
        refine hK τ23 ⟨⟨fun c hc => by rw [f23, up_ne hc, f22, up_ne hc]; exact s1.1 c hc, fun j hj => by rw [f23, up_k (by omega), f22, up_k (by omega)]; exact s1.2 j hj⟩, by rw [f23, up_k (by omega), f22, up_k (by omega), s2], by rw [f23, up_s, f22, up_k (by omega), s3, nI_add, Nat.add_assoc], by rw [f23, up_k (by omega), f22, up_k (by omega), s4], fun z => by omega, fun z => ?_, fun z => ?_⟩
        · rw [f23, up_k (by omega), f22, up_s, v0 (by omega)]
        · rw [f23, up_k (by omega), f22, up_s, v1 (by omega)]
      rw [s3, nI_cl (a := p + i) (by omega), s1.1 282 (by omega), (e8 _ j1).2]
      have hp0 : b p < 256 := (e8 p (by omega)).1
      have hfp := fg_is.1 (r3 p (by omega) (by omega)).2
      refine ⟨fun z => ⟨vpN (by omega) (by omega), fin _ (fun z0 => ?_) (fun z1 => ?_)⟩, fun z => fin _ (fun z0 => ?_) (fun z1 => ?_)⟩
      · subst z0
        rw [s5 rfl, pk_mul, nI_add, nI_sub (by omega)]
        simp
      · subst z1
        rw [s6 rfl, pk_mul, nI_add, nI_sub (by omega)]
        congr 1; omega
      · exfalso; apply z; rw [s5 z0, nI_le' (by omega) (by omega)]; omega
      · exfalso; apply z; rw [s6 z1, nI_le' (by omega) (by omega)]; omega
  refine ⟨fun q => main 0 (by rw [if_neg (by omega)]), fun q => main 3 (by rw [if_pos (by omega)])⟩
theorem M_go {Q : PI → Prop} (hs : MS n b τ p) (h : ∀ υ, R6 τ υ → MS n b υ (te n b p) → Q υ) : wp_X5_nextToken τ Q := M_next hs.1 (te_le hs.2.1) hs.2.2.1 hs.2.2.2.1 hs.2.2.2.2.2.1 h
theorem mtk_lt : mtk n b p ≤ 3 := by
  unfold mtk
  split
  · omega
  · split
    · split <;> omega
    · split <;> omega
theorem M_let {c : Nat} {Q : Int32 → PI → Prop} (hs : MS n b τ p) (hc : c < 256) (hl : lt3 c) (h1 : isC n b p c = true → Q (nI 1) τ) (h0 : isC n b p c = false → Q (nI 0) τ) : wp_X5_isLetter (nI c) τ Q := by
  unfold wp_X5_isLetter
  have hm := mtk_lt (n := n) (b := b) (p := p)
  rw [hs.2.2.2.2.2.2.1, nI_inj (by omega) (by omega)]
  have h0' : ¬ isC n b p c = true → Q (nI 0) τ := fun z => h0 (by simpa using z)
  refine ⟨fun q => h0' (fun z => ?_), fun q => ?_⟩
  · obtain ⟨z1, z2, z3⟩ := isC_is.1 z
    unfold lt3 at hl
    apply q
    unfold mtk
    rw [if_neg (by omega), if_neg (by rw [z2]; decide), if_pos (by omega)]
  · have hq : p < n ∧ fg b p = false := by
      unfold mtk at q
      by_cases z1 : n ≤ p
      · rw [if_pos z1] at q; omega
      · rw [if_neg z1] at q
        cases z2 : fg b p
        · exact ⟨by omega, rfl⟩
        · rw [z2, if_pos rfl] at q; split at q <;> omega
    have hbp := (hs.2.2.2.1 p hq.1).1
    rw [hs.2.2.2.2.2.2.2.2 hq.1 hq.2, nI_inj (by omega) (by omega)]
    exact ⟨fun z => h0' (fun y => z (isC_is.1 y).2.2), fun z => h1 (isC_is.2 ⟨hq.1, hq.2, z⟩)⟩
end TK
