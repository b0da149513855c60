/-! ===== what class and model have in common ===== -/
def RRow (σ : PI) (r : Nat) : Prop := (σ (rc r 0) 1 = nI 1 ∧ ∃ ln sz, ln ≤ 2 ∧ sz ≤ 40 ∧ σ (rc r 0) 2 = nI ln ∧ σ 277 r = nI ln ∧ σ (rc r 0) 3 = nI sz ∧ σ 278 r = nI sz ∧ ∀ i, i < 40 → σ 279 (40 * r + i) = σ (rc r 1) i) ∨ (σ (rc r 0) 1 = nI 0 ∧ σ 278 r = -1)
def RRows (σ : PI) : Prop := ∀ r, r < 8 → RRow σ r
def RTp (σ : PI) : Prop := ∃ n, n ≤ 120 ∧ σ 257 1 = nI n ∧ σ 276 9 = nI n ∧ ∀ i, i < n → ∃ b, b < 256 ∧ σ 258 i = nI b ∧ σ 282 i = nI b
def RTr (σ : PI) : Prop := ∃ n, n ≤ 16 ∧ σ 252 7 = nI n ∧ σ 276 24 = nI n ∧ ∀ i, i < n → σ 259 i = σ 288 i
/-- a town is there, or none was ever read -/
def RTn (σ : PI) (t : Nat → Nat) : Prop := TA σ 0 t ∧ MA (σ 280) t ∧ σ (tc 0 0) 14 = nI 0 ∧ σ 276 6 = nI 0 ∧ ((σ 276 4 = nI 1 ∧ Iv 999 t) ∨ (σ 276 4 = nI 0 ∧ ∀ i, i < 70 → t i = 0))
/-- the class's acts, and the model's: n towns A 0, A 1, .. -/
def CA (σ : PI) (n : Nat) (A : Nat → Nat → Nat) : Prop := ∃ o, o < 24 ∧ σ 256 1 = nI o ∧ σ 256 2 = nI n ∧ ∀ j, j < n → TA σ (4 + (o + j) % 24) (A j) ∧ σ (tc (4 + (o + j) % 24) 0) 14 = nI 0
def MN (σ : PI) (n : Nat) (A : Nat → Nat → Nat) : Prop := σ 276 19 = nI n ∧ ∀ j, j < n → MA (fun i => σ 284 (70 * j + i)) (A j)
def RAc (σ : PI) : Prop := ∃ n A, n ≤ 24 ∧ CA σ n A ∧ MN σ n A ∧ (0 < n → σ 276 4 = nI 1) ∧ ∀ j, j < n → Iv 999 (A j)
def RIm (σ : PI) : Prop := ∀ k, k < 2 → (σ 286 k = nI 1 ∧ σ 276 4 = nI 1 ∧ ∃ t, Iv 999 t ∧ TA σ (2 + k) t ∧ σ (tc (2 + k) 0) 14 = nI 0 ∧ MA (fun i => σ 287 (70 * k + i)) t) ∨ (σ 286 k = nI 0 ∧ σ (tc (2 + k) 0) 8 = nI 0)
def Rest (σ : PI) : Prop := σ 252 8 = σ 276 10 ∧ RTp σ ∧ RTr σ ∧ (∃ t, RTn σ t) ∧ RAc σ ∧ RIm σ
def Rel (σ : PI) : Prop := RRows σ ∧ σ 252 9 = σ 276 3 ∧ Rest σ
def oc (c : Nat) : Prop := c < 9 ∨ (18 ≤ c ∧ c < 252) ∨ c = 256 ∨ c = 258 ∨ c = 259 ∨ c = 282 ∨ c = 284 ∨ c = 286 ∨ c = 287 ∨ c = 288
def rwc (c : Nat) : Prop := (260 ≤ c ∧ c < 276) ∨ c = 277 ∨ c = 278 ∨ c = 279
def KR (σ τ : PI) : Prop := (∀ c, oc c → τ c = σ c) ∧ τ 252 7 = σ 252 7 ∧ τ 252 8 = σ 252 8 ∧ τ 257 1 = σ 257 1 ∧ (τ 276 4 = σ 276 4 ∧ τ 276 6 = σ 276 6 ∧ τ 276 9 = σ 276 9 ∧ τ 276 10 = σ 276 10 ∧ τ 276 19 = σ 276 19 ∧ τ 276 24 = σ 276 24) ∧ ∀ j, j < 70 → τ 280 j = σ 280 j
theorem oc_t {k j : Nat} (hk : k < 28) (hj : j < 9) (h : k ≠ 1) : oc (tc k j) := by unfold oc tc; omega
theorem TA.cells {σ τ : PI} {k : Nat} {t : Nat → Nat} (h : TA σ k t) (e : ∀ j, j < 9 → τ (tc k j) = σ (tc k j)) : TA τ k t := by
  unfold TA TH TM TL at *
  rw [e 0 (by omega), e 1 (by omega), e 2 (by omega), e 3 (by omega), e 4 (by omega), e 5 (by omega), e 6 (by omega), e 7 (by omega)]
  exact h
theorem RTn.k {σ τ : PI} {t : Nat → Nat} (h : RTn σ t) (k : KR σ τ) : RTn τ t := by
  obtain ⟨h1, h2, h3, h4, h5⟩ := h
  obtain ⟨k1, k2, k3, k4, ⟨k5, k6, k7, k8, k9, k10⟩, k11⟩ := k
  refine ⟨h1.cells (fun j hj => k1 _ (oc_t (by omega) hj (by omega))), fun i hi => by rw [k11 i hi]; exact h2 i hi, by rw [k1 _ (oc_t (by omega) (by omega) (by omega))]; exact h3, by rw [k6]; exact h4, by rw [k5]; exact h5⟩
theorem Rest.k {σ τ : PI} (h : Rest σ) (k : KR σ τ) : Rest τ := by
  obtain ⟨h1, h2, h3, ⟨t, h4⟩, h5, h6⟩ := h
  refine ⟨?_, ?_, ?_, ⟨t, h4.k k⟩, ?_, ?_⟩
  all_goals obtain ⟨k1, k2, k3, k4, ⟨k5, k6, k7, k8, k9, k10⟩, k11⟩ := k
  · rw [k3, k8]; exact h1
  · unfold RTp at *
    rw [k4, k7, k1 258 (by unfold oc; omega), k1 282 (by unfold oc; omega)]
    exact h2
  · unfold RTr at *
    rw [k2, k10, k1 259 (by unfold oc; omega), k1 288 (by unfold oc; omega)]
    exact h3
  · obtain ⟨n, A, g1, ⟨o, g2, g3, g4, g7⟩, ⟨g5, g8⟩, g6, g9⟩ := h5
    refine ⟨n, A, g1, ⟨o, g2, ?_, ?_, fun j hj => ⟨(g7 j hj).1.cells (fun i hi => k1 _ (oc_t (by omega) hi (by omega))), ?_⟩⟩, ⟨?_, fun j hj => ?_⟩, ?_, g9⟩
    · rw [k1 256 (by unfold oc; omega)]; exact g3
    · rw [k1 256 (by unfold oc; omega)]; exact g4
    · rw [k1 _ (oc_t (by omega) (by omega) (by omega))]; exact (g7 j hj).2
    · rw [k9]; exact g5
    · rw [k1 284 (by unfold oc; omega)]; exact g8 j hj
    · rw [k5]; exact g6
  · intro k hk
    rw [k1 286 (by unfold oc; omega), k1 (tc (2 + k) 0) (oc_t (by omega) (by omega) (by omega)), k5]
    rcases h6 k hk with ⟨g1, g2, t, f1, f2, f3, f4⟩ | ⟨g1, g2⟩
    · exact Or.inl ⟨g1, g2, t, f1, f2.cells (fun j hj => k1 _ (oc_t (by omega) hj (by omega))), f3, by rw [k1 287 (by unfold oc; omega)]; exact f4⟩
    · exact Or.inr ⟨g1, g2⟩
theorem RRow.k {σ τ : PI} {r : Nat} (h : RRow σ r) (hr : r < 8) (k : ∀ c, rwc c → τ c = σ c) : RRow τ r := by
  unfold RRow at *
  rw [k (rc r 0) (by unfold rwc rc; omega), k (rc r 1) (by unfold rwc rc; omega), k 277 (by unfold rwc; omega), k 278 (by unfold rwc; omega), k 279 (by unfold rwc; omega)]
  exact h
/-- what asks and what is foretold may change -/
def KQ (σ τ : PI) : Prop := KR σ τ ∧ (∀ c, rwc c → τ c = σ c) ∧ τ 252 9 = σ 252 9 ∧ τ 276 3 = σ 276 3
theorem Rel.k {σ τ : PI} (h : Rel σ) (k : KQ σ τ) : Rel τ := ⟨fun r hr => (h.1 r hr).k hr k.2.1, by rw [k.2.2.1, k.2.2.2]; exact h.2.1, h.2.2.k k.1⟩
theorem KQ.rf {σ : PI} : KQ σ σ := ⟨⟨fun _ _ => rfl, rfl, rfl, rfl, ⟨rfl, rfl, rfl, rfl, rfl, rfl⟩, fun _ _ => rfl⟩, fun _ _ => rfl, rfl, rfl⟩
/-- the trial alone was changed -/
theorem KQ.fr {σ τ : PI} (h : Fr 1 σ τ) : KQ σ τ := by
  have e : ∀ c, (c < 9 ∨ 18 ≤ c) → τ c = σ c := fun c hc => h c (fun j hj => by unfold tc; omega)
  refine ⟨⟨fun c hc => e c (by unfold oc at hc; omega), by rw [e 252 (by omega)], by rw [e 252 (by omega)], by rw [e 257 (by omega)], ⟨by rw [e 276 (by omega)], by rw [e 276 (by omega)], by rw [e 276 (by omega)], by rw [e 276 (by omega)], by rw [e 276 (by omega)], by rw [e 276 (by omega)]⟩, fun j hj => by rw [e 280 (by omega)]⟩, fun c hc => e c (by unfold rwc at hc; omega), by rw [e 252 (by omega)], by rw [e 276 (by omega)]⟩
theorem KQ.tr {σ τ υ : PI} (h : KQ σ τ) (g : KQ τ υ) : KQ σ υ := by
  obtain ⟨⟨k1, k2, k3, k4, ⟨k5, k6, k7, k8, k9, k10⟩, k11⟩, k12, k13, k14⟩ := h
  obtain ⟨⟨g1, g2, g3, g4, ⟨g5, g6, g7, g8, g9, g10⟩, g11⟩, g12, g13, g14⟩ := g
  exact ⟨⟨fun c hc => (g1 c hc).trans (k1 c hc), g2.trans k2, g3.trans k3, g4.trans k4, ⟨g5.trans k5, g6.trans k6, g7.trans k7, g8.trans k8, g9.trans k9, g10.trans k10⟩, fun j hj => (g11 j hj).trans (k11 j hj)⟩, fun c hc => (g12 c hc).trans (k12 c hc), g13.trans k13, g14.trans k14⟩
/-! ===== ranges ===== -/
theorem nI_mid {x : Int32} {lo hi : Nat} (hh : hi < 2147483648) (hl : lo < 2147483648) (h1 : ¬ x < nI lo) (h2 : ¬ nI hi < x) : ∃ a, lo ≤ a ∧ a ≤ hi ∧ x = nI a := by
  rw [Int32.lt_iff_toInt_lt, nI_toInt (by omega)] at h1
  rw [Int32.lt_iff_toInt_lt, nI_toInt (by omega)] at h2
  refine ⟨x.toInt.toNat, by omega, by omega, ?_⟩
  apply Int32.toInt_inj.mp
  rw [nI_toInt (by omega)]
  omega
section RG
variable {σ : PI} {Q : Int32 → PI → Prop} {a lo hi n : Nat} {x : Int32}
theorem C_wt (h1 : lo ≤ a) (h2 : a ≤ hi) (hh : hi < 2147483648) (h : Q (nI 1) σ) : wp_X4_within (nI a) (nI lo) (nI hi) σ Q := by
  unfold wp_X4_within
  rw [nI_lt' (by omega) (by omega), nI_lt' (by omega) (by omega)]
  exact ⟨fun q => absurd q (by omega), fun _ => ⟨fun q => absurd q (by omega), fun _ => h⟩⟩
theorem C_wf (hh : hi < 2147483648) (hl : lo < 2147483648) (hn : ¬ ∃ a, lo ≤ a ∧ a ≤ hi ∧ x = nI a) (h : Q (nI 0) σ) : wp_X4_within x (nI lo) (nI hi) σ Q :=
  ⟨fun _ => h, fun q1 => ⟨fun _ => h, fun q2 => absurd (nI_mid hh hl q1 q2) hn⟩⟩
theorem nI_m1 (hn : n < 1073741824) : (nI n - nI 1).toInt = (n : Int) - 1 := pk_sub_toInt (a := n) (b := 1) hn (by omega)
theorem C_nt (h1 : a < n) (hn : n < 1073741824) (h : Q (nI 1) σ) : wp_X4_within (nI a) (nI 0) (nI n - nI 1) σ Q := by
  rw [nI_sub (by omega)]
  exact C_wt (by omega) (by omega) (by omega) h
theorem nI_mid1 (hn : n < 1073741824) (h1 : ¬ x < nI 0) (h2 : ¬ nI n - nI 1 < x) : ∃ a, a < n ∧ x = nI a := by
  rw [Int32.lt_iff_toInt_lt, nI_toInt (by omega)] at h1
  rw [Int32.lt_iff_toInt_lt, nI_m1 hn] at h2
  refine ⟨x.toInt.toNat, by omega, ?_⟩
  apply Int32.toInt_inj.mp
  rw [nI_toInt (by omega)]
  omega
theorem C_nf (hn : n < 1073741824) (hx : ¬ ∃ a, a < n ∧ x = nI a) (h : Q (nI 0) σ) : wp_X4_within x (nI 0) (nI n - nI 1) σ Q :=
  ⟨fun _ => h, fun q1 => ⟨fun _ => h, fun q2 => absurd (nI_mid1 hn q1 q2) hx⟩⟩
theorem lgc_lt {x y : Int64} : lg_cmp x y < nI 0 ↔ x < y := by
  unfold lg_cmp
  by_cases h1 : x > y
  · rw [if_pos h1]
    refine ⟨fun q => absurd q (by decide), fun q => ?_⟩
    rw [Int64.lt_iff_toInt_lt] at q
    rw [gt_iff_lt, Int64.lt_iff_toInt_lt] at h1
    omega
  · rw [if_neg h1]
    by_cases h2 : x = y
    · rw [if_pos h2]
      subst h2
      exact ⟨fun q => absurd q (by decide), fun q => by rw [Int64.lt_iff_toInt_lt] at q; omega⟩
    · rw [if_neg h2]
      refine ⟨fun _ => ?_, fun _ => by decide⟩
      rw [gt_iff_lt, Int64.lt_iff_toInt_lt] at h1
      rw [Int64.lt_iff_toInt_lt]
      have : x.toInt ≠ y.toInt := fun q => h2 (Int64.toInt_inj.mp q)
      omega
theorem lgc_gt {x y : Int64} : nI 0 < lg_cmp x y ↔ y < x := by
  unfold lg_cmp
  by_cases h1 : x > y
  · rw [if_pos h1]
    exact ⟨fun _ => h1, fun _ => by decide⟩
  · rw [if_neg h1]
    refine ⟨fun q => ?_, fun q => absurd q h1⟩
    exfalso
    by_cases h2 : x = y
    · rw [if_pos h2] at q; exact absurd q (by decide)
    · rw [if_neg h2] at q; exact absurd q (by decide)
theorem lgc_eq {x y : Int64} : lg_cmp x y = nI 0 ↔ x = y := by
  unfold lg_cmp
  by_cases h1 : x > y
  · rw [if_pos h1]
    refine ⟨fun q => absurd q (by decide), fun q => ?_⟩
    subst q
    rw [gt_iff_lt, Int64.lt_iff_toInt_lt] at h1
    omega
  · rw [if_neg h1]
    by_cases h2 : x = y
    · rw [if_pos h2]; exact ⟨fun _ => h2, fun _ => rfl⟩
    · rw [if_neg h2]; exact ⟨fun q => absurd q (by decide), fun q => absurd q h2⟩
theorem w64 (x : Int32) : x.toInt64.toInt = x.toInt := Int32.toInt_toInt64 x
theorem n64 (hn : n < 2147483648) : (lN n).toInt = (n : Int) := lN_toInt hn
theorem M_it (h1 : lo ≤ a) (h2 : a ≤ hi) (hh : hi < 2147483648) (h : Q (nI 1) σ) : wp_X5_in (nI a).toInt64 (lN lo) (lN hi) σ Q := by
  unfold wp_X5_in
  rw [lgc_lt, lgc_gt, Int64.lt_iff_toInt_lt, Int64.lt_iff_toInt_lt, w64, nI_toInt (by omega), n64 (by omega), n64 (by omega)]
  exact ⟨fun q => absurd q (by omega), fun _ => ⟨fun q => absurd q (by omega), fun _ => h⟩⟩
theorem M_if (hh : hi < 2147483648) (hl : lo < 2147483648) (hn : ¬ ∃ a, lo ≤ a ∧ a ≤ hi ∧ x = nI a) (h : Q (nI 0) σ) : wp_X5_in x.toInt64 (lN lo) (lN hi) σ Q := by
  unfold wp_X5_in
  rw [lgc_lt, lgc_gt, Int64.lt_iff_toInt_lt, Int64.lt_iff_toInt_lt, w64, n64 (by omega), n64 (by omega)]
  refine ⟨fun _ => h, fun q1 => ⟨fun _ => h, fun q2 => absurd (nI_mid hh hl ?_ ?_) hn⟩⟩
  · rw [Int32.lt_iff_toInt_lt, nI_toInt (by omega)]; exact q1
  · rw [Int32.lt_iff_toInt_lt, nI_toInt (by omega)]; exact q2
theorem M_nt (h1 : a < n) (hn : n < 1073741824) (h : Q (nI 1) σ) : wp_X5_in (nI a).toInt64 (lN 0) (nI n - nI 1).toInt64 σ Q := by
  unfold wp_X5_in
  rw [lgc_lt, lgc_gt, Int64.lt_iff_toInt_lt, Int64.lt_iff_toInt_lt, w64, w64, nI_toInt (by omega), n64 (by omega), nI_m1 hn]
  exact ⟨fun q => absurd q (by omega), fun _ => ⟨fun q => absurd q (by omega), fun _ => h⟩⟩
theorem M_nf (hn : n < 1073741824) (hx : ¬ ∃ a, a < n ∧ x = nI a) (h : Q (nI 0) σ) : wp_X5_in x.toInt64 (lN 0) (nI n - nI 1).toInt64 σ Q := by
  unfold wp_X5_in
  rw [lgc_lt, lgc_gt, Int64.lt_iff_toInt_lt, Int64.lt_iff_toInt_lt, w64, w64, n64 (by omega), nI_m1 hn]
  refine ⟨fun _ => h, fun q1 => ⟨fun _ => h, fun q2 => absurd (nI_mid1 hn ?_ ?_) hx⟩⟩
  · rw [Int32.lt_iff_toInt_lt, nI_toInt (by omega)]; exact q1
  · rw [Int32.lt_iff_toInt_lt, nI_m1 hn]; exact q2
theorem bz0 : bz (nI 0) := Or.inl rfl
theorem bz1 : bz (nI 1) := Or.inr rfl
/-- r = 0: the first way -/
theorem z_t {A B : Prop} (h : A) : (nI 0 = nI 0 → A) ∧ (¬ nI 0 = nI 0 → B) := ⟨fun _ => h, fun q => absurd rfl q⟩
theorem z_t' {A B : Prop} (h : A) : (¬ nI 0 = nI 0 → B) ∧ (nI 0 = nI 0 → A) := ⟨fun q => absurd rfl q, fun _ => h⟩
theorem o_t {A B : Prop} (h : B) : (nI 1 = nI 0 → A) ∧ (¬ nI 1 = nI 0 → B) := ⟨fun q => absurd q b_ne, fun _ => h⟩
theorem o_t' {A B : Prop} (h : B) : (¬ nI 1 = nI 0 → B) ∧ (nI 1 = nI 0 → A) := ⟨fun _ => h, fun q => absurd q b_ne⟩
theorem C_rowT (h : a < 8) (hq : Q (nI 1) σ) : wp_X4_isRow (nI a) σ Q := C_wt (by omega) (by omega) (by omega) ⟨bz1, hq⟩
theorem C_rowF (h : ¬ ∃ a, a < 8 ∧ x = nI a) (hq : Q (nI 0) σ) : wp_X4_isRow x σ Q := C_wf (by omega) (by omega) (fun ⟨a, _, h2, h3⟩ => h ⟨a, by omega, h3⟩) ⟨bz0, hq⟩
theorem M_rowT (h : a < 8) (hq : Q (nI 1) σ) : wp_X5_isRow (nI a) σ Q := M_it (by omega) (by omega) (by omega) ⟨bz1, hq⟩
theorem M_rowF (h : ¬ ∃ a, a < 8 ∧ x = nI a) (hq : Q (nI 0) σ) : wp_X5_isRow x σ Q := M_if (by omega) (by omega) (fun ⟨a, _, h2, h3⟩ => h ⟨a, by omega, h3⟩) ⟨bz0, hq⟩
theorem C_manT (hm : σ (tc 0 0) 8 = nI n) (hn : n < 1073741824) (h : a < n) (hq : Q (nI 1) σ) : wp_X4_isMan (nI a) σ Q := by
  unfold wp_X4_isMan
  rw [hm]
  exact C_nt h hn ⟨bz1, hq⟩
theorem C_manF (hm : σ (tc 0 0) 8 = nI n) (hn : n < 1073741824) (h : ¬ ∃ a, a < n ∧ x = nI a) (hq : Q (nI 0) σ) : wp_X4_isMan x σ Q := by
  unfold wp_X4_isMan
  rw [hm]
  exact C_nf hn h ⟨bz0, hq⟩
theorem C_lvT (hm : σ (tc 0 0) 9 = nI n) (hn : n < 1073741824) (h : a < n) (hq : Q (nI 1) σ) : wp_X4_isLeaver (nI a) σ Q := by
  unfold wp_X4_isLeaver
  rw [hm]
  exact C_nt h hn ⟨bz1, hq⟩
theorem C_lvF (hm : σ (tc 0 0) 9 = nI n) (hn : n < 1073741824) (h : ¬ ∃ a, a < n ∧ x = nI a) (hq : Q (nI 0) σ) : wp_X4_isLeaver x σ Q := by
  unfold wp_X4_isLeaver
  rw [hm]
  exact C_nf hn h ⟨bz0, hq⟩
theorem M_manT (hm : σ 280 2 = nI n) (hn : n < 1073741824) (h : a < n) (hq : Q (nI 1) σ) : wp_X5_isMan (nI a) σ Q := by
  unfold wp_X5_isMan
  rw [hm]
  exact M_nt h hn ⟨bz1, hq⟩
theorem M_manF (hm : σ 280 2 = nI n) (hn : n < 1073741824) (h : ¬ ∃ a, a < n ∧ x = nI a) (hq : Q (nI 0) σ) : wp_X5_isMan x σ Q := by
  unfold wp_X5_isMan
  rw [hm]
  exact M_nf hn h ⟨bz0, hq⟩
theorem M_lvT (hm : σ 280 3 = nI n) (hn : n < 1073741824) (h : a < n) (hq : Q (nI 1) σ) : wp_X5_isLeaver (nI a) σ Q := by
  unfold wp_X5_isLeaver
  rw [hm]
  exact M_nt h hn ⟨bz1, hq⟩
theorem M_lvF (hm : σ 280 3 = nI n) (hn : n < 1073741824) (h : ¬ ∃ a, a < n ∧ x = nI a) (hq : Q (nI 0) σ) : wp_X5_isLeaver x σ Q := by
  unfold wp_X5_isLeaver
  rw [hm]
  exact M_nf hn h ⟨bz0, hq⟩
theorem C_bitT (h : a < 2) (hq : Q (nI 1) σ) : wp_X4_isBit (nI a) σ Q := by
  unfold wp_X4_isBit w_X4_isBit_9
  rw [nI_inj (by omega) (by omega), nI_inj (by omega) (by omega)]
  exact ⟨fun _ => hq, fun q => ⟨fun q2 => absurd q2 (by omega), fun _ => hq⟩⟩
theorem C_bitF (h : ¬ ∃ a, a < 2 ∧ x = nI a) (hq : Q (nI 0) σ) : wp_X4_isBit x σ Q := ⟨fun q => absurd ⟨0, by omega, q⟩ h, fun _ => ⟨fun _ => hq, fun q => absurd ⟨1, by omega, q⟩ h⟩⟩
theorem M_whT (h : a < 2) (hq : Q (nI 1) σ) : wp_X5_isWhat (nI a) σ Q := M_it (by omega) (by omega) (by omega) ⟨bz1, hq⟩
theorem M_whF (h : ¬ ∃ a, a < 2 ∧ x = nI a) (hq : Q (nI 0) σ) : wp_X5_isWhat x σ Q := M_if (by omega) (by omega) (fun ⟨a, _, h2, h3⟩ => h ⟨a, by omega, h3⟩) ⟨bz0, hq⟩
end RG
