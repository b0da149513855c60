/-! ===== foretold ===== -/
def MZ (σ τ : PI) : Prop := (∀ c, c ≠ 280 → c ≠ 276 → c ≠ 285 → τ c = σ c) ∧ (∀ f, f ≠ 17 → f ≠ 6 → τ 276 f = σ 276 f) ∧ ∀ j, j < 70 → τ 285 j = σ 280 j
section FT
variable {σ τ υ : PI} {t : Nat → Nat}
theorem MZ.kq (h : MZ σ τ) (h6 : τ 276 6 = σ 276 6) (hs : ∀ j, j < 70 → τ 280 j = σ 280 j) : KQ σ τ :=
  ⟨⟨fun c hc => h.1 c (by unfold oc at hc; omega) (by unfold oc at hc; omega) (by unfold oc at hc; omega), by rw [h.1 252 (by omega) (by omega) (by omega)], by rw [h.1 252 (by omega) (by omega) (by omega)], by rw [h.1 257 (by omega) (by omega) (by omega)], ⟨h.2.1 4 (by omega) (by omega), h6, h.2.1 9 (by omega) (by omega), h.2.1 10 (by omega) (by omega), h.2.1 19 (by omega) (by omega), h.2.1 24 (by omega) (by omega)⟩, hs⟩, fun c hc => h.1 c (by unfold rwc at hc; omega) (by unfold rwc at hc; omega) (by unfold rwc at hc; omega), by rw [h.1 252 (by omega) (by omega) (by omega)], h.2.1 3 (by omega) (by omega)⟩
theorem MZ.fm (h : MZ σ τ) (g : FM τ υ) : MZ σ υ := ⟨fun c h1 h2 h3 => by rw [g.1 c h1 h2, h.1 c h1 h2 h3], fun f h1 h2 => by rw [g.2 f h1, h.2.1 f h1 h2], fun j hj => by rw [g.1 285 (by omega) (by omega), h.2.2 j hj]⟩
theorem MZ.s (h : MZ σ τ) (g : ∀ c, c ≠ 280 → υ c = τ c) : MZ σ υ := ⟨fun c h1 h2 h3 => by rw [g c h1, h.1 c h1 h2 h3], fun f h1 h2 => by rw [g 276 (by omega), h.2.1 f h1 h2], fun j hj => by rw [g 285 (by omega), h.2.2 j hj]⟩
theorem MZ.h6 (h : MZ σ τ) {v : Int32} : MZ σ (up τ 276 6 v) := ⟨fun c h1 h2 h3 => by rw [up_ne h2, h.1 c h1 h2 h3], fun f h1 h2 => by rw [up_k h2, h.2.1 f h1 h2], fun j hj => by rw [up_ne (by omega), h.2.2 j hj]⟩
theorem M_aside {Q : PI → Prop} (h : ∀ τ, MZ σ τ → τ 276 = σ 276 → τ 280 = σ 280 → Q τ) : wp_X5_putAside σ Q :=
  M_putAside (fun τ h1 h2 => h τ ⟨fun c _ _ h3 => h2 c h3, fun f _ _ => by rw [h2 276 (by omega)], h1⟩ (h2 276 (by omega)) (h2 280 (by omega)))
theorem M_back {Q : PI → Prop} (hz : MZ σ τ) (h : ∀ υ, MZ σ υ → υ 276 = τ 276 → (∀ j, j < 70 → υ 280 j = σ 280 j) → Q υ) : wp_X5_takeBack τ Q :=
  M_takeBack (fun υ h1 h2 => h υ (hz.s h2) (h2 276 (by omega)) (fun j hj => by rw [h1 j hj, hz.2.2 j hj]))
/-- back, with nobody sent home: all as it was -/
theorem M_end {Q : PI → Prop} (hR : Rel σ) (ht : RTn σ t) (hz : MZ σ τ) (h6 : τ 276 6 = nI 0) (h : ∀ υ, Rel υ → Q υ) : wp_X5_takeBack τ Q :=
  M_back hz (fun υ z1 z2 z3 => h υ (hR.k (z1.kq (by rw [z2, h6, ht.2.2.2.1]) z3)))
theorem C_try {Q : PI → Prop} (ht : RTn σ t) (h : ∀ τ, TA τ 1 t → τ (tc 1 0) 14 = nI 0 → Fr 1 σ τ → Q τ) : wp_X3_copyFrom 1 0 σ Q :=
  T_copy (by omega) (fun τ hc => h τ (hc.ta ht.1 ht.b.1 ht.b.2.1) (by rw [hc.1 14 (by omega) (by omega)]; exact ht.2.2.1) hc.2.2.2.2)
theorem Rel.fr (h : Rel σ) (f : Fr 1 σ τ) : Rel τ := h.k (KQ.fr f)
theorem RTn.fr (h : RTn σ t) (f : Fr 1 σ τ) : RTn τ t := h.k (KQ.fr f).1
theorem eq_ahead {a0 a1 : Int32} (h : Rel σ) : wp_X4_ahead a0 a1 σ (fun r τ => wp_X5_ahead a0 a1 τ (fun r' τ' => r = r' ∧ Rel τ')) := by
  unfold wp_X4_ahead
  obtain ⟨t, ht⟩ := h.2.2.2.2.2.1
  obtain ⟨b2, b3, b4⟩ := ht.b
  have m2 := ht.2.1 2 (by omega)
  by_cases hr0 : ¬ ∃ a, a < t 2 ∧ a0 = nI a
  · exact C_manF ht.1.1.1 (by omega) hr0 (z_t (M_manF m2 (by omega) hr0 (z_t ⟨rfl, h⟩)))
  obtain ⟨a, ha, rfl⟩ := Classical.not_not.mp hr0
  refine C_manT ht.1.1.1 (by omega) ha (o_t ?_)
  by_cases hs0 : ¬ ∃ a, 0 ≤ a ∧ a ≤ 60 ∧ a1 = nI a
  · exact C_wf (by omega) (by omega) hs0 (z_t' (M_manT m2 (by omega) ha (o_t (M_if (by omega) (by omega) hs0 (z_t' ⟨rfl, h⟩)))))
  obtain ⟨n, -, hn, rfl⟩ := Classical.not_not.mp hs0
  obtain ⟨hI, hth⟩ := b4 (by omega)
  refine C_wt (by omega) hn (by omega) (o_t' (C_try ht (fun τ f1 f2 f3 => T_passDays (hb := nob) f1 hI (by rw [f2]; exact HB_0) (by omega) (fun υ g1 g2 g3 => ⟨vpN (by omega) (by omega), ?_⟩))))
  have hf := f3.tr g3
  have hR := h.fr hf
  have htu := ht.fr hf
  have hfe : υ (tc 1 1) a = nI (dys t nob n (6 + a)) := (g1.2.1 a (by rw [dys_2]; exact ha)).1
  rw [nI_cl (a := a) (by omega), hfe]
  refine M_manT (n := t 2) (htu.2.1 2 (by omega)) (by omega) ha (o_t (M_it (by omega) hn (by omega) (o_t' (M_aside (fun ω z1 z2 z3 => ?_)))))
  refine M_goOn (hb := nob) (by rw [z3]; exact htu.2.1) hI (by rw [z2]; exact htu.hm) (by omega) (fun χ x1 x2 => ?_)
  rw [nI_add, nI_cl (a := 6 + a) (by omega), x1 _ (by omega)]
  refine ⟨vpN (by omega) (by omega), fun x ex => M_end hR htu (z1.fm x2) (by rw [x2.2 6 (by omega), z2, htu.2.2.2.1]) (fun ψ hr => ⟨ex.symm, hr⟩)⟩
/-- another DAY -/
def td (t : Nat → Nat) (d : Nat) : Nat → Nat := fun j => if j = 4 then d else t j
theorem td_iv {N d : Nat} (hI : Iv N t) (h1 : t 4 ≤ d) (h2 : d ≤ 3000) : Iv d (td t d) := by
  obtain ⟨⟨h1', h2', h3', h4', h5, h6, h7, h8, h9, h10⟩, hm, hl⟩ := hI
  have e0 : ∀ j, j ≠ 4 → td t d j = t j := fun j hj => by unfold td; rw [if_neg hj]
  have e4 : td t d 4 = d := by unfold td; rw [if_pos rfl]
  refine ⟨?_, fun i hi => ?_, fun l hl' => ?_⟩
  · unfold IH
    rw [e0 2 (by omega), e0 3 (by omega), e0 0 (by omega), e0 1 (by omega), e0 5 (by omega), e4]
    exact ⟨h1', h2', h3', h4', h5, h6, h7, Nat.le_refl _, h9, h2⟩
  · rw [e0 2 (by omega)] at hi
    unfold IM
    rw [e0 _ (by omega), e0 _ (by omega)]; exact hm i hi
  · rw [e0 3 (by omega)] at hl'
    obtain ⟨g1, g2, g3, g4, g5, g6, g7⟩ := hl l hl'
    unfold IL
    rw [e0 2 (by omega), e4, e0 (16 + l) (by omega), e0 (22 + l) (by omega), e0 (28 + l) (by omega), e0 (34 + l) (by omega)]
    exact ⟨g1, g2, g3, g4, g5, g6, fun m hm => by rw [e0 _ (by omega)]; have := g7 m hm; omega⟩
theorem td_ta {k d : Nat} (h : TA τ k t) : TA (up τ (tc k 0) 12 (nI d)) k (td t d) := by
  obtain ⟨hH, hM, hL⟩ := h
  have e0 : ∀ j, j ≠ 4 → td t d j = t j := fun j hj => by unfold td; rw [if_neg hj]
  have e4 : td t d 4 = d := by unfold td; rw [if_pos rfl]
  have c0 : ∀ j, j < 9 → j ≠ 0 → up τ (tc k 0) 12 (nI d) (tc k j) = τ (tc k j) := fun j hj h5 => up_ne (by rw [Ne, tc_iff hj (by omega)]; omega)
  refine ⟨?_, fun i hi => ?_, fun l' hl' => ?_⟩
  · obtain ⟨a8, a9, a10, a11, a12, a13⟩ := hH
    refine ⟨?_, ?_, ?_, ?_, ?_, ?_⟩
    · rw [up_k (by omega), e0 2 (by omega)]; exact a8
    · rw [up_k (by omega), e0 3 (by omega)]; exact a9
    · rw [up_k (by omega), e0 0 (by omega)]; exact a10
    · rw [up_k (by omega), e0 1 (by omega)]; exact a11
    · rw [up_s, e4]
    · rw [up_k (by omega), e0 5 (by omega)]; exact a13
  · rw [e0 2 (by omega)] at hi
    have := hM i hi
    unfold TM at this ⊢
    rw [c0 1 (by omega) (by omega), c0 2 (by omega) (by omega), e0 (6 + i) (by omega), e0 (11 + i) (by omega)]
    exact this
  · rw [e0 3 (by omega)] at hl'
    obtain ⟨w3, w4, w5, w6, w7⟩ := hL l' hl'
    exact ⟨by rw [c0 3 (by omega) (by omega), e0 _ (by omega)]; exact w3, by rw [c0 4 (by omega) (by omega), e0 _ (by omega)]; exact w4, by rw [c0 5 (by omega) (by omega), e0 _ (by omega)]; exact w5, by rw [c0 6 (by omega) (by omega), e0 _ (by omega)]; exact w6, fun m hm => by rw [c0 7 (by omega) (by omega), e0 _ (by omega)]; exact w7 m hm⟩
theorem td_ma {d : Nat} {f : Nat → Int32} (h : MA f t) : MA (upd f 4 (nI d)) (td t d) := h.up
theorem td_2 {d : Nat} : td t d 2 = t 2 := by unfold td; rw [if_neg (by omega)]
theorem td_3 {d : Nat} : td t d 3 = t 3 := by unfold td; rw [if_neg (by omega)]
theorem td_td {d e : Nat} : td (td t d) e = td t e := by
  funext j
  unfold td
  split <;> rfl
theorem td_s : td t (t 4) = t := by
  funext j
  unfold td
  split
  · rename_i q; rw [q]
  · rfl
theorem KQ.s4 {v : Int32} (h : ∀ c, c ≠ 280 → τ c = σ c) (hs : ∀ j, j < 70 → τ 280 j = σ 280 j) : KQ σ τ :=
  ⟨⟨fun c hc => h c (by unfold oc at hc; omega), by rw [h 252 (by omega)], by rw [h 252 (by omega)], by rw [h 257 (by omega)], ⟨by rw [h 276 (by omega)], by rw [h 276 (by omega)], by rw [h 276 (by omega)], by rw [h 276 (by omega)], by rw [h 276 (by omega)], by rw [h 276 (by omega)]⟩, hs⟩, fun c hc => h c (by unfold rwc at hc; omega), by rw [h 252 (by omega)], by rw [h 276 (by omega)]⟩
theorem eq_awayAhead {a0 a1 : Int32} (h : Rel σ) : wp_X4_awayAhead a0 a1 σ (fun r τ => wp_X5_awayAhead a0 a1 τ (fun r' τ' => r = r' ∧ Rel τ')) := by
  unfold wp_X4_awayAhead
  obtain ⟨t, ht⟩ := h.2.2.2.2.2.1
  obtain ⟨b2, b3, b4⟩ := ht.b
  have m2 := ht.2.1 2 (by omega)
  by_cases hr0 : ¬ ∃ a, a < t 2 ∧ a0 = nI a
  · exact C_manF ht.1.1.1 (by omega) hr0 (z_t (M_manF m2 (by omega) hr0 (z_t ⟨rfl, h⟩)))
  obtain ⟨a, ha, rfl⟩ := Classical.not_not.mp hr0
  refine C_manT ht.1.1.1 (by omega) ha (o_t ?_)
  by_cases hs0 : ¬ ∃ a, 0 ≤ a ∧ a ≤ 60 ∧ a1 = nI a
  · exact C_wf (by omega) (by omega) hs0 (z_t' (M_manT m2 (by omega) ha (o_t (M_if (by omega) (by omega) hs0 (z_t' ⟨rfl, h⟩)))))
  obtain ⟨n, -, hn, rfl⟩ := Classical.not_not.mp hs0
  obtain ⟨hI, hth⟩ := b4 (by omega)
  obtain ⟨i1, i2, i3, i4, i5, i6, i7, i8, i9⟩ := hI.1.b
  have i8' : t 4 ≤ 999 := hI.1.2.2.2.2.2.2.2.1
  have hI' := td_iv (d := t 4 + n) hI (by omega) (by omega)
  refine C_wt (by omega) hn (by omega) (o_t' (C_try ht (fun τ f1 f2 f3 => fun υ eu => ?_)))
  rw [f1.1.2.2.2.2.1, nI_add] at eu
  have hA' : TA υ 1 (td t (t 4 + n)) := by rw [eu]; exact td_ta f1
  have hh' : υ (tc 1 0) 14 = nI 0 := by rw [eu, up_k (by omega), f2]
  have hf : Fr 1 σ υ := f3.tr (by rw [eu]; exact Fr.u (by omega))
  have hR := h.fr hf
  have htu := ht.fr hf
  refine T_awayFrom (hb := nob) hA' hI' (by rw [hh']; exact HB_0) (by omega) ?_
  refine M_manT (n := t 2) (htu.2.1 2 (by omega)) (by omega) ha (o_t (M_it (by omega) hn (by omega) (o_t' (fun x ex ω ew => ?_))))
  rw [htu.2.1 4 (by omega)] at ex
  rw [ex, nI_add] at ew
  have hM' : MA (ω 280) (td t (t 4 + n)) := by rw [ew, up_self]; exact td_ma htu.2.1
  refine M_awayFrom (hb := nob) hM'.h hI' (fun l hl => hM'.l (by rw [td_3] at hl; omega)) (by rw [ew, up_ne (by omega)]; exact htu.hm) (by omega) (fun χ ec => ⟨rfl, hR.k (KQ.s4 (v := 0) (fun c hc => ?_) (fun j hj => ?_))⟩)
  · rw [ec, up_ne hc, ew, up_ne hc]
  · rw [ec]
    by_cases q : j = 4
    · subst q; rw [up_s, ex, htu.2.1 4 (by omega)]
    · rw [up_k q, ew, up_k q]
/-- the first from k on, of d, that p has -/
def lst (p : Nat → Bool) (k : Nat) : Nat → Int32
  | 0 => -1000000
  | d + 1 => if p k then nI k else lst p (k + 1) d
theorem eq_first {a0 : Int32} (h : Rel σ) : wp_X4_first a0 σ (fun r τ => wp_X5_first a0 τ (fun r' τ' => r = r' ∧ Rel τ')) := by
  unfold wp_X4_first
  obtain ⟨t, ht⟩ := h.2.2.2.2.2.1
  obtain ⟨b2, b3, b4⟩ := ht.b
  have m2 := ht.2.1 2 (by omega)
  by_cases hr0 : ¬ ∃ a, a < t 2 ∧ a0 = nI a
  · exact C_manF ht.1.1.1 (by omega) hr0 (z_t' (M_manF m2 (by omega) hr0 (z_t' ⟨rfl, h⟩)))
  obtain ⟨a, ha, rfl⟩ := Classical.not_not.mp hr0
  obtain ⟨hI, hth⟩ := b4 (by omega)
  obtain ⟨i1, i2, i3, i4, i5, i6, i7, i8, i9⟩ := hI.1.b
  have i8' : t 4 ≤ 999 := hI.1.2.2.2.2.2.2.2.1
  obtain ⟨p, hp⟩ : ∃ p : Nat → Bool, p = fun n => decide (aw (td t (t 4 + n - 1)) nob a (t 3) = 0) := ⟨_, rfl⟩
  have hlt : ∀ d, aw (td t d) nob a (t 3) < 2 ^ 6 := fun d => bm_le _ i4
  refine C_manT ht.1.1.1 (by omega) ha (o_t' (C_try ht (fun τ f1 f2 f3 => ?_)))
  have key : ∀ Q : Int32 → PI → Prop, (∀ υ, Fr 1 σ υ → Q (lst p 1 60) υ) → w_X4_first_24 Q (nI a) (nI 1) τ := by
    intro Q hQ
    unfold w_X4_first_24
    refine for_up (α := Int32 × Int32 × PI) 61 (fun i s => ∃ υ, 1 ≤ i ∧ s = (nI a, nI i, υ) ∧ TA υ 1 (td t (t 4 + i - 1)) ∧ υ (tc 1 0) 14 = nI 0 ∧ Fr 1 σ υ ∧ lst p 1 60 = lst p i (61 - i)) ?_ ?_ 1 _ (by omega) ⟨τ, by omega, rfl, by rw [show t 4 + 1 - 1 = t 4 by omega, td_s]; exact f1, f2, f3, rfl⟩
    · rintro K s ⟨υ, h1, rfl, g1, g2, g3, g4⟩
      show B_X4_first_24 K Q (nI a) (nI 61) υ
      unfold B_X4_first_24
      rw [nI_lt' (by omega) (by omega)]
      have := hQ υ g3
      rw [g4] at this
      exact ⟨fun _ => this, fun z => absurd (show 60 < 61 by omega) z⟩
    · rintro K i s hi ⟨υ, h1, rfl, g1, g2, g3, g4⟩ hK
      show B_X4_first_24 K Q (nI a) (nI i) υ
      unfold B_X4_first_24
      rw [nI_lt' (by omega) (by omega), nI_add]
      refine ⟨fun z => absurd z (by omega), fun _ => T_awayFrom (hb := nob) g1 (td_iv hI (by omega) (by omega)) (by rw [g2]; exact HB_0) (by omega) ?_⟩
      rw [td_3, nI_inj (by have := hlt (t 4 + i - 1); omega) (by omega)]
      rw [show 61 - i = (61 - (i + 1)) + 1 by omega] at g4
      refine ⟨fun q ω ew => ?_, fun q => ?_⟩
      · rw [g1.1.2.2.2.2.1, show td t (t 4 + i - 1) 4 = t 4 + i - 1 from by unfold td; rw [if_pos rfl], nI_add] at ew
        refine hK _ ⟨ω, by omega, rfl, ?_, by rw [ew, up_k (by omega)]; exact g2, g3.tr (by rw [ew]; exact Fr.u (by omega)), ?_⟩
        · rw [ew, show t 4 + (i + 1) - 1 = t 4 + i - 1 + 1 by omega, ← td_td (d := t 4 + i - 1)]
          exact td_ta g1
        · rw [g4, lst, hp]
          simp [q]
      · have := hQ υ g3
        rw [g4, lst, if_pos (by rw [hp]; simp [q])] at this
        exact this
  refine key _ (fun υ hf => ?_)
  have hR := h.fr hf
  have htu := ht.fr hf
  refine M_manT (n := t 2) (htu.2.1 2 (by omega)) (by omega) ha (o_t' (fun x ex => ?_))
  rw [htu.2.1 4 (by omega)] at ex
  subst ex
  have fin : ∀ (ω : PI) (r : Int32), (∀ c, c ≠ 280 → ω c = υ c) → (∀ j, j < 70 → j ≠ 4 → ω 280 j = υ 280 j) → lst p 1 60 = r → w_X5_first_66 (fun r' τ' => lst p 1 60 = r' ∧ Rel τ') (nI (t 4)) r ω := by
    intro ω r k1 k2 hr
    unfold w_X5_first_66
    intro χ ec
    refine ⟨hr, hR.k (KQ.s4 (v := 0) (fun c hc => by rw [ec, up_ne hc, k1 c hc]) (fun j hj => ?_))⟩
    rw [ec]
    by_cases q : j = 4
    · subst q; rw [up_s, htu.2.1 4 (by omega)]
    · rw [up_k q, k2 j hj q]
  unfold w_X5_first_24
  refine for_up (α := Int32 × Int32 × Int32 × Int32 × PI) 61 (fun i s => ∃ r ω, 1 ≤ i ∧ s = (nI a, nI (t 4), r, nI i, ω) ∧ (∀ c, c ≠ 280 → ω c = υ c) ∧ MA (ω 280) (td t (t 4 + i - 1)) ∧ ((r = -1000000 ∧ lst p 1 60 = lst p i (61 - i)) ∨ (∃ m, m < 61 ∧ r = nI m ∧ lst p 1 60 = nI m))) ?_ ?_ 1 _ (by omega) ⟨-1000000, υ, by omega, rfl, fun _ _ => rfl, by rw [show t 4 + 1 - 1 = t 4 by omega, td_s]; exact htu.2.1, Or.inl ⟨rfl, rfl⟩⟩
  · rintro K s ⟨r, ω, h1, rfl, g1, g2, g3⟩
    show B_X5_first_24 K _ (nI a) (nI (t 4)) r (nI 61) ω
    unfold B_X5_first_24
    rw [nI_lt' (by omega) (by omega)]
    have k2 : ∀ j, j < 70 → j ≠ 4 → ω 280 j = υ 280 j := fun j hj h4 => by rw [g2 j hj, htu.2.1 j hj]; unfold td; rw [if_neg h4]
    refine ⟨fun _ => fin ω r g1 k2 ?_, fun z => absurd (show 60 < 61 by omega) z⟩
    rcases g3 with ⟨q1, q2⟩ | ⟨m, q0, q1, q2⟩
    · rw [q2, q1]; rfl
    · rw [q2, q1]
  · rintro K i s hi ⟨r, ω, h1, rfl, g1, g2, g3⟩ hK
    show B_X5_first_24 K _ (nI a) (nI (t 4)) r (nI i) ω
    unfold B_X5_first_24 w_X5_first_49
    have k2 : ∀ j, j < 70 → j ≠ 4 → ω 280 j = υ 280 j := fun j hj h4 => by rw [g2 j hj, htu.2.1 j hj]; unfold td; rw [if_neg h4]
    rw [nI_lt' (by omega) (by omega)]
    refine ⟨fun z => absurd z (by omega), fun _ => ?_⟩
    rcases g3 with ⟨q1, q2⟩ | ⟨m, q0, q1, q2⟩
    · subst q1
      refine ⟨fun z => absurd z (by decide), fun _ => M_awayFrom (hb := nob) g2.h (td_iv hI (by omega) (by omega)) (fun l hl => g2.l (by rw [td_3] at hl; omega)) (by rw [g1 276 (by omega)]; exact htu.hm) (by omega) ?_⟩
      rw [td_3, nI_inj (by have := hlt (t 4 + i - 1); omega) (by omega), g2 4 (by omega), show td t (t 4 + i - 1) 4 = t 4 + i - 1 from by unfold td; rw [if_pos rfl], nI_add, nI_add]
      rw [show 61 - i = (61 - (i + 1)) + 1 by omega] at q2
      have nx : ∀ χ, χ = up ω 280 4 (nI (t 4 + i - 1 + 1)) → (∀ c, c ≠ 280 → χ c = υ c) ∧ MA (χ 280) (td t (t 4 + (i + 1) - 1)) := by
        intro χ ec
        refine ⟨fun c hc => by rw [ec, up_ne hc, g1 c hc], ?_⟩
        rw [ec, up_self, show t 4 + (i + 1) - 1 = t 4 + i - 1 + 1 by omega, ← td_td (d := t 4 + i - 1)]
        exact td_ma g2
      refine ⟨fun q χ ec => hK _ ⟨-1000000, χ, by omega, rfl, (nx χ ec).1, (nx χ ec).2, Or.inl ⟨rfl, ?_⟩⟩, fun q χ ec => hK _ ⟨nI i, χ, by omega, rfl, (nx χ ec).1, (nx χ ec).2, Or.inr ⟨i, by omega, rfl, ?_⟩⟩⟩
      · rw [q2, lst, hp]; simp [q]
      · rw [q2, lst, if_pos (by rw [hp]; simp [q])]
    · subst q1
      rw [nI_le' (by omega) (by omega)]
      exact ⟨fun _ => fin ω _ g1 k2 q2, fun z => absurd (Nat.zero_le _) z⟩
end FT
