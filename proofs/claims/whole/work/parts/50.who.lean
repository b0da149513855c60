/-! ===== who, houses, weights, absent ===== -/
section WH
variable {σ τ υ : PI} {t : Nat → Nat}
def ch (t : Nat → Nat) (b v : Nat) : Nat → Nat := fun j => if j = b then v else t j
def cht (by_ : Nat) (t : Nat → Nat) (l o : Nat) : Nat → Nat := if by_ = 0 then ch t (16 + l) o else if by_ = 1 then snd t l o else ch t (28 + l) o
theorem ch_ta {k c b l v : Nat} (h : TA τ k t) (h2 : t 2 ≤ 5) (h3 : t 3 ≤ 6) (hl : l < 6) (hc : (c = 3 ∧ b = 16) ∨ (c = 5 ∧ b = 28)) : TA (up τ (tc k c) l (nI v)) k (ch t (b + l) v) := by
  obtain ⟨hH, hM, hL⟩ := h
  have e0 : ∀ j, j ≠ b + l → ch t (b + l) v j = t j := fun j hj => by unfold ch; rw [if_neg hj]
  have eb : ch t (b + l) v (b + l) = v := by unfold ch; rw [if_pos rfl]
  have c0 : ∀ j, j < 9 → j ≠ c → up τ (tc k c) l (nI v) (tc k j) = τ (tc k j) := fun j hj h5 => up_ne (by rw [Ne, tc_iff hj (by omega)]; omega)
  refine ⟨?_, fun m hm => ?_, fun l' hl' => ?_⟩
  · unfold TH at hH ⊢
    rw [c0 0 (by omega) (by omega), e0 2 (by omega), e0 3 (by omega), e0 0 (by omega), e0 1 (by omega), e0 4 (by omega), e0 5 (by omega)]
    exact hH
  · rw [e0 2 (by omega)] at hm
    have := hM m hm
    unfold TM at this ⊢
    rw [c0 1 (by omega) (by omega), c0 2 (by omega) (by omega), e0 (6 + m) (by omega), e0 (11 + m) (by omega)]
    exact this
  · rw [e0 3 (by omega)] at hl'
    obtain ⟨w3, w4, w5, w6, w7⟩ := hL l' hl'
    rcases hc with ⟨rfl, rfl⟩ | ⟨rfl, rfl⟩
    · refine ⟨?_, by rw [c0 4 (by omega) (by omega), e0 _ (by omega)]; exact w4, by rw [c0 5 (by omega) (by omega), e0 _ (by omega)]; exact w5, by rw [c0 6 (by omega) (by omega), e0 _ (by omega)]; exact w6, fun m hm => by rw [c0 7 (by omega) (by omega), e0 _ (by omega)]; exact w7 m hm⟩
      by_cases q : l' = l
      · subst q; rw [up_s, eb]
      · rw [up_k q, e0 _ (by omega)]; exact w3
    · refine ⟨by rw [c0 3 (by omega) (by omega), e0 _ (by omega)]; exact w3, by rw [c0 4 (by omega) (by omega), e0 _ (by omega)]; exact w4, ?_, by rw [c0 6 (by omega) (by omega), e0 _ (by omega)]; exact w6, fun m hm => by rw [c0 7 (by omega) (by omega), e0 _ (by omega)]; exact w7 m hm⟩
      by_cases q : l' = l
      · subst q; rw [up_s, eb]
      · rw [up_k q, e0 _ (by omega)]; exact w5
theorem ch_iv {N b l v : Nat} (hI : Iv N t) (hl : l < 6) (hb : (b = 16 ∧ 1 ≤ v ∧ v ≤ 5) ∨ (b = 28 ∧ 1 ≤ v ∧ v ≤ 9)) : Iv N (ch t (b + l) v) := by
  obtain ⟨⟨h1, h2, h3, h4, h5, h6, h7, h8, h9, h10⟩, hM, hL⟩ := hI
  have e0 : ∀ j, j ≠ b + l → ch t (b + l) v j = t j := fun j hj => by unfold ch; rw [if_neg hj]
  have eb : ch t (b + l) v (b + l) = v := by unfold ch; rw [if_pos rfl]
  refine ⟨?_, fun m hm => ?_, fun l' hl' => ?_⟩
  · unfold IH
    rw [e0 2 (by omega), e0 3 (by omega), e0 0 (by omega), e0 1 (by omega), e0 4 (by omega), e0 5 (by omega)]
    exact ⟨h1, h2, h3, h4, h5, h6, h7, h8, h9, h10⟩
  · rw [e0 2 (by omega)] at hm
    unfold IM
    rw [e0 (6 + m) (by omega), e0 (11 + m) (by omega)]
    exact hM m hm
  · rw [e0 3 (by omega)] at hl'
    obtain ⟨g1, g2, g3, g4, g5, g6, g7⟩ := hL l' hl'
    unfold IL
    rw [e0 2 (by omega), e0 4 (by omega), e0 (22 + l') (by omega), e0 (34 + l') (by omega)]
    rcases hb with ⟨rfl, hb⟩ | ⟨rfl, hb⟩
    · rw [e0 (28 + l') (by omega)]
      refine ⟨?_, ?_, g3, g4, g5, g6, fun m hm => by rw [e0 _ (by omega)]; exact g7 m hm⟩
      · by_cases q : l' = l
        · subst q; rw [eb]; omega
        · rw [e0 _ (by omega)]; exact g1
      · by_cases q : l' = l
        · subst q; rw [eb]; omega
        · rw [e0 _ (by omega)]; exact g2
    · rw [e0 (16 + l') (by omega)]
      refine ⟨g1, g2, g3, ?_, ?_, g6, fun m hm => by rw [e0 _ (by omega)]; exact g7 m hm⟩
      · by_cases q : l' = l
        · subst q; rw [eb]; omega
        · rw [e0 _ (by omega)]; exact g4
      · by_cases q : l' = l
        · subst q; rw [eb]; omega
        · rw [e0 _ (by omega)]; exact g5
theorem cht_2 {b l o : Nat} (hl : l < 6) : cht b t l o 2 = t 2 := by
  unfold cht
  split
  · unfold ch; rw [if_neg (by omega)]
  · split
    · exact snd_2
    · unfold ch; rw [if_neg (by omega)]
theorem cht_iv {N b l o : Nat} (hI : Iv N t) (hl : l < 6) (hb : (b = 0 ∧ 1 ≤ o ∧ o ≤ 5) ∨ (b = 1 ∧ o < t 2) ∨ (b = 2 ∧ 1 ≤ o ∧ o ≤ 9)) : Iv N (cht b t l o) := by
  unfold cht
  rcases hb with ⟨rfl, h⟩ | ⟨rfl, h⟩ | ⟨rfl, h⟩
  · exact ch_iv hI hl (Or.inl ⟨rfl, h⟩)
  · exact snd_iv hI hl h
  · exact ch_iv hI hl (Or.inr ⟨rfl, h⟩)
theorem C_change {N b l o : Nat} {Q : PI → Prop} (hA : TA υ 1 t) (hI : Iv N t) (hl : l < 6) (hb : (b = 0 ∧ 1 ≤ o ∧ o ≤ 5) ∨ (b = 1 ∧ o < t 2) ∨ (b = 2 ∧ 1 ≤ o ∧ o ≤ 9)) (h : ∀ ω, TA ω 1 (cht b t l o) → ω (tc 1 0) 14 = υ (tc 1 0) 14 → Fr 1 υ ω → Q ω) : wp_X4_changeTrial (nI b) (nI l) (nI o) υ Q := by
  obtain ⟨i1, i2, i3, i4, i5, i6, i7, i8, i9⟩ := hI.1.b
  unfold wp_X4_changeTrial
  rw [nI_inj (by omega) (by omega), nI_inj (by omega) (by omega), nI_cl (a := l) (by omega)]
  have hv6 : vp_in (nI l) 6 := vpN hl (by omega)
  rcases hb with ⟨rfl, hb⟩ | ⟨rfl, hb⟩ | ⟨rfl, hb⟩
  · exact ⟨fun z => absurd rfl z, fun _ => ⟨hv6, fun ω e => h ω (by rw [e]; exact ch_ta hA i2 i4 hl (Or.inl ⟨rfl, rfl⟩)) (by rw [e, up_ne (by rw [Ne, tc_iff (by omega) (by omega)]; omega)]) (by rw [e]; exact Fr.u (by omega))⟩⟩
  · exact ⟨fun _ => ⟨fun z => absurd rfl z, fun _ => T_sendTo hA hl (by omega) i2 i4 (fun ω w1 w2 w3 => h ω w1 (by rw [w2]) w3)⟩, fun z => absurd z (by omega)⟩
  · exact ⟨fun _ => ⟨fun _ => ⟨hv6, fun ω e => h ω (by rw [e]; exact ch_ta hA i2 i4 hl (Or.inr ⟨rfl, rfl⟩)) (by rw [e, up_ne (by rw [Ne, tc_iff (by omega) (by omega)]; omega)]) (by rw [e]; exact Fr.u (by omega))⟩, fun z => absurd z (by omega)⟩, fun z => absurd z (by omega)⟩
/-- bits o from lo on by which it is so -/
def Pf (b : Nat) (t : Nat → Nat) (l m : Nat) (row : Nat → Int32) (i n lo : Nat) : Nat → Bool := fun o => decide (lo ≤ o) && ft (cht b t l o) nob m row i n
theorem Pf_lo {b l m i n lo : Nat} {row : Nat → Int32} : bm (Pf b t l m row i n lo) lo = 0 := (bm_zero _ _).mpr (fun o ho => by unfold Pf; simp [show ¬ lo ≤ o by omega])
theorem C_fit {b l m r i n lo hi : Nat} {Q : Int32 → PI → Prop} (ht : RTn σ t) (hI : Iv 999 t) (hl : l < t 3) (hm : m < t 2) (hr : r < 8) (hn : n ≤ 12) (hi40 : i + n ≤ 40) (hlo : lo ≤ hi + 1) (hh : hi < 12) (hb : ∀ o, lo ≤ o → o ≤ hi → (b = 0 ∧ 1 ≤ o ∧ o ≤ 5) ∨ (b = 1 ∧ o < t 2) ∨ (b = 2 ∧ 1 ≤ o ∧ o ≤ 9))
    (h : ∀ υ, Fr 1 σ υ → Q (nI (bm (Pf b t l m (σ (rc r 1)) i n lo) (hi + 1))) υ) : w_X4_fitting_80 Q (nI b) (nI l) (nI m) (nI r) (nI i) (nI n) (nI hi) (nI 0) (nI lo) σ := by
  obtain ⟨i1, i2, i3, i4, i5, i6, i7, i8, i9⟩ := hI.1.b
  unfold w_X4_fitting_80
  refine for_up (α := Int32 × Int32 × Int32 × Int32 × Int32 × Int32 × Int32 × Int32 × Int32 × PI) (hi + 1) (fun o s => ∃ υ, lo ≤ o ∧ s = (nI b, nI l, nI m, nI r, nI i, nI n, nI hi, nI (bm (Pf b t l m (σ (rc r 1)) i n lo) o), nI o, υ) ∧ Fr 1 σ υ) ?_ ?_ lo _ hlo ⟨σ, Nat.le_refl _, by rw [Pf_lo], Fr.rf⟩
  · rintro K s ⟨υ, h1, rfl, k1⟩
    show B_X4_fitting_80 K Q (nI b) (nI l) (nI m) (nI r) (nI i) (nI n) (nI hi) (nI (bm (Pf b t l m (σ (rc r 1)) i n lo) (hi + 1))) (nI (hi + 1)) υ
    unfold B_X4_fitting_80
    rw [nI_lt' (by omega) (by omega)]
    exact ⟨fun _ => h υ k1, fun z => absurd (show hi < hi + 1 by omega) z⟩
  · rintro K o s ho ⟨υ, h1, rfl, k1⟩ hK
    show B_X4_fitting_80 K Q (nI b) (nI l) (nI m) (nI r) (nI i) (nI n) (nI hi) (nI (bm (Pf b t l m (σ (rc r 1)) i n lo) o)) (nI o) υ
    unfold B_X4_fitting_80 w_X4_fitting_134
    have hbo := hb o h1 (by omega)
    have hlt := bm_lt (Pf b t l m (σ (rc r 1)) i n lo) o
    have hI' := cht_iv (l := l) hI (by omega) hbo
    rw [nI_lt' (by omega) (by omega), nI_add, nI_cl (a := r) (by omega), nI_shl (by omega), nI_or hlt]
    refine ⟨fun z => absurd z (by omega), fun _ => C_try (ht.fr k1) (fun ω w1 w2 w3 => C_change w1 hI (by omega) hbo (fun χ x1 x2 x3 => ⟨vpN hr (by omega), T_fits (hb := nob) x1 hI' (by rw [x2, w2]; exact HB_0) (by omega) hr (by rw [cht_2 (by omega)]; exact hm) hi40 (fun ψ y1 => ?_)⟩))⟩
    have hf := k1.tr (w3.tr (x3.tr y1))
    have er : χ (rc r 1) = σ (rc r 1) := (k1.tr (w3.tr x3)).hi (by omega) (by unfold rc; omega)
    rw [er]
    have nx := fun (y : Int32) (e : y = nI (bm (Pf b t l m (σ (rc r 1)) i n lo) (o + 1))) => hK (nI b, nI l, nI m, nI r, nI i, nI n, nI hi, y, nI (o + 1), ψ) ⟨ψ, by omega, by rw [e], hf⟩
    have hP : Pf b t l m (σ (rc r 1)) i n lo o = ft (cht b t l o) nob m (σ (rc r 1)) i n := by unfold Pf; simp [h1]
    cases hft : ft (cht b t l o) nob m (σ (rc r 1)) i n
    · refine z_t (nx _ ?_)
      rw [bm, hP, hft]; rfl
    · refine o_t (fun x ex => ?_)
      rw [ex]
      refine nx _ ?_
      rw [bm, hP, hft]; rfl
/-- the end of such an ask: the model's status is 0 too -/
theorem Rel.told {ω : PI} (h : Rel σ) (ht : RTn σ t) (hf : ∀ c, c ≠ 252 → (c < 9 ∨ 18 ≤ c) → υ c = σ c) (h252 : ∀ f, f ≠ 9 → υ 252 f = σ 252 f) (h9 : υ 252 9 = nI 0) (hz : MZ υ τ) (h6 : τ 276 6 = nI 0) (h280 : ∀ j, j < 70 → τ 280 j = υ 280 j) (e : ω = up τ 276 3 (nI 0)) : Rel ω := by
  have k1 : ∀ c, c ≠ 252 → c ≠ 276 → c ≠ 280 → c ≠ 285 → (c < 9 ∨ 18 ≤ c) → ω c = σ c := fun c q1 q2 q3 q4 q5 => by rw [e, up_ne q2, hz.1 c q3 q2 q4, hf c q1 q5]
  have k2 : ω 252 = υ 252 := by rw [e, up_ne (by omega), hz.1 252 (by omega) (by omega) (by omega)]
  have k3 : ∀ f, f ≠ 3 → f ≠ 17 → f ≠ 6 → ω 276 f = σ 276 f := fun f q1 q2 q3 => by rw [e, up_k q1, hz.2.1 f q2 q3, hf 276 (by omega) (by omega)]
  refine ⟨fun r hr => (h.1 r hr).k hr (fun c hc => k1 c (by unfold rwc at hc; omega) (by unfold rwc at hc; omega) (by unfold rwc at hc; omega) (by unfold rwc at hc; omega) (by unfold rwc at hc; omega)), by rw [k2, h9, e, up_s], h.2.2.k ⟨fun c hc => k1 c (by unfold oc at hc; omega) (by unfold oc at hc; omega) (by unfold oc at hc; omega) (by unfold oc at hc; omega) (by unfold oc at hc; omega), by rw [k2]; exact h252 7 (by omega), by rw [k2]; exact h252 8 (by omega), by rw [k1 257 (by omega) (by omega) (by omega) (by omega) (by omega)], ⟨k3 4 (by omega) (by omega) (by omega), by rw [e, up_k (by omega), h6, ht.2.2.2.1], k3 9 (by omega) (by omega) (by omega), k3 10 (by omega) (by omega) (by omega), k3 19 (by omega) (by omega) (by omega), k3 24 (by omega) (by omega) (by omega)⟩, fun j hj => by rw [e, up_ne (by omega), h280 j hj, hf 280 (by omega) (by omega)]⟩⟩
theorem RTn.u9 {v : Int32} (h : RTn σ t) : RTn (up σ 252 9 v) t := h.k (KR.of (fun c h1 _ _ _ => by rw [up_ne h1]) (fun s hs => by rw [up_k hs]) (fun s hs => by rw [up_ne (by omega)]))

theorem eq_who {a0 a1 a2 a3 a4 : Int32} (h : Rel σ) : wp_X4_who a0 a1 a2 a3 a4 σ (fun r τ => wp_X5_who a0 a1 a2 a3 a4 τ (fun r' τ' => r = r' ∧ Rel τ')) := by
  unfold wp_X4_who wp_X4_fitting
  obtain ⟨t, ht⟩ := h.2.2.2.2.2.1
  obtain ⟨b2, b3, b4⟩ := ht.b
  have m3 := ht.2.1 3 (by omega)
  by_cases hr0 : ¬ ∃ a, a < t 3 ∧ a0 = nI a
  · exact C_lvF ht.1.1.2.1 (by omega) hr0 (z_t' (M_lvF m3 (by omega) hr0 (z_t ⟨fun z => absurd z (by decide), fun _ => ⟨rfl, h⟩⟩)))
  obtain ⟨l, hl, rfl⟩ := Classical.not_not.mp hr0
  refine C_lvT ht.1.1.2.1 (by omega) hl (o_t' ?_)
  rcases told h ht a1 a2 a3 a4 with ⟨p1, p2⟩ | ⟨v, hv, p1, p2⟩ | ⟨m, r, i, n, rfl, rfl, rfl, rfl, hm, hr, hn1, hn, hi, hit, p1, p2⟩
  · exact p1 _ ⟨fun z => absurd z (by decide), fun _ => M_lvT m3 (by omega) hl (o_t (p2 _ ⟨fun z => absurd z (by decide), fun _ => ⟨rfl, h⟩⟩))⟩
  · have nv : ¬ (-1000010 : Int32) - nI v = nI 0 ∧ ¬ nI 0 ≤ (-1000010 : Int32) - nI v := by
      rcases (show v = 0 ∨ v = 1 ∨ v = 2 by omega) with rfl | rfl | rfl <;> decide
    exact p1 _ ⟨fun z => absurd z nv.1, fun _ => M_lvT (n := t 3) (by rw [up_ne (by omega)]; exact m3) (by omega) hl (o_t (p2 _ ⟨fun z => absurd z nv.2, fun _ => ⟨rfl, h.find⟩⟩))⟩
  · obtain ⟨hI, hth⟩ := b4 (by omega)
    obtain ⟨i1, i2, i3, i4, i5, i6, i7, i8, i9⟩ := hI.1.b
    refine p1 _ (z_t ?_)
    have ht9 := ht.u9 (v := nI 0)
    unfold w_X4_fitting_42 w_X4_fitting_71
    rw [ht9.1.1.1, nI_inj (by omega) (by omega), nI_inj (by omega) (by omega), nI_sub (by omega)]
    have key : w_X4_fitting_80 (fun r2 τ1 => wp_X5_who (nI l) (nI m) (nI r) (nI i) (nI n) τ1 (fun r' τ' => r2 = r' ∧ Rel τ')) (nI 0) (nI l) (nI m) (nI r) (nI i) (nI n) (nI 5) (nI 0) (nI 1) (up σ 252 9 (nI 0)) := by
      refine C_fit ht9 hI hl hm hr hn hi (by omega) (by omega) (fun o q1 q2 => by omega) (fun υ hf => ?_)
      have er : up σ 252 9 (nI 0) (rc r 1) = σ (rc r 1) := up_ne (by unfold rc; omega)
      rw [er]
      have uc : ∀ c, c ≠ 252 → (c < 9 ∨ 18 ≤ c) → υ c = σ c := fun c q1 q2 => by rw [hf c (fun j hj => by unfold tc; omega), up_ne q1]
      have u252 : υ 252 = up σ 252 9 (nI 0) 252 := hf 252 (fun j hj => by unfold tc; omega)
      refine M_lvT (n := t 3) (by rw [uc 280 (by omega) (by omega)]; exact m3) (by omega) hl (o_t (p2 υ _ (uc 280 (by omega) (by omega)) (uc 278 (by omega) (by omega)) ⟨fun _ => M_aside (fun ω0 z1 z2 z3 => ?_), fun z => absurd (Int32.le_refl _) z⟩))
      unfold w_X5_who_43
      have hMu : MA (υ 280) t := by rw [uc 280 (by omega) (by omega)]; exact ht.2.1
      have hru : ∀ j, j < 40 → υ 279 (40 * r + j) = σ (rc r 1) j := fun j hj => by rw [uc 279 (by omega) (by omega)]; exact hit j hj
      refine for_up (α := Int32 × Int32 × Int32 × Int32 × Int32 × Int32 × Int32 × PI) (5 + 1) (fun o s => ∃ ω, 1 ≤ o ∧ s = (nI l, nI m, nI r, nI i, nI n, nI (bm (Pf 0 t l m (σ (rc r 1)) i n 1) o), nI o, ω) ∧ MZ υ ω ∧ ω 276 6 = nI 0 ∧ ∀ j, j < 70 → ω 280 j = υ 280 j) ?_ ?_ 1 _ (by omega) ⟨ω0, Nat.le_refl _, by rw [Pf_lo], z1, by rw [z2, uc 276 (by omega) (by omega)]; exact ht.2.2.2.1, fun j _ => by rw [z3]⟩
      · rintro K s ⟨ω, h1, rfl, k1, k2, k3⟩
        show B_X5_who_43 K _ (nI l) (nI m) (nI r) (nI i) (nI n) (nI (bm (Pf 0 t l m (σ (rc r 1)) i n 1) (5 + 1))) (nI (5 + 1)) ω
        unfold B_X5_who_43
        rw [nI_lt' (by omega) (by omega)]
        refine ⟨fun _ χ ec => ⟨rfl, h.told ht uc (fun f hf => by rw [u252, up_k hf]) (by rw [u252, up_s]) k1 k2 k3 ec⟩, fun z => absurd (by omega) z⟩
      · rintro K o s ho ⟨ω, h1, rfl, k1, k2, k3⟩ hK
        show B_X5_who_43 K _ (nI l) (nI m) (nI r) (nI i) (nI n) (nI (bm (Pf 0 t l m (σ (rc r 1)) i n 1) o)) (nI o) ω
        unfold B_X5_who_43 w_X5_who_87
        have hlt := bm_lt (Pf 0 t l m (σ (rc r 1)) i n 1) o
        have hI' : Iv 999 (cht 0 t l o) := cht_iv hI (by omega) (by omega)
        have hMw : MA (ω 280) t := fun j hj => by rw [k3 j hj]; exact hMu j hj
        rw [nI_lt' (by omega) (by omega)]
        have fin : ∀ χ, MZ υ χ → MA (χ 280) (cht 0 t l o) → χ 276 6 = nI 0 → wp_X5_isSo (nI m) (nI 40 * nI r + nI i) (nI n) χ (fun r14 τ13 => ((r14 = (nI 0) → ∀ x16 : Int32, x16 = (nI (bm (Pf 0 t l m (σ (rc r 1)) i n 1) o) ||| nI 0) → (K (nI l, nI m, nI r, nI i, nI n, x16, (nI o + (nI 1)), τ13))) ∧ (¬ r14 = (nI 0) → ∀ x16 : Int32, x16 = (nI (bm (Pf 0 t l m (σ (rc r 1)) i n 1) o) ||| ((nI 1) <<< (nI o &&& 31))) → (K (nI l, nI m, nI r, nI i, nI n, x16, (nI o + (nI 1)), τ13))))) := by
          intro χ x1 x2 x3
          refine M_isSo (hb := nob) x1 x2 hI' (by rw [x3]; exact HB_0) (by omega) hr (by rw [cht_2 (by omega)]; exact hm) hi hru (fun ψ y1 y2 y3 => ?_)
          have nx := fun (y : Int32) (e : y = nI (bm (Pf 0 t l m (σ (rc r 1)) i n 1) (o + 1))) => hK (nI l, nI m, nI r, nI i, nI n, y, nI (o + 1), ψ) ⟨ψ, by omega, by rw [e], y1, by rw [y2, x3], y3⟩
          have hP : Pf 0 t l m (σ (rc r 1)) i n 1 o = ft (cht 0 t l o) nob m (σ (rc r 1)) i n := by unfold Pf; simp [show 1 ≤ o by omega]
          rw [nI_add, nI_shl (by omega), nI_or hlt, show nI (bm (Pf 0 t l m (σ (rc r 1)) i n 1) o) ||| nI 0 = nI (bm (Pf 0 t l m (σ (rc r 1)) i n 1) o) from Int32.or_zero]
          cases hft : ft (cht 0 t l o) nob m (σ (rc r 1)) i n
          · refine z_t (fun x ex => ?_)
            rw [ex]
            refine nx _ ?_
            rw [bm, hP, hft]; rfl
          · refine o_t (fun x ex => ?_)
            rw [ex]
            refine nx _ ?_
            rw [bm, hP, hft]; rfl
        rw [nI_add 16 l, nI_cl (a := 16 + l) (by omega)]
        refine ⟨fun z => absurd z (by omega), fun _ => ⟨vpN (by omega) (by omega), fun χ ec => fin χ (k1.s (fun c hc => by rw [ec, up_ne hc])) (by rw [ec, up_self]; exact hMw.up) (by rw [ec, up_ne (by omega)]; exact k2)⟩⟩
    exact ⟨fun _ => ⟨fun z => absurd rfl z, fun _ => key⟩, fun z => absurd z (by omega)⟩

theorem eq_houses {a0 a1 a2 a3 a4 : Int32} (h : Rel σ) : wp_X4_houses a0 a1 a2 a3 a4 σ (fun r τ => wp_X5_houses a0 a1 a2 a3 a4 τ (fun r' τ' => r = r' ∧ Rel τ')) := by
  unfold wp_X4_houses wp_X4_fitting
  obtain ⟨t, ht⟩ := h.2.2.2.2.2.1
  obtain ⟨b2, b3, b4⟩ := ht.b
  have m3 := ht.2.1 3 (by omega)
  by_cases hr0 : ¬ ∃ a, a < t 3 ∧ a0 = nI a
  · exact C_lvF ht.1.1.2.1 (by omega) hr0 (z_t' (M_lvF m3 (by omega) hr0 (z_t ⟨fun z => absurd z (by decide), fun _ => ⟨rfl, h⟩⟩)))
  obtain ⟨l, hl, rfl⟩ := Classical.not_not.mp hr0
  refine C_lvT ht.1.1.2.1 (by omega) hl (o_t' ?_)
  rcases told h ht a1 a2 a3 a4 with ⟨p1, p2⟩ | ⟨v, hv, p1, p2⟩ | ⟨m, r, i, n, rfl, rfl, rfl, rfl, hm, hr, hn1, hn, hi, hit, p1, p2⟩
  · exact p1 _ ⟨fun z => absurd z (by decide), fun _ => M_lvT m3 (by omega) hl (o_t (p2 _ ⟨fun z => absurd z (by decide), fun _ => ⟨rfl, h⟩⟩))⟩
  · have nv : ¬ (-1000010 : Int32) - nI v = nI 0 ∧ ¬ nI 0 ≤ (-1000010 : Int32) - nI v := by
      rcases (show v = 0 ∨ v = 1 ∨ v = 2 by omega) with rfl | rfl | rfl <;> decide
    exact p1 _ ⟨fun z => absurd z nv.1, fun _ => M_lvT (n := t 3) (by rw [up_ne (by omega)]; exact m3) (by omega) hl (o_t (p2 _ ⟨fun z => absurd z nv.2, fun _ => ⟨rfl, h.find⟩⟩))⟩
  · obtain ⟨hI, hth⟩ := b4 (by omega)
    obtain ⟨i1, i2, i3, i4, i5, i6, i7, i8, i9⟩ := hI.1.b
    refine p1 _ (z_t ?_)
    have ht9 := ht.u9 (v := nI 0)
    unfold w_X4_fitting_42 w_X4_fitting_71
    rw [ht9.1.1.1, nI_inj (by omega) (by omega), nI_inj (by omega) (by omega), nI_sub (by omega)]
    have key : w_X4_fitting_80 (fun r2 τ1 => wp_X5_houses (nI l) (nI m) (nI r) (nI i) (nI n) τ1 (fun r' τ' => r2 = r' ∧ Rel τ')) (nI 1) (nI l) (nI m) (nI r) (nI i) (nI n) (nI (t 2 - 1)) (nI 0) (nI 0) (up σ 252 9 (nI 0)) := by
      refine C_fit ht9 hI hl hm hr hn hi (by omega) (by omega) (fun o q1 q2 => by omega) (fun υ hf => ?_)
      have er : up σ 252 9 (nI 0) (rc r 1) = σ (rc r 1) := up_ne (by unfold rc; omega)
      rw [er]
      have uc : ∀ c, c ≠ 252 → (c < 9 ∨ 18 ≤ c) → υ c = σ c := fun c q1 q2 => by rw [hf c (fun j hj => by unfold tc; omega), up_ne q1]
      have u252 : υ 252 = up σ 252 9 (nI 0) 252 := hf 252 (fun j hj => by unfold tc; omega)
      refine M_lvT (n := t 3) (by rw [uc 280 (by omega) (by omega)]; exact m3) (by omega) hl (o_t (p2 υ _ (uc 280 (by omega) (by omega)) (uc 278 (by omega) (by omega)) ⟨fun _ => M_aside (fun ω0 z1 z2 z3 => ?_), fun z => absurd (Int32.le_refl _) z⟩))
      unfold w_X5_houses_43
      have hMu : MA (υ 280) t := by rw [uc 280 (by omega) (by omega)]; exact ht.2.1
      have hru : ∀ j, j < 40 → υ 279 (40 * r + j) = σ (rc r 1) j := fun j hj => by rw [uc 279 (by omega) (by omega)]; exact hit j hj
      refine for_up (α := Int32 × Int32 × Int32 × Int32 × Int32 × Int32 × Int32 × PI) ((t 2 - 1) + 1) (fun o s => ∃ ω, 0 ≤ o ∧ s = (nI l, nI m, nI r, nI i, nI n, nI (bm (Pf 1 t l m (σ (rc r 1)) i n 0) o), nI o, ω) ∧ MZ υ ω ∧ ω 276 6 = nI 0 ∧ ∀ j, j < 70 → ω 280 j = υ 280 j) ?_ ?_ 0 _ (by omega) ⟨ω0, Nat.le_refl _, by rw [Pf_lo], z1, by rw [z2, uc 276 (by omega) (by omega)]; exact ht.2.2.2.1, fun j _ => by rw [z3]⟩
      · rintro K s ⟨ω, h1, rfl, k1, k2, k3⟩
        show B_X5_houses_43 K _ (nI l) (nI m) (nI r) (nI i) (nI n) (nI (bm (Pf 1 t l m (σ (rc r 1)) i n 0) ((t 2 - 1) + 1))) (nI ((t 2 - 1) + 1)) ω
        unfold B_X5_houses_43
        rw [k3 2 (by omega), hMu 2 (by omega), nI_le' (by omega) (by omega)]
        refine ⟨fun _ χ ec => ⟨rfl, h.told ht uc (fun f hf => by rw [u252, up_k hf]) (by rw [u252, up_s]) k1 k2 k3 ec⟩, fun z => absurd (by omega) z⟩
      · rintro K o s ho ⟨ω, h1, rfl, k1, k2, k3⟩ hK
        show B_X5_houses_43 K _ (nI l) (nI m) (nI r) (nI i) (nI n) (nI (bm (Pf 1 t l m (σ (rc r 1)) i n 0) o)) (nI o) ω
        unfold B_X5_houses_43 w_X5_houses_88
        have hlt := bm_lt (Pf 1 t l m (σ (rc r 1)) i n 0) o
        have hI' : Iv 999 (cht 1 t l o) := cht_iv hI (by omega) (by omega)
        have hMw : MA (ω 280) t := fun j hj => by rw [k3 j hj]; exact hMu j hj
        rw [k3 2 (by omega), hMu 2 (by omega), nI_le' (by omega) (by omega)]
        have fin : ∀ χ, MZ υ χ → MA (χ 280) (cht 1 t l o) → χ 276 6 = nI 0 → wp_X5_isSo (nI m) (nI 40 * nI r + nI i) (nI n) χ (fun r14 τ13 => ((r14 = (nI 0) → ∀ x16 : Int32, x16 = (nI (bm (Pf 1 t l m (σ (rc r 1)) i n 0) o) ||| nI 0) → (K (nI l, nI m, nI r, nI i, nI n, x16, (nI o + (nI 1)), τ13))) ∧ (¬ r14 = (nI 0) → ∀ x16 : Int32, x16 = (nI (bm (Pf 1 t l m (σ (rc r 1)) i n 0) o) ||| ((nI 1) <<< (nI o &&& 31))) → (K (nI l, nI m, nI r, nI i, nI n, x16, (nI o + (nI 1)), τ13))))) := by
          intro χ x1 x2 x3
          refine M_isSo (hb := nob) x1 x2 hI' (by rw [x3]; exact HB_0) (by omega) hr (by rw [cht_2 (by omega)]; exact hm) hi hru (fun ψ y1 y2 y3 => ?_)
          have nx := fun (y : Int32) (e : y = nI (bm (Pf 1 t l m (σ (rc r 1)) i n 0) (o + 1))) => hK (nI l, nI m, nI r, nI i, nI n, y, nI (o + 1), ψ) ⟨ψ, by omega, by rw [e], y1, by rw [y2, x3], y3⟩
          have hP : Pf 1 t l m (σ (rc r 1)) i n 0 o = ft (cht 1 t l o) nob m (σ (rc r 1)) i n := by unfold Pf; simp [show 0 ≤ o by omega]
          rw [nI_add, nI_shl (by omega), nI_or hlt, show nI (bm (Pf 1 t l m (σ (rc r 1)) i n 0) o) ||| nI 0 = nI (bm (Pf 1 t l m (σ (rc r 1)) i n 0) o) from Int32.or_zero]
          cases hft : ft (cht 1 t l o) nob m (σ (rc r 1)) i n
          · refine z_t (fun x ex => ?_)
            rw [ex]
            refine nx _ ?_
            rw [bm, hP, hft]; rfl
          · refine o_t (fun x ex => ?_)
            rw [ex]
            refine nx _ ?_
            rw [bm, hP, hft]; rfl
        refine ⟨fun z => absurd z (by omega), fun _ => M_sendTo hMw (by omega) (fun χ x1 x2 => fin χ (k1.s x2) x1 (by rw [x2 276 (by omega)]; exact k2))⟩
    exact ⟨fun z => absurd rfl z, fun _ => ⟨fun _ => ⟨fun z => absurd rfl z, fun _ => key⟩, fun z => absurd z (by omega)⟩⟩

theorem eq_weights {a0 a1 a2 a3 a4 : Int32} (h : Rel σ) : wp_X4_weights a0 a1 a2 a3 a4 σ (fun r τ => wp_X5_weights a0 a1 a2 a3 a4 τ (fun r' τ' => r = r' ∧ Rel τ')) := by
  unfold wp_X4_weights wp_X4_fitting
  obtain ⟨t, ht⟩ := h.2.2.2.2.2.1
  obtain ⟨b2, b3, b4⟩ := ht.b
  have m3 := ht.2.1 3 (by omega)
  by_cases hr0 : ¬ ∃ a, a < t 3 ∧ a0 = nI a
  · exact C_lvF ht.1.1.2.1 (by omega) hr0 (z_t' (M_lvF m3 (by omega) hr0 (z_t ⟨fun z => absurd z (by decide), fun _ => ⟨rfl, h⟩⟩)))
  obtain ⟨l, hl, rfl⟩ := Classical.not_not.mp hr0
  refine C_lvT ht.1.1.2.1 (by omega) hl (o_t' ?_)
  rcases told h ht a1 a2 a3 a4 with ⟨p1, p2⟩ | ⟨v, hv, p1, p2⟩ | ⟨m, r, i, n, rfl, rfl, rfl, rfl, hm, hr, hn1, hn, hi, hit, p1, p2⟩
  · exact p1 _ ⟨fun z => absurd z (by decide), fun _ => M_lvT m3 (by omega) hl (o_t (p2 _ ⟨fun z => absurd z (by decide), fun _ => ⟨rfl, h⟩⟩))⟩
  · have nv : ¬ (-1000010 : Int32) - nI v = nI 0 ∧ ¬ nI 0 ≤ (-1000010 : Int32) - nI v := by
      rcases (show v = 0 ∨ v = 1 ∨ v = 2 by omega) with rfl | rfl | rfl <;> decide
    exact p1 _ ⟨fun z => absurd z nv.1, fun _ => M_lvT (n := t 3) (by rw [up_ne (by omega)]; exact m3) (by omega) hl (o_t (p2 _ ⟨fun z => absurd z nv.2, fun _ => ⟨rfl, h.find⟩⟩))⟩
  · obtain ⟨hI, hth⟩ := b4 (by omega)
    obtain ⟨i1, i2, i3, i4, i5, i6, i7, i8, i9⟩ := hI.1.b
    refine p1 _ (z_t ?_)
    have ht9 := ht.u9 (v := nI 0)
    unfold w_X4_fitting_42 w_X4_fitting_71
    rw [ht9.1.1.1, nI_inj (by omega) (by omega), nI_inj (by omega) (by omega), nI_sub (by omega)]
    have key : w_X4_fitting_80 (fun r2 τ1 => wp_X5_weights (nI l) (nI m) (nI r) (nI i) (nI n) τ1 (fun r' τ' => r2 = r' ∧ Rel τ')) (nI 2) (nI l) (nI m) (nI r) (nI i) (nI n) (nI 9) (nI 0) (nI 1) (up σ 252 9 (nI 0)) := by
      refine C_fit ht9 hI hl hm hr hn hi (by omega) (by omega) (fun o q1 q2 => by omega) (fun υ hf => ?_)
      have er : up σ 252 9 (nI 0) (rc r 1) = σ (rc r 1) := up_ne (by unfold rc; omega)
      rw [er]
      have uc : ∀ c, c ≠ 252 → (c < 9 ∨ 18 ≤ c) → υ c = σ c := fun c q1 q2 => by rw [hf c (fun j hj => by unfold tc; omega), up_ne q1]
      have u252 : υ 252 = up σ 252 9 (nI 0) 252 := hf 252 (fun j hj => by unfold tc; omega)
      refine M_lvT (n := t 3) (by rw [uc 280 (by omega) (by omega)]; exact m3) (by omega) hl (o_t (p2 υ _ (uc 280 (by omega) (by omega)) (uc 278 (by omega) (by omega)) ⟨fun _ => M_aside (fun ω0 z1 z2 z3 => ?_), fun z => absurd (Int32.le_refl _) z⟩))
      unfold w_X5_weights_43
      have hMu : MA (υ 280) t := by rw [uc 280 (by omega) (by omega)]; exact ht.2.1
      have hru : ∀ j, j < 40 → υ 279 (40 * r + j) = σ (rc r 1) j := fun j hj => by rw [uc 279 (by omega) (by omega)]; exact hit j hj
      refine for_up (α := Int32 × Int32 × Int32 × Int32 × Int32 × Int32 × Int32 × PI) (9 + 1) (fun o s => ∃ ω, 1 ≤ o ∧ s = (nI l, nI m, nI r, nI i, nI n, nI (bm (Pf 2 t l m (σ (rc r 1)) i n 1) o), nI o, ω) ∧ MZ υ ω ∧ ω 276 6 = nI 0 ∧ ∀ j, j < 70 → ω 280 j = υ 280 j) ?_ ?_ 1 _ (by omega) ⟨ω0, Nat.le_refl _, by rw [Pf_lo], z1, by rw [z2, uc 276 (by omega) (by omega)]; exact ht.2.2.2.1, fun j _ => by rw [z3]⟩
      · rintro K s ⟨ω, h1, rfl, k1, k2, k3⟩
        show B_X5_weights_43 K _ (nI l) (nI m) (nI r) (nI i) (nI n) (nI (bm (Pf 2 t l m (σ (rc r 1)) i n 1) (9 + 1))) (nI (9 + 1)) ω
        unfold B_X5_weights_43
        rw [nI_le' (by omega) (by omega)]
        refine ⟨fun _ χ ec => ⟨rfl, h.told ht uc (fun f hf => by rw [u252, up_k hf]) (by rw [u252, up_s]) k1 k2 k3 ec⟩, fun z => absurd (by omega) z⟩
      · rintro K o s ho ⟨ω, h1, rfl, k1, k2, k3⟩ hK
        show B_X5_weights_43 K _ (nI l) (nI m) (nI r) (nI i) (nI n) (nI (bm (Pf 2 t l m (σ (rc r 1)) i n 1) o)) (nI o) ω
        unfold B_X5_weights_43 w_X5_weights_88
        have hlt := bm_lt (Pf 2 t l m (σ (rc r 1)) i n 1) o
        have hI' : Iv 999 (cht 2 t l o) := cht_iv hI (by omega) (by omega)
        have hMw : MA (ω 280) t := fun j hj => by rw [k3 j hj]; exact hMu j hj
        rw [nI_le' (by omega) (by omega)]
        have fin : ∀ χ, MZ υ χ → MA (χ 280) (cht 2 t l o) → χ 276 6 = nI 0 → wp_X5_isSo (nI m) (nI 40 * nI r + nI i) (nI n) χ (fun r14 τ13 => ((r14 = (nI 0) → ∀ x16 : Int32, x16 = (nI (bm (Pf 2 t l m (σ (rc r 1)) i n 1) o) ||| nI 0) → (K (nI l, nI m, nI r, nI i, nI n, x16, (nI o + (nI 1)), τ13))) ∧ (¬ r14 = (nI 0) → ∀ x16 : Int32, x16 = (nI (bm (Pf 2 t l m (σ (rc r 1)) i n 1) o) ||| ((nI 1) <<< (nI o &&& 31))) → (K (nI l, nI m, nI r, nI i, nI n, x16, (nI o + (nI 1)), τ13))))) := by
          intro χ x1 x2 x3
          refine M_isSo (hb := nob) x1 x2 hI' (by rw [x3]; exact HB_0) (by omega) hr (by rw [cht_2 (by omega)]; exact hm) hi hru (fun ψ y1 y2 y3 => ?_)
          have nx := fun (y : Int32) (e : y = nI (bm (Pf 2 t l m (σ (rc r 1)) i n 1) (o + 1))) => hK (nI l, nI m, nI r, nI i, nI n, y, nI (o + 1), ψ) ⟨ψ, by omega, by rw [e], y1, by rw [y2, x3], y3⟩
          have hP : Pf 2 t l m (σ (rc r 1)) i n 1 o = ft (cht 2 t l o) nob m (σ (rc r 1)) i n := by unfold Pf; simp [show 1 ≤ o by omega]
          rw [nI_add, nI_shl (by omega), nI_or hlt, show nI (bm (Pf 2 t l m (σ (rc r 1)) i n 1) o) ||| nI 0 = nI (bm (Pf 2 t l m (σ (rc r 1)) i n 1) o) from Int32.or_zero]
          cases hft : ft (cht 2 t l o) nob m (σ (rc r 1)) i n
          · refine z_t (fun x ex => ?_)
            rw [ex]
            refine nx _ ?_
            rw [bm, hP, hft]; rfl
          · refine o_t (fun x ex => ?_)
            rw [ex]
            refine nx _ ?_
            rw [bm, hP, hft]; rfl
        rw [nI_add 28 l, nI_cl (a := 28 + l) (by omega)]
        refine ⟨fun z => absurd z (by omega), fun _ => ⟨vpN (by omega) (by omega), fun χ ec => fin χ (k1.s (fun c hc => by rw [ec, up_ne hc])) (by rw [ec, up_self]; exact hMw.up) (by rw [ec, up_ne (by omega)]; exact k2)⟩⟩
    exact ⟨fun _ => ⟨fun _ => ⟨fun _ => key, fun z => absurd z (by omega)⟩, fun z => absurd z (by omega)⟩, fun z => absurd z (by omega)⟩
end WH
