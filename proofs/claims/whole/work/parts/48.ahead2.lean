section FU
variable {σ τ υ : PI} {t : Nat → Nat}
theorem eq_reach {a0 a1 : Int32} (h : Rel σ) : wp_X4_reach a0 a1 σ (fun r τ => wp_X5_reach a0 a1 τ (fun r' τ' => r = r' ∧ Rel τ')) := by
  unfold wp_X4_reach
  obtain ⟨t, ht⟩ := h.2.2.2.2.2.1
  obtain ⟨b2, b3, b4⟩ := ht.b
  have m2 := ht.2.1 2 (by omega)
  by_cases hr0 : ¬ ∃ a, a < t 2 ∧ a0 = nI a
  · exact C_manF ht.1.1.1 (by omega) hr0 (z_t (M_manF m2 (by omega) hr0 (z_t ⟨rfl, h⟩)))
  obtain ⟨a, ha, rfl⟩ := Classical.not_not.mp hr0
  refine C_manT ht.1.1.1 (by omega) ha (o_t ?_)
  by_cases hs0 : ¬ ∃ a, 1 ≤ a ∧ a ≤ 99 ∧ a1 = nI a
  · exact C_wf (by omega) (by omega) hs0 (z_t' (M_manT m2 (by omega) ha (o_t (M_if (by omega) (by omega) hs0 (z_t' ⟨rfl, h⟩)))))
  obtain ⟨v, hv1, hv, rfl⟩ := Classical.not_not.mp hs0
  obtain ⟨hI, hth⟩ := b4 (by omega)
  obtain ⟨p, hp⟩ : ∃ p : Nat → Bool, p = fun n => decide (v ≤ dys t nob n (6 + a)) := ⟨_, rfl⟩
  have hfe : ∀ i, i ≤ 61 → dys t nob i (6 + a) ≤ 99 := fun i hi => ((dys_iv hI i (by omega)).2.1 a (by rw [dys_2]; exact ha)).1
  refine C_wt hv1 hv (by omega) (o_t' (C_try ht (fun τ f1 f2 f3 => ?_)))
  have key : ∀ Q : Int32 → PI → Prop, (∀ υ, Fr 1 σ υ → Q (lst p 0 61) υ) → w_X4_reach_34 Q (nI a) (nI v) (nI 0) τ := by
    intro Q hQ
    unfold w_X4_reach_34
    refine for_h3 61 (fun _ => nI a) (fun _ => nI v) (fun i => nI i) (fun i υ => TA υ 1 (dys t nob i) ∧ υ (tc 1 0) 14 = nI 0 ∧ Fr 1 σ υ ∧ lst p 0 61 = lst p i (61 - i)) ?_ ?_ 0 _ (by omega) ⟨f1, f2, f3, rfl⟩
    · rintro K υ ⟨g1, g2, g3, g4⟩
      show B_X4_reach_34 K Q (nI a) (nI v) (nI 61) υ
      unfold B_X4_reach_34
      rw [nI_lt' (by omega) (by omega)]
      have := hQ υ g3
      rw [g4] at this
      exact ⟨fun _ => this, fun z => absurd (show 60 < 61 by omega) z⟩
    · rintro K i υ hi ⟨g1, g2, g3, g4⟩ hK
      show B_X4_reach_34 K Q (nI a) (nI v) (nI i) υ
      unfold B_X4_reach_34
      have hf := hfe i (by omega)
      rw [nI_lt' (by omega) (by omega), nI_cl (a := a) (by omega), (g1.2.1 a (by rw [dys_2]; exact ha)).1, nI_lt' (by omega) (by omega), nI_add]
      rw [show 61 - i = (61 - (i + 1)) + 1 by omega] at g4
      refine ⟨fun z => absurd z (by omega), fun _ => ⟨vpN (by omega) (by omega), fun q => T_passDay (hb := nob) g1 (dys_iv hI i (by omega)) (by rw [g2]; exact HB_0) (fun ω w1 w2 w3 => hK ω ⟨w1, by rw [w2]; exact g2, g3.tr w3, ?_⟩), fun q => ?_⟩⟩
      · rw [g4, lst, hp]
        simp [show ¬ v ≤ dys t nob i (6 + a) by omega]
      · have := hQ υ g3
        rw [g4, lst, if_pos (by rw [hp]; simp; omega)] at this
        exact this
  refine key _ (fun υ hf => ?_)
  have hR := h.fr hf
  have htu := ht.fr hf
  refine M_manT (n := t 2) (htu.2.1 2 (by omega)) (by omega) ha (o_t (M_it hv1 hv (by omega) (o_t' (M_aside (fun ω0 z1 z2 z3 => ?_)))))
  have v6 : vp_in (nI 6 + nI a) 70 := by rw [nI_add]; exact vpN (by omega) (by omega)
  have c6 : (nI 6 + nI a).toNatClampNeg = 6 + a := by rw [nI_add, nI_cl (by omega)]
  have fin : ∀ (i : Nat) (ω : PI), i ≤ 60 → MZ υ ω → ω 276 6 = nI 0 → MA (ω 280) (dys t nob i) → (p i = true → lst p 0 61 = nI i) → (p i = false → lst p 0 61 = -1000000) → w_X5_reach_58 (fun r' τ' => lst p 0 61 = r' ∧ Rel τ') (nI a) (nI v) (nI i) ω := by
    intro i ω hi k1 k2 k3 k4 k5
    unfold w_X5_reach_58 w_X5_reach_76
    have hf := hfe i (by omega)
    rw [c6, k3 _ (by omega), nI_lt' (by omega) (by omega)]
    refine ⟨v6, fun q => M_end hR htu k1 k2 (fun ψ hr => z_t ⟨k5 (by rw [hp]; simp; omega), hr⟩), fun q => M_end hR htu k1 k2 (fun ψ hr => o_t ⟨k4 (by rw [hp]; simp; omega), hr⟩)⟩
  unfold w_X5_reach_29
  refine for_h3 60 (fun _ => nI a) (fun _ => nI v) (fun i => nI i) (fun i ω => MZ υ ω ∧ ω 276 6 = nI 0 ∧ MA (ω 280) (dys t nob i) ∧ lst p 0 61 = lst p i (61 - i)) ?_ ?_ 0 _ (by omega) ⟨z1, by rw [z2, htu.2.2.2.1], by rw [z3]; exact htu.2.1, rfl⟩
  · rintro K ω ⟨g1, g2, g3, g4⟩
    show B_X5_reach_29 K _ (nI a) (nI v) (nI 60) ω
    unfold B_X5_reach_29
    have f60 := fin 60 ω (by omega) g1 g2 g3 (fun q => by rw [g4, lst, if_pos q]) (fun q => by rw [g4, lst, if_neg (by rw [q]; decide)]; rfl)
    exact ⟨v6, fun _ => f60, fun _ => ⟨fun _ => f60, fun z => absurd (Int32.le_refl _) z⟩⟩
  · rintro K i ω hi ⟨g1, g2, g3, g4⟩ hK
    show B_X5_reach_29 K _ (nI a) (nI v) (nI i) ω
    unfold B_X5_reach_29
    have hf := hfe i (by omega)
    rw [c6, g3 _ (by omega), nI_le' (by omega) (by omega), nI_le' (by omega) (by omega), nI_add i 1]
    rw [show 61 - i = (61 - (i + 1)) + 1 by omega] at g4
    refine ⟨v6, fun q => fin i ω (by omega) g1 g2 g3 (fun q2 => by rw [g4, lst, if_pos q2]) (fun q2 => by rw [hp] at q2; simp at q2; omega), fun q => ⟨fun z => absurd z (by omega), fun _ => M_oneDay (hb := nob) g3 (dys_iv hI i (by omega)) (by rw [g2]; exact HB_0) (fun χ x1 x2 x3 => hK χ ⟨g1.fm x3, by rw [x3.2 6 (by omega)]; exact g2, x1, ?_⟩)⟩⟩
    rw [g4, lst, hp]
    simp [q]
theorem us_bit {N : Nat} {hb : Nat → Bool} (hI : Iv N t) {m : Nat} (hm : m < t 2) : us t hb / 2 ^ m % 2 = (if ud t hb m then 1 else 0) ∧ us t hb < 32 := ⟨bm_bit _ _ _ hm, bm_le _ hI.1.2.1⟩
theorem eq_usual {a0 a1 : Int32} (h : Rel σ) : wp_X4_usual a0 a1 σ (fun r τ => wp_X5_usual a0 a1 τ (fun r' τ' => r = r' ∧ Rel τ')) := by
  unfold wp_X4_usual
  obtain ⟨t, ht⟩ := h.2.2.2.2.2.1
  obtain ⟨b2, b3, b4⟩ := ht.b
  have m2 := ht.2.1 2 (by omega)
  by_cases hr0 : ¬ ∃ a, a < t 2 ∧ a0 = nI a
  · exact C_manF ht.1.1.1 (by omega) hr0 (z_t (M_manF m2 (by omega) hr0 (z_t ⟨rfl, h⟩)))
  obtain ⟨a, ha, rfl⟩ := Classical.not_not.mp hr0
  refine C_manT ht.1.1.1 (by omega) ha (o_t ?_)
  by_cases hs0 : ¬ ∃ a, 1 ≤ a ∧ a ≤ 60 ∧ a1 = nI a
  · exact C_wf (by omega) (by omega) hs0 (z_t' (M_manT m2 (by omega) ha (o_t (M_if (by omega) (by omega) hs0 (z_t' ⟨rfl, h⟩)))))
  obtain ⟨n, hn1, hn, rfl⟩ := Classical.not_not.mp hs0
  obtain ⟨hI, hth⟩ := b4 (by omega)
  obtain ⟨g, hg⟩ : ∃ g : Nat → Nat, g = sm (fun i => if ud (dys t nob i) nob a then 1 else 0) := ⟨_, rfl⟩
  have gs : ∀ i, g (i + 1) = g i + if ud (dys t nob i) nob a then 1 else 0 := fun i => by rw [hg]; rfl
  have g0 : g 0 = 0 := by rw [hg]; rfl
  refine C_wt hn1 hn (by omega) (o_t' (C_try ht (fun τ f1 f2 f3 => ?_)))
  have key : ∀ Q : Int32 → PI → Prop, (∀ υ, Fr 1 σ υ → Q (nI (g n)) υ) → w_X4_usual_37 Q (nI a) (nI n) (nI 0) (nI 0) τ := by
    intro Q hQ
    unfold w_X4_usual_37
    refine for_up (α := Int32 × Int32 × Int32 × Int32 × PI) n (fun i s => ∃ υ, s = (nI a, nI n, nI (g i), nI i, υ) ∧ TA υ 1 (dys t nob i) ∧ υ (tc 1 0) 14 = nI 0 ∧ Fr 1 σ υ) ?_ ?_ 0 _ (by omega) ⟨τ, by rw [g0], f1, f2, f3⟩
    · rintro K s ⟨υ, rfl, k1, k2, k3⟩
      show B_X4_usual_37 K Q (nI a) (nI n) (nI (g n)) (nI n) υ
      unfold B_X4_usual_37
      exact ⟨fun _ => hQ υ k3, fun z => absurd (Int32.le_refl _) z⟩
    · rintro K i s hi ⟨υ, rfl, k1, k2, k3⟩ hK
      show B_X4_usual_37 K Q (nI a) (nI n) (nI (g i)) (nI i) υ
      unfold B_X4_usual_37
      have hIi := dys_iv (hb := nob) hI i (by omega)
      obtain ⟨u1, u2⟩ := us_bit (hb := nob) hIi (m := a) (by rw [dys_2]; exact ha)
      rw [nI_le' (by omega) (by omega)]
      refine ⟨fun z => absurd z (by omega), fun _ => T_passDay (hb := nob) k1 hIi (by rw [k2]; exact HB_0) (fun ω w1 w2 w3 => C_bit u2 (by omega) (fun x ex => ?_))⟩
      rw [ex, u1, nI_add, nI_add]
      exact hK _ ⟨ω, by rw [gs], w1, by rw [w2]; exact k2, k3.tr w3⟩
  refine key _ (fun υ hf => ?_)
  have hR := h.fr hf
  have htu := ht.fr hf
  refine M_manT (n := t 2) (htu.2.1 2 (by omega)) (by omega) ha (o_t (M_it hn1 hn (by omega) (o_t' (M_aside (fun ω0 z1 z2 z3 => ?_)))))
  unfold w_X5_usual_32
  refine for_up (α := Int32 × Int32 × Int32 × Int32 × PI) n (fun i s => ∃ ω, s = (nI a, nI n, nI (g i), nI i, ω) ∧ MZ υ ω ∧ ω 276 6 = nI 0 ∧ MA (ω 280) (dys t nob i)) ?_ ?_ 0 _ (by omega) ⟨ω0, by rw [g0], z1, by rw [z2, htu.2.2.2.1], by rw [z3]; exact htu.2.1⟩
  · rintro K s ⟨ω, rfl, k1, k2, k3⟩
    show B_X5_usual_32 K _ (nI a) (nI n) (nI (g n)) (nI n) ω
    unfold B_X5_usual_32
    exact ⟨fun _ => M_end hR htu k1 k2 (fun ψ hr => ⟨rfl, hr⟩), fun z => absurd (Int32.le_refl _) z⟩
  · rintro K i s hi ⟨ω, rfl, k1, k2, k3⟩ hK
    show B_X5_usual_32 K _ (nI a) (nI n) (nI (g i)) (nI i) ω
    unfold B_X5_usual_32 w_X5_usual_59
    have hIi := dys_iv (hb := nob) hI i (by omega)
    obtain ⟨u1, u2⟩ := us_bit (hb := nob) hIi (m := a) (by rw [dys_2]; exact ha)
    rw [nI_le' (by omega) (by omega), nI_add i 1]
    refine ⟨fun z => absurd z (by omega), fun _ => M_oneDay (hb := nob) k3 hIi (by rw [k2]; exact HB_0) (fun χ x1 x2 x3 => ?_)⟩
    rw [x2]
    refine M_bit u2 (by omega) ?_
    rw [u1]
    have nx := hK (nI a, nI n, nI (g i + if ud (dys t nob i) nob a then 1 else 0), nI (i + 1), χ) ⟨χ, by rw [gs], k1.fm x3, by rw [x3.2 6 (by omega)]; exact k2, x1⟩
    cases hu : ud (dys t nob i) nob a
    · rw [hu] at nx
      refine z_t (fun x ex => ?_)
      rw [ex, nI_add]; exact nx
    · rw [hu] at nx
      refine o_t (fun x ex => ?_)
      rw [ex, nI_add]; exact nx
theorem snd_2 {l h0 : Nat} : snd t l h0 2 = t 2 := by unfold snd; rw [if_neg (by omega), if_neg (by omega)]
theorem snd_3 {l h0 : Nat} : snd t l h0 3 = t 3 := by unfold snd; rw [if_neg (by omega), if_neg (by omega)]
/-- all men together -/
def fl (t : Nat → Nat) : Nat := sm (fun i => t (6 + i)) (t 2)
theorem fl_le {N : Nat} (hI : Iv N t) : fl t ≤ 495 := by
  have h1 : fl t ≤ t 2 * 99 := sm_le _ (fun i hi => (hI.2.1 i hi).1)
  have h2 := hI.1.2.1
  have : t 2 * 99 ≤ 5 * 99 := Nat.mul_le_mul_right _ h2
  omega
/-- the best of the first i houses -/
def bs (g : Nat → Int32) : Nat → Int32 × Int32
  | 0 => (nI 0, -1)
  | i + 1 => if g i ≤ (bs g i).2 then bs g i else (nI i, g i)
theorem eq_bestHouse {a0 a1 a2 : Int32} (h : Rel σ) : wp_X4_bestHouse a0 a1 a2 σ (fun r τ => wp_X5_bestHouse a0 a1 a2 τ (fun r' τ' => r = r' ∧ Rel τ')) := by
  unfold wp_X4_bestHouse
  obtain ⟨t, ht⟩ := h.2.2.2.2.2.1
  obtain ⟨b2, b3, b4⟩ := ht.b
  have m3 := ht.2.1 3 (by omega)
  by_cases hr0 : ¬ ∃ a, a < t 3 ∧ a0 = nI a
  · exact C_lvF ht.1.1.2.1 (by omega) hr0 (z_t (M_lvF m3 (by omega) hr0 (z_t ⟨rfl, h⟩)))
  obtain ⟨l, hl, rfl⟩ := Classical.not_not.mp hr0
  refine C_lvT ht.1.1.2.1 (by omega) hl (o_t ?_)
  by_cases hs0 : ¬ ∃ a, 1 ≤ a ∧ a ≤ 60 ∧ a1 = nI a
  · exact C_wf (by omega) (by omega) hs0 (z_t (M_lvT m3 (by omega) hl (o_t (M_if (by omega) (by omega) hs0 (z_t ⟨rfl, h⟩)))))
  obtain ⟨n, hn1, hn, rfl⟩ := Classical.not_not.mp hs0
  refine C_wt hn1 hn (by omega) (o_t ?_)
  by_cases hw0 : ¬ ∃ a, a < 2 ∧ a2 = nI a
  · exact C_bitF hw0 (z_t' (M_lvT m3 (by omega) hl (o_t (M_it hn1 hn (by omega) (o_t (M_whF hw0 (z_t' ⟨rfl, h⟩)))))))
  obtain ⟨w, hw, rfl⟩ := Classical.not_not.mp hw0
  refine C_bitT hw (o_t' ?_)
  obtain ⟨hI, hth⟩ := b4 (by omega)
  obtain ⟨i1, i2, i3, i4, i5, i6, i7, i8, i9⟩ := hI.1.b
  obtain ⟨g, hg⟩ : ∃ g : Nat → Int32, g = fun i => nI (fl (dys (snd t l i) nob n)) := ⟨_, rfl⟩
  have key : ∀ Q : Int32 → PI → Prop, (∀ υ, Fr 1 σ υ → Q (if w = 0 then (bs g (t 2)).1 else (bs g (t 2)).2) υ) → w_X4_bestHouse_37 Q (nI l) (nI n) (nI w) (nI 0) (-1) (nI 0) σ := by
    intro Q hQ
    unfold w_X4_bestHouse_37
    refine for_up (α := Int32 × Int32 × Int32 × Int32 × Int32 × Int32 × PI) (t 2) (fun i s => ∃ υ, s = (nI l, nI n, nI w, (bs g i).1, (bs g i).2, nI i, υ) ∧ Fr 1 σ υ) ?_ ?_ 0 _ (by omega) ⟨σ, rfl, Fr.rf⟩
    · rintro K s ⟨υ, rfl, k3⟩
      show B_X4_bestHouse_37 K Q (nI l) (nI n) (nI w) (bs g (t 2)).1 (bs g (t 2)).2 (nI (t 2)) υ
      unfold B_X4_bestHouse_37
      have := hQ υ k3
      rw [k3.o (k' := 0) (by omega) (j := 0) (by omega), ht.1.1.1, nI_inj (by omega) (by omega)]
      refine ⟨fun _ => ⟨fun q => ?_, fun q => ?_⟩, fun z => absurd (Int32.le_refl _) z⟩
      · rw [if_neg q] at this; exact this
      · rw [if_pos q] at this; exact this
    · rintro K i s hi ⟨υ, rfl, k3⟩ hK
      show B_X4_bestHouse_37 K Q (nI l) (nI n) (nI w) (bs g i).1 (bs g i).2 (nI i) υ
      unfold B_X4_bestHouse_37 w_X4_bestHouse_102
      have htu := ht.fr k3
      have hIs := snd_iv (l := l) (h0 := i) hI (by omega) hi
      rw [k3.o (k' := 0) (by omega) (j := 0) (by omega), ht.1.1.1, nI_le' (by omega) (by omega), nI_add]
      refine ⟨fun z => absurd z (by omega), fun _ => C_try htu (fun ω w1 w2 w3 => T_sendTo w1 (by omega) (by omega) b2 b3 (fun χ x1 x2 x3 => T_passDays (hb := nob) x1 hIs (by rw [x2, w2]; exact HB_0) (by omega) (fun ψ y1 y2 y3 => T_felt y1 (by rw [dys_2, snd_2]; exact i2) ?_)))⟩
      have hfr := k3.tr (w3.tr (x3.tr y3))
      have nx : ∀ x y : Int32, (x, y) = bs g (i + 1) → K (nI l, nI n, nI w, x, y, nI (i + 1), ψ) := fun x y e => hK _ ⟨ψ, by rw [← e], hfr⟩
      have hgi : nI (sm (fun j => dys (snd t l i) nob n (6 + j)) (dys (snd t l i) nob n 2)) = g i := by rw [hg]; rfl
      rw [hgi]
      refine ⟨fun q => nx _ _ ?_, fun q => nx _ _ ?_⟩
      · rw [bs, if_pos q]
      · rw [bs, if_neg q]
  refine key _ (fun υ hf => ?_)
  have hR := h.fr hf
  have htu := ht.fr hf
  refine M_lvT (n := t 3) (htu.2.1 3 (by omega)) (by omega) hl (o_t (M_it hn1 hn (by omega) (o_t (M_whT hw (o_t' (M_aside (fun ω0 z1 z2 z3 => ?_)))))))
  unfold w_X5_bestHouse_43
  refine for_up (α := Int32 × Int32 × Int32 × Int32 × Int32 × Int32 × PI) (t 2) (fun i s => ∃ ω, s = (nI l, nI n, nI w, (bs g i).1, (bs g i).2, nI i, ω) ∧ MZ υ ω ∧ ω 276 6 = nI 0 ∧ ∀ j, j < 70 → ω 280 j = υ 280 j) ?_ ?_ 0 _ (by omega) ⟨ω0, rfl, z1, by rw [z2, htu.2.2.2.1], fun j _ => by rw [z3]⟩
  · rintro K s ⟨ω, rfl, k1, k2, k3⟩
    show B_X5_bestHouse_43 K _ (nI l) (nI n) (nI w) (bs g (t 2)).1 (bs g (t 2)).2 (nI (t 2)) ω
    unfold B_X5_bestHouse_43
    rw [k3 2 (by omega), htu.2.1 2 (by omega), nI_inj (by omega) (by omega)]
    have hRe : Rel ω := hR.k (k1.kq (by rw [k2, htu.2.2.2.1]) k3)
    exact ⟨fun _ => ⟨fun q => ⟨by rw [if_neg q], hRe⟩, fun q => ⟨by rw [if_pos q], hRe⟩⟩, fun z => absurd (Int32.le_refl _) z⟩
  · rintro K i s hi ⟨ω, rfl, k1, k2, k3⟩ hK
    show B_X5_bestHouse_43 K _ (nI l) (nI n) (nI w) (bs g i).1 (bs g i).2 (nI i) ω
    unfold B_X5_bestHouse_43 w_X5_bestHouse_82 w_X5_bestHouse_102
    have hIs := snd_iv (l := l) (h0 := i) hI (by omega) hi
    rw [k3 2 (by omega), htu.2.1 2 (by omega), nI_le' (by omega) (by omega), nI_add]
    refine ⟨fun z => absurd z (by omega), fun _ => M_sendTo (t := t) (fun j hj => by rw [k3 j hj]; exact htu.2.1 j hj) (by omega) (fun χ x1 x2 => M_goOn (hb := nob) x1 hIs (by rw [x2 276 (by omega), k2]; exact HB_0) (by omega) (fun ψ y1 y2 => M_allFeel y1 (by rw [dys_2, snd_2]; exact i2) ?_))⟩
    have hz := (k1.s x2).fm y2
    have h6 : ψ 276 6 = nI 0 := by rw [y2.2 6 (by omega), x2 276 (by omega), k2]
    have hgi : nI (sm (fun j => dys (snd t l i) nob n (6 + j)) (dys (snd t l i) nob n 2)) = g i := by rw [hg]; rfl
    have nx : ∀ x y : Int32, (x, y) = bs g (i + 1) → wp_X5_takeBack ψ (fun τ23 => K (nI l, nI n, nI w, x, y, nI (i + 1), τ23)) := fun x y e => M_back hz (fun ξ e1 e2 e3 => hK _ ⟨ξ, by rw [← e], e1, by rw [e2]; exact h6, e3⟩)
    have hfe : ∀ Q : Int32 → PI → Prop, Q (g i) ψ → wp_X5_allFeel ψ Q := fun Q hQ => M_allFeel y1 (by rw [dys_2, snd_2]; exact i2) (by rw [hgi]; exact hQ)
    rw [hgi]
    refine ⟨fun q => hfe _ ⟨fun _ => nx _ _ ?_, fun z => absurd q z⟩, fun q => hfe _ ⟨fun z => absurd z q, fun _ => hfe _ (nx _ _ ?_)⟩⟩
    · rw [bs, if_pos q]
    · rw [bs, if_neg q]
end FU
