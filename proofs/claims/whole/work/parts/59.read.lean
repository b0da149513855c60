/-! ===== both readers at work ===== -/
section RD
variable {n : Nat} {b : Nat → Nat} {σ τ υ ω : PI} {p : Nat} {t : Nat → Nat}
theorem kos_le : kos n b p ≤ 5 := by
  unfold kos
  repeat (first | omega | split)
theorem RF.rf : RF τ τ := ⟨fun _ _ _ => rfl, rfl⟩
theorem C_men {Q : Int32 → PI → Prop} (hs : CS n b τ p) (hci : CI τ t) (h2 : t 2 = 0) (h3 : t 3 = 0)
    (hb : ∀ f q, menS n b 6 0 p t = .inl (f, q) → ∀ υ, RF τ υ → FT υ f q → Q (nI 0) υ)
    (hg : ∀ q t', menS n b 6 0 p t = .inr (q, t') → 1 ≤ t' 2 → t' 2 ≤ 5 → t' 3 = 0 → ∀ υ, RF τ υ → CS n b υ q → CI υ t' → Q (nI 1) υ) : wp_X1_readMen 1 τ Q := by
  unfold wp_X1_readMen w_X1_readMen_2
  obtain ⟨S, hS⟩ : ∃ S, S = menS n b 6 0 p t := ⟨_, rfl⟩
  rw [← hS] at hb hg
  refine for_up (α := Int32 × PI) 6 (fun m s => ∃ p' t' υ, s = (nI m, υ) ∧ m ≤ 5 ∧ CS n b υ p' ∧ CI υ t' ∧ t' 2 = m ∧ t' 3 = 0 ∧ RF τ υ ∧ S = menS n b (6 - m) m p' t') ?_ ?_ 0 _ (by omega) ⟨p, t, τ, rfl, by omega, hs, hci, h2, h3, RF.rf, hS⟩
  · rintro K s ⟨p', t', υ, rfl, z, _⟩; omega
  · rintro K m s hm6 ⟨p', t', υ, rfl, hm, k1, k2, k3, k4, k5, k6⟩ hK
    show B_X1_readMen_2 1 K Q (nI m) υ
    unfold B_X1_readMen_2
    rw [nI_lt' (by omega) (by omega), nI_le' (by omega) (by omega), k1.2.2.2.2.2.2.1, ctk_c k1.bb (by omega) (by omega)]
    rw [show 6 - m = (5 - m) + 1 by omega, menS] at k6
    have w22 : (m = 0 ∨ isC n b p' 109 = true) → w_X1_readMen_22 1 K Q (nI m) υ := by
      intro hor
      rw [if_neg (fun z => by rcases hor with q | q; omega; rw [q] at z; exact absurd z.2 (by decide))] at k6
      unfold w_X1_readMen_22
      rw [nI_inj (by omega) (by omega)]
      refine ⟨fun q5 => ?_, fun q5 => ?_⟩
      · rw [if_neg q5] at k6
        refine C_man (t := ch t' 2 (m + 1)) k1 (by omega) (fun f q e ω w1 w2 => z_t' (hb f q ?_ ω (k5.tr w1) w2)) (fun q v1 v2 c1 e hv1 hv2 ω w1 w2 w3 => o_t' (fun τ8 e8 => ?_))
        · rw [k6]
          by_cases qc : isC n b p' 109 = true
          · rw [if_pos qc] at e ⊢; rw [e]; rfl
          · rw [if_neg qc] at e ⊢; exact e
        · have c8 : ω (tc 1 0) 8 = nI m := by
            rw [w1 _ (t1_ne (by omega)).1, up_ne (by rw [Ne, tc_iff (by omega) (by omega)]; omega), up_ne (by rw [Ne, tc_iff (by omega) (by omega)]; omega), k2.1.1.1, k3]
          rw [c8, nI_add] at e8
          rw [nI_add]
          have rw' : RF υ ω := ⟨fun c c1 c2 => by rw [w1 c c1, up_ne (c2 2 (by omega)), up_ne (c2 1 (by omega))], w2⟩
          refine hK _ ⟨q, _, τ8, rfl, by omega, w3.k (by rw [e8, up_ne (t1_ne (by omega)).1.symm]) (by rw [e8, up_ne (t1_ne (by omega)).2.symm]), CI.man k2 k3 k4 (by omega) hv1 hv2 (fun c c1 => by rw [e8]; exact up_fr w1 c c1), ?_, ?_, (k5.tr rw').tr ⟨fun c c1 c2 => by rw [e8, up_ne (c2 0 (by omega))], by rw [e8, up_ne (t1_ne (by omega)).1.symm]⟩, ?_⟩
          · rw [ch_n (by omega), ch_n (by omega), ch_e]
          · rw [ch_n (by omega), ch_n (by omega), ch_n (by omega), k4]
          · rw [k6, if_pos c1, e, show 6 - (m + 1) = 5 - m by omega]; rfl
      · rw [if_pos q5] at k6
        exact C_fail k1 (fun ω w1 w2 => ⟨bz0, hb 3 p' k6 ω (k5.tr w1.rf) w2⟩)
    refine ⟨fun z => absurd z (by omega), fun _ => ⟨fun q => w22 (Or.inl (by omega)), fun q => ⟨fun qc => w22 (Or.inr qc), fun qc => ?_⟩⟩⟩
    rw [if_pos ⟨by omega, by simpa using qc⟩] at k6
    exact hg p' t' k6 (by omega) (by omega) k4 υ k5 k1 k2
theorem C_levs {m : Nat} {Q : Int32 → PI → Prop} (hs : CS n b τ p) (hci : CI τ t) (h2 : t 2 = m) (hm1 : 1 ≤ m) (hm : m ≤ 5) (h3 : t 3 = 0)
    (hb : ∀ f q, levsS n b m 7 0 p t = .inl (f, q) → ∀ υ, RF τ υ → FT υ f q → Q (nI 0) υ)
    (hg : ∀ q t', levsS n b m 7 0 p t = .inr (q, t') → Iv 999 t' → ∀ υ, RF τ υ → CI υ t' → Q (nI 1) υ) : wp_X1_readLeavers 1 τ Q := by
  unfold wp_X1_readLeavers w_X1_readLeavers_2
  obtain ⟨S, hS⟩ : ∃ S, S = levsS n b m 7 0 p t := ⟨_, rfl⟩
  rw [← hS] at hb hg
  refine for_up (α := Int32 × PI) 7 (fun l s => ∃ p' t' υ, s = (nI l, υ) ∧ l ≤ 6 ∧ CS n b υ p' ∧ CI υ t' ∧ t' 2 = m ∧ t' 3 = l ∧ RF τ υ ∧ S = levsS n b m (7 - l) l p' t') ?_ ?_ 0 _ (by omega) ⟨p, t, τ, rfl, by omega, hs, hci, h2, h3, RF.rf, hS⟩
  · rintro K s ⟨p', t', υ, rfl, z, _⟩; omega
  · rintro K l s hl7 ⟨p', t', υ, rfl, hl, k1, k2, k3, k4, k5, k6⟩ hK
    show B_X1_readLeavers_2 1 K Q (nI l) υ
    unfold B_X1_readLeavers_2
    rw [nI_lt' (by omega) (by omega), nI_le' (by omega) (by omega), k1.2.2.2.2.2.2.1, ctk_e k1.bb]
    rw [show 7 - l = (6 - l) + 1 by omega, levsS] at k6
    have hk5 := kos_le (n := n) (b := b) (p := p')
    have w22 : (l = 0 ∨ ¬ n ≤ p') → w_X1_readLeavers_22 1 K Q (nI l) υ := by
      intro hor
      rw [if_neg (by omega)] at k6
      unfold w_X1_readLeavers_22
      refine C_kos k1 ?_
      rw [nI_inj (by omega) (by omega), nI_inj (by omega) (by omega)]
      refine ⟨fun qk => ⟨fun q6 => ?_, fun q6 => ?_⟩, fun qk => ?_⟩
      · rw [if_neg qk, if_neg q6] at k6
        refine C_lev (m := m) (t := ch (ch t' (16 + l) (kos n b p')) 3 (l + 1)) k1 (by omega) hm1 hm (by rw [k2.1.1.1, k3]) (fun f q e ω w1 w2 => z_t' (hb f q ?_ ω (k5.tr w1) w2)) (fun q v1 v2 v3 e hv1 hv2 hv2' hv3 ω w1 w2 w3 => o_t' (fun τ8 e8 => ?_))
        · rw [k6, e]; rfl
        · have c9 : ω (tc 1 0) 9 = nI l := by
            rw [w1 _ (t1_ne (by omega)).1, up_ne (by rw [Ne, tc_iff (by omega) (by omega)]; omega), up_ne (by rw [Ne, tc_iff (by omega) (by omega)]; omega), up_ne (by rw [Ne, tc_iff (by omega) (by omega)]; omega), up_ne (by rw [Ne, tc_iff (by omega) (by omega)]; omega), k2.1.1.2.1, k4]
          rw [c9, nI_add] at e8
          rw [nI_add]
          have rw' : RF υ ω := ⟨fun c c1 c2 => by rw [w1 c c1, up_ne (c2 6 (by omega)), up_ne (c2 5 (by omega)), up_ne (c2 4 (by omega)), up_ne (c2 3 (by omega))], w2⟩
          refine hK _ ⟨q, _, τ8, rfl, by omega, w3.k (by rw [e8, up_ne (t1_ne (by omega)).1.symm]) (by rw [e8, up_ne (t1_ne (by omega)).2.symm]), CI.lev k2 k3 k4 hm (by omega) (by omega) hk5 hv1 hv2 hv2' hv3 (fun c c1 => by rw [e8]; exact up_fr w1 c c1), ?_, ?_, (k5.tr rw').tr ⟨fun c c1 c2 => by rw [e8, up_ne (c2 0 (by omega))], by rw [e8, up_ne (t1_ne (by omega)).1.symm]⟩, ?_⟩
          · rw [ch_n (by omega), ch_n (by omega), ch_n (by omega), ch_n (by omega), ch_n (by omega), k3]
          · rw [ch_n (by omega), ch_n (by omega), ch_n (by omega), ch_e]
          · rw [k6, e, show 7 - (l + 1) = 6 - l by omega]; rfl
      · rw [if_neg qk, if_pos q6] at k6
        exact C_fail k1 (fun ω w1 w2 => ⟨bz0, hb 3 p' k6 ω (k5.tr w1.rf) w2⟩)
      · rw [if_pos qk] at k6
        exact C_fail k1 (fun ω w1 w2 => ⟨bz0, hb 1 p' k6 ω (k5.tr w1.rf) w2⟩)
    refine ⟨fun z => absurd z (by omega), fun _ => ⟨fun q => w22 (Or.inl (by omega)), fun q => ⟨fun qc => w22 (Or.inr qc), fun qc => ?_⟩⟩⟩
    rw [if_pos ⟨by omega, qc⟩] at k6
    exact hg p' t' k6 (k2.2.2.2.iv (by omega) (by omega) (by omega) (by omega)) υ k5 k2
theorem T_clear {Q : PI → Prop} (h : ∀ τ, τ (tc 1 0) 8 = nI 0 → τ (tc 1 0) 9 = nI 0 → τ (tc 1 0) 12 = nI 0 → τ (tc 1 0) 13 = nI 0 → τ (tc 1 0) 14 = nI 0 → (∀ j, j < 30 → τ (tc 1 7) j = nI 0) → (∀ c, c ≠ tc 1 0 → c ≠ tc 1 7 → τ c = σ c) → Q τ) : wp_X3_clear 1 σ Q := by
  unfold wp_X3_clear w_X3_clear_27
  intro τ1 e1 τ2 e2 τ3 e3 τ4 e4 τ5 e5
  have ne : tc 1 0 ≠ tc 1 7 := by rw [Ne, tc_iff (by omega) (by omega)]; omega
  refine for_up (α := Int32 × PI) 30 (fun i s => ∃ υ, s = (nI i, υ) ∧ (∀ c, c ≠ tc 1 7 → υ c = τ5 c) ∧ ∀ j, j < i → υ (tc 1 7) j = nI 0) ?_ ?_ 0 _ (by omega) ⟨τ5, rfl, fun _ _ => rfl, fun j hj => by omega⟩
  · rintro K s ⟨υ, rfl, g1, g2⟩
    show B_X3_clear_27 1 K Q (nI 30) υ
    unfold B_X3_clear_27
    refine ⟨fun _ => h υ ?_ ?_ ?_ ?_ ?_ g2 (fun c c0 c7 => by rw [g1 c c7, e5, up_ne c0, e4, up_ne c0, e3, up_ne c0, e2, up_ne c0, e1, up_ne c0]), fun z => absurd (Int32.le_refl _) z⟩
    · rw [g1 _ ne, e5, up_k (by omega), e4, up_k (by omega), e3, up_k (by omega), e2, up_k (by omega), e1, up_s]
    · rw [g1 _ ne, e5, up_k (by omega), e4, up_k (by omega), e3, up_k (by omega), e2, up_s]
    · rw [g1 _ ne, e5, up_k (by omega), e4, up_k (by omega), e3, up_s]
    · rw [g1 _ ne, e5, up_k (by omega), e4, up_s]
    · rw [g1 _ ne, e5, up_s]
  · rintro K i s hi ⟨υ, rfl, g1, g2⟩ hK
    show B_X3_clear_27 1 K Q (nI i) υ
    unfold B_X3_clear_27
    rw [nI_le' (by omega) (by omega), nI_cl (a := i) (by omega), nI_add]
    refine ⟨fun z => absurd z (by omega), fun _ => ⟨vpN (by omega) (by omega), fun τ8 e8 => hK _ ⟨τ8, rfl, fun c hc => by rw [e8, up_ne hc]; exact g1 c hc, fun j hj => ?_⟩⟩⟩
    rw [e8]
    by_cases z : j = i
    · subst z; rw [up_s]
    · rw [up_k z]; exact g2 j (by omega)
theorem C_read {Q : Int32 → PI → Prop} (hn : n ≤ 120) (e1 : σ 257 1 = nI n) (e8 : ∀ i, i < n → b i < 256 ∧ σ 258 i = nI (b i))
    (hb : ∀ f q, twnS n b = .inl (f, q) → ∀ υ, (∀ c, c ≠ 257 → (∀ j, j < 9 → c ≠ tc 1 j) → υ c = σ c) → υ 257 1 = nI 0 → FT υ f q → Q (nI 0) υ)
    (hg : ∀ q t, twnS n b = .inr (q, t) → Iv 999 t → ∀ υ, (∀ c, c ≠ 257 → (∀ j, j < 9 → c ≠ tc 1 j) → υ c = σ c) → υ 257 1 = nI 0 → TA υ 1 t → υ (tc 1 0) 14 = nI 0 → Q (nI 1) υ) : wp_X1_read 1 σ Q := by
  unfold wp_X1_read
  refine T_clear (fun τ1 z8 z9 z12 z13 z14 zz zc τ2 f2 => ?_)
  have k257 : τ1 257 = σ 257 := zc _ (t1_ne (by omega)).1.symm (t1_ne (by omega)).1.symm
  have k258 : τ1 258 = σ 258 := zc _ (t1_ne (by omega)).2.symm (t1_ne (by omega)).2.symm
  have c2 : ∀ c, c ≠ 257 → τ2 c = τ1 c := fun c hc => by rw [f2, up_ne hc]
  refine C_adv (p := 0) (b := b) hn (by omega) (by rw [f2, up_k (by omega), k257, e1]) (fun i hi => ⟨(e8 i hi).1, by rw [c2 _ (by omega), k258]; exact (e8 i hi).2⟩) (by rw [f2, up_s]) (fun τ3 u1 u2 => ?_)
  have r3 : RF σ τ3 := ⟨fun c c1 cj => by rw [u1.1 c c1, c2 c c1, zc c (cj 0 (by omega)) (cj 7 (by omega))], by rw [u1.2, f2, up_k (by omega), k257]⟩
  have bad : ∀ f q, twnS n b = .inl (f, q) → ∀ υ, RF σ υ → FT υ f q → w_X1_read_41 1 Q υ := by
    intro f q e υ h1 h2 τ13 f13
    refine ⟨bz0, hb f q e τ13 (fun c c1 cj => by rw [f13, up_ne c1]; exact h1.1 c c1 cj) (by rw [f13, up_s]) ⟨by rw [f13, up_k (by omega)]; exact h2.1, by rw [f13, up_k (by omega)]; exact h2.2⟩⟩
  unfold twnS at bad hg
  refine C_law (t := fun _ => 0) u2 (fun f q e υ h1 h2 => z_t (bad f q (by rw [e]; rfl) υ (r3.tr h1) h2)) (fun q v1 v2 e hv1 hv1' hv2 υ h1 h1' h2 => o_t ?_)
  have eb : ∀ X, restS n b 6 0 q (ch (ch (fun _ => 0) 0 v1) 1 v2) = X → bnd (lawS n b 0 (fun _ => 0)) (fun p t => restS n b 6 0 p t) = X := fun X h => by rw [e]; exact h
  have d0 : ch (ch (fun _ => 0) 0 v1) 1 v2 0 = v1 := by rw [ch_n (by omega), ch_e]
  have d1 : ch (ch (fun _ => 0) 0 v1) 1 v2 1 = v2 := by rw [ch_e]
  have dn : ∀ j, 2 ≤ j → ch (ch (fun _ => 0) 0 v1) 1 v2 j = 0 := fun j hj => by rw [ch_n (by omega), ch_n (by omega)]
  generalize ch (ch (fun _ => 0) 0 v1) 1 v2 = t1 at *
  have g0 : ∀ s, s ≠ 10 → s ≠ 11 → υ (tc 1 0) s = τ1 (tc 1 0) s := fun s s1 s2 => by rw [h1 _ (t1_ne (by omega)).1, up_k s2, up_k s1, u1.1 _ (t1_ne (by omega)).1, c2 _ (t1_ne (by omega)).1]
  have ci : CI υ t1 := by
    refine ⟨⟨⟨by rw [g0 8 (by omega) (by omega), z8, dn 2 (by omega)], by rw [g0 9 (by omega) (by omega), z9, dn 3 (by omega)], by rw [h1 _ (t1_ne (by omega)).1, up_k (by omega), up_s, d0], by rw [h1 _ (t1_ne (by omega)).1, up_s, d1], by rw [g0 12 (by omega) (by omega), z12, dn 4 (by omega)], by rw [g0 13 (by omega) (by omega), z13, dn 5 (by omega)]⟩, fun i hi => by rw [dn 2 (by omega)] at hi; omega, fun l hl => by rw [dn 3 (by omega)] at hl; omega⟩, fun j hj => ?_, by rw [g0 14 (by omega) (by omega), z14], ⟨by omega, by omega, by omega, dn 4 (by omega), dn 5 (by omega)⟩, fun i hi => by rw [dn 2 (by omega)] at hi; omega, fun l hl => by rw [dn 3 (by omega)] at hl; omega, fun i hi => dn i (by omega)⟩
    have ne : tc 1 7 ≠ tc 1 0 := by rw [Ne, tc_iff (by omega) (by omega)]; omega
    rw [h1 _ (t1_ne (by omega)).1, up_ne ne, up_ne ne, u1.1 _ (t1_ne (by omega)).1, c2 _ (t1_ne (by omega)).1]
    exact zz j hj
  have r4 : RF τ3 υ := ⟨fun c c1 cj => by rw [h1 c c1, up_ne (cj 0 (by omega)), up_ne (cj 0 (by omega))], h1'⟩
  have rs := r3.tr r4
  refine C_men h2 ci (dn 2 (by omega)) (dn 3 (by omega)) (fun f q' e' ω w1 w2 => z_t (bad f q' (eb _ (by unfold restS; rw [e']; rfl)) ω (rs.tr w1) w2)) (fun q' t' e' x1 x2 x3 ω w1 w2 w3 => o_t ?_)
  have eb2 : ∀ X, levsS n b (t' 2) 7 0 q' t' = X → bnd (lawS n b 0 (fun _ => 0)) (fun p t => restS n b 6 0 p t) = X := fun X h => eb X (by unfold restS; rw [e']; exact h)
  refine C_levs w2 w3 rfl x1 x2 x3 (fun f q3 e3 ψ y1 y2 => z_t (bad f q3 (eb2 _ e3) ψ ((rs.tr w1).tr y1) y2)) (fun q3 t3 e3 hI ψ y1 y2 => o_t (fun τ13 f13 => ⟨bz1, ?_⟩))
  have y3 := (rs.tr w1).tr y1
  refine hg q3 t3 (eb2 _ e3) hI τ13 (fun c c1 cj => by rw [f13, up_ne c1]; exact y3.1 c c1 cj) (by rw [f13, up_s]) (y2.1.cells (fun j hj => by rw [f13, up_ne (t1_ne hj).1])) (by rw [f13, up_ne (t1_ne (by omega)).1]; exact y2.2.2.1)
/-! the model -/
def R3 (τ υ : PI) : Prop := (∀ c, c ≠ 276 → c ≠ 283 → υ c = τ c) ∧ ∀ s, s < 11 ∨ 16 ≤ s → υ 276 s = τ 276 s
theorem R3.tr (h : R3 τ υ) (g : R3 υ ω) : R3 τ ω := ⟨fun c h1 h2 => (g.1 c h1 h2).trans (h.1 c h1 h2), fun s hs => (g.2 s hs).trans (h.2 s hs)⟩
theorem R3.rf : R3 τ τ := ⟨fun _ _ _ => rfl, fun _ _ => rfl⟩
theorem R6.r3 (h : R6 τ υ) : R3 τ υ := ⟨fun c h1 _ => h.1 c h1, fun s hs => h.2 s (by omega)⟩
theorem R3.s {i : Nat} {v : Int32} (h : R3 τ υ) : R3 τ (up υ 283 i v) := ⟨fun c h1 h2 => by rw [up_ne h2]; exact h.1 c h1 h2, fun s hs => by rw [up_ne (by omega)]; exact h.2 s hs⟩
theorem M_flt {f : Nat} {Q : Int32 → PI → Prop} (hs : MS n b τ p) (h : ∀ υ, R3 τ υ → υ 276 15 = nI f → υ 276 14 = nI p → Q (nI 0) υ) : wp_X5_faults (nI f) τ Q := by
  intro τ1 e1
  exact h τ1 ⟨fun c c1 _ => by rw [e1, up_ne c1], fun s hs => by rw [e1, up_k (by omega)]⟩ (by rw [e1, up_s]) (by rw [e1, up_k (by omega), hs.2.2.2.2.1])
theorem M_tk {c : Nat} {Q : Int32 → PI → Prop} (hs : MS n b τ p) (hc : c < 256) (hl : lt3 c) (h1 : isC n b p c = true → ∀ υ, R6 τ υ → MS n b υ (te n b p) → Q (nI 1) υ) (h0 : isC n b p c = false → ∀ υ, R3 τ υ → υ 276 15 = nI 1 → υ 276 14 = nI p → Q (nI 0) υ) : wp_X5_takes (nI c) τ Q := by
  unfold wp_X5_takes
  exact M_let hs hc hl (fun q => o_t' (M_go hs (h1 q))) (fun q => z_t' (M_flt hs (fun υ u1 u2 u3 => ⟨bz0, h0 q υ u1 u2 u3⟩)))
theorem mtk_2 : mtk n b p = 2 ↔ isN n b p = true := by
  rw [isN_is]
  unfold mtk
  by_cases h1 : n ≤ p
  · rw [if_pos h1]; exact ⟨fun z => by omega, fun z => by omega⟩
  rw [if_neg h1]
  by_cases h2 : fg b p = true
  · rw [if_pos h2]
    by_cases h3 : re n b p - p ≤ 2
    · rw [if_pos h3]; exact ⟨fun _ => ⟨by omega, h2, h3⟩, fun _ => rfl⟩
    · rw [if_neg h3]; exact ⟨fun z => by omega, fun z => absurd z.2.2 h3⟩
  · rw [if_neg h2]
    refine ⟨fun z => ?_, fun z => absurd z.2.1 h2⟩
    split at z <;> omega
theorem mtk_3 : mtk n b p = 3 ↔ n ≤ p := by
  unfold mtk
  by_cases h1 : n ≤ p
  · rw [if_pos h1]; exact ⟨fun _ => h1, fun _ => rfl⟩
  rw [if_neg h1]
  refine ⟨fun z => ?_, fun z => absurd z h1⟩
  split at z
  · split at z <;> omega
  · split at z <;> omega
theorem M_fld {lo hi i c : Nat} {Q : Int32 → PI → Prop} (hs : MS n b τ p) (hA : MA (τ 283) t) (hi70 : i < 70) (hlo : lo < 2147483648) (hhi : hi < 2147483648) (hc : c < 256) (hl : lt3 c)
    (hb : ∀ f q, fdS n b lo hi i c p t = .inl (f, q) → ∀ υ, R3 τ υ → υ 276 15 = nI f → υ 276 14 = nI q → Q (nI 0) υ)
    (hg : ∀ q v, fdS n b lo hi i c p t = .inr (q, ch t i v) → ∀ υ, R3 τ υ → MS n b υ q → MA (υ 283) (ch t i v) → Q (nI 1) υ) : wp_X5_takesNumber (nI lo) (nI hi) (nI i) (nI c) τ Q := by
  unfold wp_X5_takesNumber w_X5_takesNumber_23 w_X5_takesNumber_37
  have hm := mtk_lt (n := n) (b := b) (p := p)
  have e12 := hs.2.2.2.2.2.2.1
  rw [e12, nI_inj (by omega) (by omega), mtk_2, nI_l hlo, nI_l hhi, nI_cl (a := i) (by omega)]
  have bad1 : isN n b p = false → wp_X5_faults (nI 1) τ (fun r12 τ11 => bz r12 ∧ Q r12 τ11) := fun q => M_flt hs (fun υ u1 u2 u3 => ⟨bz0, hb 1 p (by unfold fdS; rw [if_neg (by rw [q]; decide)]) υ u1 u2 u3⟩)
  refine ⟨fun q => ⟨fun _ => bad1 (by simpa using q), fun z => absurd z q⟩, fun q => ?_⟩
  have htv := tv_le (isN_is.1 q).1 (isN_is.1 q).2.1
  have e13 := hs.2.2.2.2.2.2.2.1 q
  rw [e13]
  by_cases qr : lo ≤ tv n b p ∧ tv n b p ≤ hi
  · refine M_it qr.1 qr.2 hhi (o_t' ⟨vpN hi70 (by omega), fun τ6 f6 => ?_⟩)
    rw [e13] at f6
    have hs6 : MS n b τ6 p := hs.k (by rw [f6, up_ne (by omega)]) (by rw [f6, up_ne (by omega)])
    have hA6 : MA (τ6 283) (ch t i (tv n b p)) := by rw [f6, up_self]; exact hA.up
    have r6 : R3 τ τ6 := by rw [f6]; exact R3.rf.s
    refine M_go hs6 (fun υ u1 u2 => M_tk u2 hc hl (fun k1 ω w1 w2 => ⟨bz1, ?_⟩) (fun k0 ω w1 w2 w3 => ⟨bz0, ?_⟩))
    · exact hg _ _ (by unfold fdS; rw [if_pos q, if_pos qr, if_pos k1]) ω (r6.tr (u1.r3.tr w1.r3)) w2 (by rw [w1.1 _ (by omega), u1.1 _ (by omega)]; exact hA6)
    · exact hb 1 _ (by unfold fdS; rw [if_pos q, if_pos qr, if_neg (by rw [k0]; decide)]) ω (r6.tr (u1.r3.tr w1)) w2 w3
  · refine M_if hhi hlo (fun ⟨a, a1, a2, a3⟩ => ?_) (z_t' ?_)
    · rw [nI_inj (by omega) (by omega)] at a3
      exact qr (by omega)
    · rw [e12, nI_inj (by omega) (by omega), mtk_2]
      exact ⟨fun z => absurd q z, fun _ => M_flt hs (fun υ u1 u2 u3 => ⟨bz0, hb 2 p (by unfold fdS; rw [if_pos q, if_neg qr]) υ u1 u2 u3⟩)⟩
theorem M_kos {K : Int32 × PI → Prop} {Q : Int32 → PI → Prop} (hs : MS n b τ p) (h : w_X5_readTown_156 K Q (nI (kos n b p)) τ) : w_X5_readTown_90 K Q τ := by
  unfold w_X5_readTown_90
  have nf : ∀ {c}, isC n b p c = false → ¬ isC n b p c = true := fun h z => by rw [h] at z; exact absurd z (by decide)
  unfold kos at h
  refine M_let hs (by omega) (by unfold lt3; omega) (fun q => o_t ?_) (fun q1 => z_t (M_let hs (by omega) (by unfold lt3; omega) (fun q => o_t ?_) (fun q2 => z_t (M_let hs (by omega) (by unfold lt3; omega) (fun q => o_t ?_) (fun q3 => z_t (M_let hs (by omega) (by unfold lt3; omega) (fun q => o_t ?_) (fun q4 => z_t (M_let hs (by omega) (by unfold lt3; omega) (fun q => o_t ?_) (fun q5 => z_t ?_)))))))))
  · rw [if_pos q] at h; exact h
  · rw [if_neg (nf q1), if_pos q] at h; exact h
  · rw [if_neg (nf q1), if_neg (nf q2), if_pos q] at h; exact h
  · rw [if_neg (nf q1), if_neg (nf q2), if_neg (nf q3), if_pos q] at h; exact h
  · rw [if_neg (nf q1), if_neg (nf q2), if_neg (nf q3), if_neg (nf q4), if_pos q] at h; exact h
  · rw [if_neg (nf q1), if_neg (nf q2), if_neg (nf q3), if_neg (nf q4), if_neg (nf q5)] at h; exact h
theorem kos_c (h : ¬ kos n b p = 0) : isC n b p 109 = false ∧ p < n := by
  have ex : ∀ {c}, c ≠ 109 → isC n b p c = true → isC n b p 109 = false ∧ p < n := fun {c} h1 h2 => by
    have a := isC_is.1 h2
    refine ⟨?_, a.1⟩
    cases hh : isC n b p 109
    · rfl
    · exact absurd (a.2.2.symm.trans (isC_is.1 hh).2.2) h1
  unfold kos at h
  by_cases q1 : isC n b p 112 = true
  · exact ex (by omega) q1
  by_cases q2 : isC n b p 102 = true
  · exact ex (by omega) q2
  by_cases q3 : isC n b p 115 = true
  · exact ex (by omega) q3
  by_cases q4 : isC n b p 105 = true
  · exact ex (by omega) q4
  by_cases q5 : isC n b p 119 = true
  · exact ex (by omega) q5
  rw [if_neg q1, if_neg q2, if_neg q3, if_neg q4, if_neg q5] at h
  exact absurd rfl h
theorem M_main {S : Sum (Nat × Nat) (Nat × (Nat → Nat))} {Q : Int32 → PI → Prop} (hs : MS n b τ p) (hA : MA (τ 283) t) (h2 : t 2 = 0) (h3 : t 3 = 0) (hS : S = restS n b 6 0 p t)
    (hb : ∀ f q, S = .inl (f, q) → ∀ υ, R3 τ υ → υ 276 15 = nI f → υ 276 14 = nI q → Q (nI 0) υ)
    (hg : ∀ q t', S = .inr (q, t') → ∀ υ, R3 τ υ → MA (υ 283) t' → Q (nI 1) υ) : w_X5_readTown_69 Q (nI 1) τ := by
  unfold w_X5_readTown_69
  refine for_up (α := Int32 × PI) 12 (fun i s => (∃ m l p' t' υ, s = (nI 1, υ) ∧ m + l = i ∧ m ≤ 5 ∧ l ≤ 6 ∧ MS n b υ p' ∧ MA (υ 283) t' ∧ t' 2 = m ∧ t' 3 = l ∧ R3 τ υ ∧ ((l = 0 ∧ S = restS n b (6 - m) m p' t') ∨ (0 < l ∧ 0 < m ∧ S = levsS n b m (7 - l) l p' t'))) ∨ (∃ f q υ, s = (nI 0, υ) ∧ S = .inl (f, q) ∧ υ 276 15 = nI f ∧ υ 276 14 = nI q ∧ R3 τ υ)) ?_ ?_ 0 _ (by omega) (Or.inl ⟨0, 0, p, t, τ, rfl, rfl, by omega, by omega, hs, hA, h2, h3, R3.rf, Or.inl ⟨rfl, hS⟩⟩)
  · rintro K s (⟨m, l, p', t', υ, rfl, z, _⟩ | ⟨f, q, υ, rfl, z1, z2, z3, z4⟩)
    · omega
    · exact ⟨fun _ => ⟨bz0, hb f q z1 υ z4 z2 z3⟩, fun z => absurd rfl z⟩
  · rintro K i s hi (⟨m, l, p', t', υ, rfl, k0, hm, hl, k1, k2, k3, k4, k5, k6⟩ | ⟨f, q, υ, rfl, z1, z2, z3, z4⟩) hK
    rotate_left
    · exact ⟨fun _ => ⟨bz0, hb f q z1 υ z4 z2 z3⟩, fun z => absurd rfl z⟩
    show B_X5_readTown_69 K Q (nI 1) υ
    unfold B_X5_readTown_69
    have hmk := mtk_lt (n := n) (b := b) (p := p')
    have hk5 := kos_le (n := n) (b := b) (p := p')
    have e2 : υ 283 2 = nI m := by rw [k2 2 (by omega), k3]
    have e3 : υ 283 3 = nI l := by rw [k2 3 (by omega), k4]
    rw [k1.2.2.2.2.2.2.1, nI_inj (a := mtk n b p') (by omega) (by omega), mtk_3, e3, nI_inj (a := l) (by omega) (by omega)]
    have bad : ∀ f q, S = .inl (f, q) → ∀ ω, R3 υ ω → ω 276 15 = nI f → ω 276 14 = nI q → K (nI 0, ω) := fun f q e ω w1 w2 w3 => hK _ (Or.inr ⟨f, q, ω, rfl, e, w2, w3, k5.tr w1⟩)
    have sA : l = 0 → S = restS n b (6 - m) m p' t' := fun q => by
      rcases k6 with ⟨_, z⟩ | ⟨z, _⟩
      · exact z
      · omega
    have sB : 0 < m → isC n b p' 109 = false → S = levsS n b m (7 - l) l p' t' := fun q qc => by
      rcases k6 with ⟨z0, z⟩ | ⟨_, _, z⟩
      · subst z0
        rw [z]; unfold restS
        rw [show 6 - m = (5 - m) + 1 by omega, menS, if_pos ⟨q, qc⟩]
        show levsS n b (t' 2) 7 0 p' t' = _
        rw [k3]
      · exact z
    have w90 : (l = 0 ∨ ¬ n ≤ p') → w_X5_readTown_90 K Q υ := by
      intro hor
      refine M_kos k1 ?_
      unfold w_X5_readTown_156 w_X5_readTown_190
      rw [nI_le' (by omega) (by omega)]
      refine ⟨fun qk => M_let k1 (by omega) (by unfold lt3; omega) (fun qc => o_t ?_) (fun qc => z_t (M_flt k1 (fun ω w1 w2 w3 => bad 1 p' ?_ ω w1 w2 w3))), fun qk => ?_⟩
      · have hpn := (isC_is.1 qc).1
        unfold wp_X5_readMan w_X5_readMan_21 w_X5_readMan_36
        intro x ex
        rw [ex, e2, e3, nI_inj (by omega) (by omega), nI_le' (by omega) (by omega)]
        have f1 : 0 < l → wp_X5_faults (nI 1) υ (fun r14 τ13 => bz r14 ∧ K (r14, τ13)) := fun hl0 => M_flt k1 (fun ω w1 w2 w3 => ⟨bz0, bad 1 p' (by
          rcases k6 with ⟨z0, z⟩ | ⟨_, _, z⟩
          · omega
          · rw [z, show 7 - l = (6 - l) + 1 by omega, levsS, if_neg (by omega), if_pos (by omega)]) ω w1 w2 w3⟩)
        refine ⟨fun q5 => ⟨fun ql => M_flt k1 (fun ω w1 w2 w3 => ⟨bz0, bad 3 p' ?_ ω w1 w2 w3⟩), fun ql => f1 (by omega)⟩, fun q5 => ⟨fun ql => ?_, fun ql => ⟨fun z => absurd z ql, fun _ => f1 (by omega)⟩⟩⟩
        · rw [sA (by omega)]; unfold restS
          rw [show 6 - m = (5 - m) + 1 by omega, menS, if_neg (fun z => by rw [qc] at z; exact absurd z.2 (by decide)), if_pos q5]; rfl
        · have l0 : l = 0 := by omega
          have hSm : S = bnd (bnd (manS n b m p' (ch t' 2 (m + 1))) (fun p t => menS n b (5 - m) (m + 1) p t)) (fun p t => levsS n b (t 2) 7 0 p t) := by
            rw [sA l0]; unfold restS
            rw [show 6 - m = (5 - m) + 1 by omega, menS, if_neg (fun z => by rw [qc] at z; exact absurd z.2 (by decide)), if_neg q5, if_pos qc]
          refine M_go k1 (fun ω w1 w2 τ5 f5 => ?_)
          rw [w1.1 283 (by omega), e2, nI_add] at f5
          have r5 : R3 υ τ5 := by rw [f5]; exact w1.r3.s
          have hs5 : MS n b τ5 (te n b p') := w2.k (by rw [f5, up_ne (by omega)]) (by rw [f5, up_ne (by omega)])
          have hA5 : MA (τ5 283) (ch t' 2 (m + 1)) := by rw [f5, up_self, w1.1 283 (by omega)]; exact k2.up
          rw [nI_add, nI_add]
          unfold manS at hSm
          refine M_fld hs5 hA5 (by omega) (by omega) (by omega) (by omega) (by unfold lt3; omega) (fun f q e ψ x1 x2 x3 => z_t (bad f q (by rw [hSm, e]; rfl) ψ (r5.tr x1) x2 x3)) (fun q v e ψ x1 x2 x3 => o_t ?_)
          refine M_fld x2 x3 (by omega) (by omega) (by omega) (by omega) (by unfold lt3; omega) (fun f q' e' χ y1 y2 y3 => z_t (bad f q' ?_ χ ((r5.tr x1).tr y1) y2 y3)) (fun q' v' e' χ y1 y2 y3 => o_t (hK _ (Or.inl ⟨m + 1, 0, q', _, χ, rfl, by omega, by omega, by omega, y2, y3, ?_, ?_, k5.tr ((r5.tr x1).tr y1), Or.inl ⟨rfl, ?_⟩⟩)))
          · rw [hSm, e]; show bnd (bnd (fdS n b 0 9 (11 + m) 59 q _) _) _ = _; rw [e']; rfl
          · rw [ch_n (by omega), ch_n (by omega), ch_e]
          · rw [ch_n (by omega), ch_n (by omega), ch_n (by omega), k4, l0]
          · rw [hSm, e]; show bnd (bnd (fdS n b 0 9 (11 + m) 59 q _) _) _ = _; rw [e', show 6 - (m + 1) = 5 - m by omega]; rfl
      · by_cases m0 : m = 0
        · rcases k6 with ⟨z0, z⟩ | ⟨_, z, _⟩
          · rw [z]; unfold restS
            rw [show 6 - m = (5 - m) + 1 by omega, menS, if_neg (by omega), if_neg (by omega), if_neg (by rw [qc]; decide)]; rfl
          · omega
        · rw [sB (by omega) qc, show 7 - l = (6 - l) + 1 by omega, levsS, if_neg (by omega), if_pos (by omega)]
      · obtain ⟨qc, hpn⟩ := kos_c (n := n) (b := b) (p := p') (by omega)
        unfold wp_X5_readLeaver w_X5_readLeaver_22 w_X5_readLeaver_37
        intro x ex
        rw [ex, e3, e2, nI_inj (by omega) (by omega), nI_inj (by omega) (by omega)]
        have f1 : m = 0 → wp_X5_faults (nI 1) υ (fun r19 τ18 => bz r19 ∧ K (r19, τ18)) := fun m0 => M_flt k1 (fun ω w1 w2 w3 => ⟨bz0, bad 1 p' (by
          rcases k6 with ⟨z0, z⟩ | ⟨_, z, _⟩
          · rw [z]; unfold restS
            rw [show 6 - m = (5 - m) + 1 by omega, menS, if_neg (by omega), if_neg (by omega), if_neg (by rw [qc]; decide)]; rfl
          · omega) ω w1 w2 w3⟩)
        refine ⟨fun q6 => ⟨fun qm => M_flt k1 (fun ω w1 w2 w3 => ⟨bz0, bad 3 p' ?_ ω w1 w2 w3⟩), f1⟩, fun q6 => ⟨fun qm => ?_, fun qm => ⟨fun z => absurd qm z, f1⟩⟩⟩
        · rw [sB (by omega) qc, show 7 - l = (6 - l) + 1 by omega, levsS, if_neg (by omega), if_neg (by omega), if_pos q6]
        · have hSl : S = bnd (levS n b m l p' (ch (ch t' (16 + l) (kos n b p')) 3 (l + 1))) (fun p t => levsS n b m (6 - l) (l + 1) p t) := by
            rw [sB (by omega) qc, show 7 - l = (6 - l) + 1 by omega, levsS, if_neg (by omega), if_neg (by omega), if_neg q6]
          refine M_go k1 (fun ω w1 w2 => ?_)
          rw [nI_add, nI_cl (a := 16 + l) (by omega)]
          refine ⟨vpN (by omega) (by omega), fun τ6 f6 τ7 f7 => ?_⟩
          have e63 : τ6 283 3 = nI l := by rw [f6, up_k (by omega), w1.1 283 (by omega), e3]
          rw [e63, nI_add] at f7
          have r7 : R3 υ τ7 := by rw [f7, f6]; exact w1.r3.s.s
          have hs7 : MS n b τ7 (te n b p') := w2.k (by rw [f7, up_ne (by omega), f6, up_ne (by omega)]) (by rw [f7, up_ne (by omega), f6, up_ne (by omega)])
          have hA7 : MA (τ7 283) (ch (ch t' (16 + l) (kos n b p')) 3 (l + 1)) := by
            rw [f7, up_self]
            refine MA.up ?_
            rw [f6, up_self, w1.1 283 (by omega)]
            exact k2.up
          have e72 : τ7 283 2 = nI m := by rw [hA7 2 (by omega), ch_n (by omega), ch_n (by omega), k3]
          rw [e72, nI_sub (by omega), nI_add, nI_add, nI_add]
          unfold levS at hSl
          refine M_fld hs7 hA7 (by omega) (by omega) (by omega) (by omega) (by unfold lt3; omega) (fun f q e ψ x1 x2 x3 => z_t (bad f q (by rw [hSl, e]; rfl) ψ (r7.tr x1) x2 x3)) (fun q v e ψ x1 x2 x3 => o_t ?_)
          refine M_fld x2 x3 (by omega) (by omega) (by omega) (by omega) (by unfold lt3; omega) (fun f q' e' χ y1 y2 y3 => z_t (bad f q' ?_ χ ((r7.tr x1).tr y1) y2 y3)) (fun q' v' e' χ y1 y2 y3 => o_t ?_)
          · rw [hSl, e]; show bnd (bnd (fdS n b 1 9 (28 + l) 44 q _) _) _ = _; rw [e']; rfl
          refine M_fld y2 y3 (by omega) (by omega) (by omega) (by omega) (by unfold lt3; omega) (fun f q3 e4 ξ g1 g2 g3 => z_t (bad f q3 ?_ ξ (((r7.tr x1).tr y1).tr g1) g2 g3)) (fun q3 v3 e4 ξ g1 g2 g3 => o_t (hK _ (Or.inl ⟨m, l + 1, q3, _, ξ, rfl, by omega, hm, by omega, g2, g3, ?_, ?_, k5.tr (((r7.tr x1).tr y1).tr g1), Or.inr ⟨by omega, by omega, ?_⟩⟩)))
          · rw [hSl, e]; show bnd (bnd (fdS n b 1 9 (28 + l) 44 q _) _) _ = _; rw [e']; show bnd (fdS n b 0 4 (34 + l) 59 q' _) _ = _; rw [e4]; rfl
          · rw [ch_n (by omega), ch_n (by omega), ch_n (by omega), ch_n (by omega), ch_n (by omega), k3]
          · rw [ch_n (by omega), ch_n (by omega), ch_n (by omega), ch_e]
          · rw [hSl, e]; show bnd (bnd (fdS n b 1 9 (28 + l) 44 q _) _) _ = _; rw [e']; show bnd (fdS n b 0 4 (34 + l) 59 q' _) _ = _; rw [e4, show 7 - (l + 1) = 6 - l by omega]; rfl
    refine ⟨fun z => absurd z b_ne, fun _ => ⟨fun q => w90 (Or.inr q), fun q => ⟨fun ql => ⟨bz1, ?_⟩, fun ql => w90 (Or.inl ql)⟩⟩⟩
    rcases k6 with ⟨z0, z⟩ | ⟨z0, z1, z⟩
    · exact absurd z0 ql
    · rw [show 7 - l = (6 - l) + 1 by omega, levsS, if_pos ⟨z0, q⟩] at z
      exact hg p' t' z υ k5 k2
theorem M_read {Q : Int32 → PI → Prop} (hn : n ≤ 120) (e9 : σ 276 9 = nI n) (e8 : ∀ i, i < n → b i < 256 ∧ σ 282 i = nI (b i))
    (hb : ∀ f q, twnS n b = .inl (f, q) → ∀ υ, R3 σ υ → υ 276 15 = nI f → υ 276 14 = nI q → Q (nI 0) υ)
    (hg : ∀ q t, twnS n b = .inr (q, t) → ∀ υ, R3 σ υ → MA (υ 283) t → Q (nI 1) υ) : wp_X5_readTown σ Q := by
  unfold wp_X5_readTown w_X5_readTown_7
  intro τ1 f1
  have r1 : R3 σ τ1 := ⟨fun c c1 _ => by rw [f1, up_ne c1], fun s hs => by rw [f1, up_k (by omega)]⟩
  refine for_up (α := Int32 × PI) 70 (fun i s => ∃ υ, s = (nI i, υ) ∧ (∀ c, c ≠ 283 → υ c = τ1 c) ∧ ∀ j, j < i → υ 283 j = nI 0) ?_ ?_ 0 _ (by omega) ⟨τ1, rfl, fun _ _ => rfl, fun j hj => by omega⟩
  · rintro K s ⟨υ, rfl, g1, g2⟩
    show B_X5_readTown_7 K Q (nI 70) υ
    unfold B_X5_readTown_7
    refine ⟨fun _ => ?_, fun z => absurd (Int32.le_refl _) z⟩
    have ru : R3 σ υ := r1.tr ⟨fun c _ c2 => g1 c c2, fun s _ => by rw [g1 276 (by omega)]⟩
    have hA : MA (υ 283) (fun _ => 0) := fun j hj => g2 j hj
    refine M_next (p := 0) (b := b) hn (by omega) (by rw [ru.2 9 (by omega), e9]) (fun i hi => ⟨(e8 i hi).1, by rw [ru.1 282 (by omega) (by omega)]; exact (e8 i hi).2⟩) (by rw [g1 276 (by omega), f1, up_s]) (fun τ3 u1 u2 => ?_)
    have r3 : R3 σ τ3 := ru.tr u1.r3
    have hA3 : MA (τ3 283) (fun _ => 0) := by rw [u1.1 283 (by omega)]; exact hA
    unfold twnS lawS at hb hg
    refine M_tk u2 (by omega) (by unfold lt3; omega) (fun k1 ω w1 w2 => o_t ?_) (fun k0 ω w1 w2 w3 => z_t (hb 1 0 (by rw [if_neg (by rw [k0]; decide)]; rfl) ω (r3.tr w1) w2 w3))
    rw [if_pos k1] at hb hg
    refine M_fld w2 (by rw [w1.1 283 (by omega)]; exact hA3) (by omega) (by omega) (by omega) (by omega) (by unfold lt3; omega) (fun f q e ψ x1 x2 x3 => z_t (hb f q (by rw [e]; rfl) ψ ((r3.tr w1.r3).tr x1) x2 x3)) (fun q v e ψ x1 x2 x3 => o_t ?_)
    have rp := (r3.tr w1.r3).tr x1
    refine M_fld x2 x3 (by omega) (by omega) (by omega) (by omega) (by unfold lt3; omega) (fun f q' e' χ y1 y2 y3 => z_t' (hb f q' ?_ χ (rp.tr y1) y2 y3)) (fun q' v' e' χ y1 y2 y3 => o_t' ?_)
    · rw [e]; show bnd (fdS n b 0 9 1 59 q _) _ = _; rw [e']; rfl
    · have eS : bnd (bnd (fdS n b 1 9 0 44 (te n b 0) (fun _ => 0)) (fun p t => fdS n b 0 9 1 59 p t)) (fun p t => restS n b 6 0 p t) = restS n b 6 0 q' (ch (ch (fun _ => 0) 0 v) 1 v') := by
        rw [e]; show bnd (fdS n b 0 9 1 59 q _) _ = _; rw [e']; rfl
      rw [eS] at hb hg
      exact M_main y2 y3 (by rw [ch_n (by omega), ch_n (by omega)]) (by rw [ch_n (by omega), ch_n (by omega)]) rfl (fun f q3 e3 ξ g1 g2 g3 => hb f q3 e3 ξ (rp.tr (y1.tr g1)) g2 g3) (fun q3 t3 e3 ξ g1 g2 => hg q3 t3 e3 ξ (rp.tr (y1.tr g1)) g2)
  · rintro K i s hi ⟨υ, rfl, g1, g2⟩ hK
    show B_X5_readTown_7 K Q (nI i) υ
    unfold B_X5_readTown_7
    rw [nI_le' (by omega) (by omega), nI_cl (a := i) (by omega), nI_add]
    refine ⟨fun z => absurd z (by omega), fun _ => ⟨vpN (by omega) (by omega), fun τ8 e8' => hK _ ⟨τ8, rfl, fun c hc => by rw [e8', up_ne hc]; exact g1 c hc, fun j hj => ?_⟩⟩⟩
    rw [e8']
    by_cases z : j = i
    · subst z; rw [up_s]
    · rw [up_k z]; exact g2 j (by omega)
end RD
