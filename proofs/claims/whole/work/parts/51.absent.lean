/-! ===== absent, tells ===== -/
section AB
variable {σ τ υ : PI} {t : Nat → Nat}
def hbo (l : Nat) : Nat → Bool := fun k => (2 ^ l).testBit k
theorem HB_o {l : Nat} (hl : l < 6) : HB (nI 1 <<< (nI l &&& 31)) (hbo l) := by
  rw [nI_shl (by omega)]
  have : 2 ^ l < 2 ^ 6 := Nat.pow_lt_pow_right (by omega) hl
  exact HB_n (by omega)
def fs (P : Nat → Bool) (s : Int32) : Nat → Int32
  | 0 => s
  | i + 1 => if P i then fs P s i ||| (nI 1 <<< (nI i &&& 31)) else fs P s i
theorem eq_absent {a0 a1 a2 a3 : Int32} (h : Rel σ) : wp_X4_absent a0 a1 a2 a3 σ (fun r τ => wp_X5_absent a0 a1 a2 a3 τ (fun r' τ' => r = r' ∧ Rel τ')) := by
  unfold wp_X4_absent
  obtain ⟨t, ht⟩ := h.2.2.2.2.2.1
  obtain ⟨b2, b3, b4⟩ := ht.b
  rcases told h ht a0 a1 a2 a3 with ⟨p1, p2⟩ | ⟨v, hv, p1, p2⟩ | ⟨m, r, i, n, rfl, rfl, rfl, rfl, hm, hr, hn1, hn, hi, hit, p1, p2⟩
  · exact p1 _ ⟨fun z => absurd z (by decide), fun _ => p2 _ ⟨fun z => absurd z (by decide), fun _ => ⟨rfl, h⟩⟩⟩
  · have nv : ¬ (-1000010 : Int32) - nI v = nI 0 ∧ ¬ nI 0 ≤ (-1000010 : Int32) - nI v := by
      rcases (show v = 0 ∨ v = 1 ∨ v = 2 by omega) with rfl | rfl | rfl <;> decide
    exact p1 _ ⟨fun z => absurd z nv.1, fun _ => p2 _ ⟨fun z => absurd z nv.2, fun _ => ⟨rfl, h.find⟩⟩⟩
  obtain ⟨hI, hth⟩ := b4 (by omega)
  obtain ⟨i1, i2, i3, i4, i5, i6, i7, i8, i9⟩ := hI.1.b
  obtain ⟨row, hrow⟩ : ∃ row, row = σ (rc r 1) := ⟨_, rfl⟩
  obtain ⟨s0, hs0⟩ : ∃ s0 : Int32, s0 = if ft t nob m row i n then nI 64 else nI 0 := ⟨_, rfl⟩
  obtain ⟨P, hP⟩ : ∃ P : Nat → Bool, P = fun l => ft t (hbo l) m row i n := ⟨_, rfl⟩
  have er : up σ 252 9 (nI 0) (rc r 1) = row := by rw [up_ne (by unfold rc; omega), hrow]
  have ht9 := ht.u9 (v := nI 0)
  have hv8 : vp_in (nI r) 8 := vpN hr (by omega)
  refine p1 _ (z_t (C_try ht9 (fun τ1 f1 f2 f3 => ⟨hv8, ?_⟩)))
  rw [nI_cl (a := r) (by omega)]
  have key : ∀ (τ : PI) (Q : Int32 → PI → Prop), Fr 1 (up σ 252 9 (nI 0)) τ → (∀ υ, Fr 1 (up σ 252 9 (nI 0)) υ → Q (fs P s0 (t 3)) υ) → w_X4_absent_53 Q (nI m) (nI r) (nI i) (nI n) s0 τ := by
    intro τ Q hτ hQ
    unfold w_X4_absent_53 w_X4_absent_58
    refine for_up (α := Int32 × Int32 × Int32 × Int32 × Int32 × Int32 × PI) (t 3) (fun o s => ∃ υ, s = (nI m, nI r, nI i, nI n, fs P s0 o, nI o, υ) ∧ Fr 1 (up σ 252 9 (nI 0)) υ) ?_ ?_ 0 _ (by omega) ⟨τ, rfl, hτ⟩
    · rintro K s ⟨υ, rfl, k1⟩
      show B_X4_absent_58 K Q (nI m) (nI r) (nI i) (nI n) (fs P s0 (t 3)) (nI (t 3)) υ
      unfold B_X4_absent_58
      rw [(ht9.fr k1).1.1.2.1]
      exact ⟨fun _ => hQ υ k1, fun z => absurd (Int32.le_refl _) z⟩
    · rintro K o s ho ⟨υ, rfl, k1⟩ hK
      show B_X4_absent_58 K Q (nI m) (nI r) (nI i) (nI n) (fs P s0 o) (nI o) υ
      unfold B_X4_absent_58 w_X4_absent_118
      rw [(ht9.fr k1).1.1.2.1, nI_le' (by omega) (by omega), nI_add, nI_cl (a := r) (by omega)]
      refine ⟨fun z => absurd z (by omega), fun _ => C_try (ht9.fr k1) (fun ω w1 w2 w3 χ ec => ⟨hv8, ?_⟩)⟩
      have xA : TA χ 1 t := by
        rw [ec]
        obtain ⟨⟨a8, a9, a10, a11, a12, a13⟩, hM, hL⟩ := w1
        have c0 : ∀ j, j < 9 → j ≠ 0 → up ω (tc 1 0) 14 (nI 1 <<< (nI o &&& 31)) (tc 1 j) = ω (tc 1 j) := fun j hj h5 => up_ne (by rw [Ne, tc_iff hj (by omega)]; omega)
        refine ⟨⟨by rw [up_k (by omega)]; exact a8, by rw [up_k (by omega)]; exact a9, by rw [up_k (by omega)]; exact a10, by rw [up_k (by omega)]; exact a11, by rw [up_k (by omega)]; exact a12, by rw [up_k (by omega)]; exact a13⟩, fun q hq => ?_, fun q hq => ?_⟩
        · have := hM q hq
          unfold TM at this ⊢
          rw [c0 1 (by omega) (by omega), c0 2 (by omega) (by omega)]; exact this
        · have := hL q hq
          unfold TL at this ⊢
          rw [c0 3 (by omega) (by omega), c0 4 (by omega) (by omega), c0 5 (by omega) (by omega), c0 6 (by omega) (by omega), c0 7 (by omega) (by omega)]; exact this
      have xf : Fr 1 (up σ 252 9 (nI 0)) χ := k1.tr (w3.tr (by rw [ec]; exact Fr.u (by omega)))
      refine T_fits (hb := hbo o) xA hI (by rw [ec, up_s]; exact HB_o (by omega)) (by omega) hr hm hi (fun ψ y1 => ?_)
      have er2 : χ (rc r 1) = row := by rw [xf.hi (by omega) (by unfold rc; omega), er]
      rw [er2]
      have nx := fun (y : Int32) (e : y = fs P s0 (o + 1)) => hK (nI m, nI r, nI i, nI n, y, nI (o + 1), ψ) ⟨ψ, by rw [e], xf.tr y1⟩
      have hPo : P o = ft t (hbo o) m row i n := by rw [hP]
      cases hft : ft t (hbo o) m row i n
      · refine z_t (nx _ ?_)
        rw [fs, hPo, hft]; rfl
      · refine o_t (fun x ex => ?_)
        rw [ex]
        refine nx _ ?_
        rw [fs, hPo, hft]; rfl
  have er1 : τ1 (rc r 1) = row := by rw [f3.hi (by omega) (by unfold rc; omega), er]
  refine T_fits (hb := nob) f1 hI (by rw [f2]; exact HB_0) (by omega) hr hm hi (fun ψ y1 => ?_)
  rw [er1]
  obtain ⟨Q, hQ⟩ : ∃ Q : Int32 → PI → Prop, Q = (fun x τ => wp_X5_absent (nI m) (nI r) (nI i) (nI n) τ (fun r' τ' => x = r' ∧ Rel τ')) := ⟨_, rfl⟩
  have go : w_X4_absent_53 Q (nI m) (nI r) (nI i) (nI n) s0 ψ := by
    refine key ψ Q (f3.tr y1) (fun υ hf => ?_)
    rw [hQ]
    have uc : ∀ c, c ≠ 252 → (c < 9 ∨ 18 ≤ c) → υ c = σ c := fun c q1 q2 => by rw [hf c (fun j hj => by unfold tc; omega), up_ne q1]
    have u252 : υ 252 = up σ 252 9 (nI 0) 252 := hf 252 (fun j hj => by unfold tc; omega)
    refine p2 υ _ (uc 280 (by omega) (by omega)) (uc 278 (by omega) (by omega)) ⟨fun _ => M_aside (fun ω0 z1 z2 z3 => ?_), fun z => absurd (Int32.le_refl _) z⟩
    have hMu : MA (υ 280) t := by rw [uc 280 (by omega) (by omega)]; exact ht.2.1
    have hru : ∀ j, j < 40 → υ 279 (40 * r + j) = row j := fun j hj => by rw [uc 279 (by omega) (by omega), hrow]; exact hit j hj
    have h60 : ω0 276 6 = nI 0 := by rw [z2, uc 276 (by omega) (by omega)]; exact ht.2.2.2.1
    have lp : ∀ ω, MZ υ ω → (∀ j, j < 70 → ω 280 j = υ 280 j) → w_X5_absent_45 (fun r' τ' => fs P s0 (t 3) = r' ∧ Rel τ') (nI m) (nI r) (nI i) (nI n) s0 ω := by
      intro ω y1 y3
      unfold w_X5_absent_45 w_X5_absent_50
      refine for_up (α := Int32 × Int32 × Int32 × Int32 × Int32 × Int32 × PI) (t 3) (fun o s => ∃ ω, s = (nI m, nI r, nI i, nI n, fs P s0 o, nI o, ω) ∧ MZ υ ω ∧ ∀ j, j < 70 → ω 280 j = υ 280 j) ?_ ?_ 0 _ (by omega) ⟨ω, rfl, y1, y3⟩
      · rintro K s ⟨ω, rfl, k1, k3⟩
        show B_X5_absent_50 K _ (nI m) (nI r) (nI i) (nI n) (fs P s0 (t 3)) (nI (t 3)) ω
        unfold B_X5_absent_50
        rw [k3 3 (by omega), hMu 3 (by omega)]
        refine ⟨fun _ χ ec ξ ex => ⟨rfl, h.told ht uc (fun f hf => by rw [u252, up_k hf]) (by rw [u252, up_s]) (τ := χ) (by rw [ec]; exact k1.h6) (by rw [ec, up_s]) (fun j hj => by rw [ec, up_ne (by omega)]; exact k3 j hj) ex⟩, fun z => absurd (Int32.le_refl _) z⟩
      · rintro K o s ho ⟨ω, rfl, k1, k3⟩ hK
        show B_X5_absent_50 K _ (nI m) (nI r) (nI i) (nI n) (fs P s0 o) (nI o) ω
        unfold B_X5_absent_50 w_X5_absent_95
        rw [k3 3 (by omega), hMu 3 (by omega), nI_le' (by omega) (by omega), nI_add]
        refine ⟨fun z => absurd z (by omega), fun _ χ ec => ?_⟩
        refine M_isSo (hb := hbo o) (t := t) (row := row) (υ := υ) (by rw [ec]; exact k1.h6) (fun j hj => by rw [ec, up_ne (by omega), k3 j hj]; exact hMu j hj) hI (by rw [ec, up_s]; exact HB_o (by omega)) (by omega) hr hm hi hru (fun ψ y1 y2 y3 => ?_)
        have nx := fun (y : Int32) (e : y = fs P s0 (o + 1)) => hK (nI m, nI r, nI i, nI n, y, nI (o + 1), ψ) ⟨ψ, by rw [e], y1, y3⟩
        have hPo : P o = ft t (hbo o) m row i n := by rw [hP]
        rw [show fs P s0 o ||| nI 0 = fs P s0 o from Int32.or_zero]
        cases hft : ft t (hbo o) m row i n
        · refine z_t (fun x ex => ?_)
          rw [ex]
          refine nx _ ?_
          rw [fs, hPo, hft]; rfl
        · refine o_t (fun x ex => ?_)
          rw [ex]
          refine nx _ ?_
          rw [fs, hPo, hft]; rfl
    refine M_isSo (hb := nob) (t := t) (row := row) (υ := υ) z1 (by rw [z3]; exact hMu) hI (by rw [h60]; exact HB_0) (by omega) hr hm hi hru (fun ψ y1 y2 y3 => ?_)
    have := lp ψ y1 y3
    rw [hs0] at this ⊢
    cases hft : ft t nob m row i n
    · rw [hft] at this; exact z_t this
    · rw [hft] at this; exact o_t this
  rw [← hQ]
  rw [hs0] at go
  cases hft : ft t nob m row i n
  · rw [hft] at go; exact z_t go
  · rw [hft] at go; exact o_t go
/-- the leaver without whom they feel least, of the first i (i > 0) -/
def ts (g : Nat → Int32) : Nat → Int32 × Int32
  | 0 => (nI 0, g 0)
  | i + 1 => if (ts g i).2 ≤ g (i + 1) then ts g i else (nI (i + 1), g (i + 1))
theorem up14 {x : Int32} {ω : PI} (w1 : TA ω 1 t) : TA (up ω (tc 1 0) 14 x) 1 t := by
  obtain ⟨⟨a8, a9, a10, a11, a12, a13⟩, hM, hL⟩ := w1
  have c0 : ∀ j, j < 9 → j ≠ 0 → up ω (tc 1 0) 14 x (tc 1 j) = ω (tc 1 j) := fun j hj h5 => up_ne (by rw [Ne, tc_iff hj (by omega)]; omega)
  refine ⟨⟨by rw [up_k (by omega)]; exact a8, by rw [up_k (by omega)]; exact a9, by rw [up_k (by omega)]; exact a10, by rw [up_k (by omega)]; exact a11, by rw [up_k (by omega)]; exact a12, by rw [up_k (by omega)]; exact a13⟩, fun q hq => ?_, fun q hq => ?_⟩
  · have := hM q hq
    unfold TM at this ⊢
    rw [c0 1 (by omega) (by omega), c0 2 (by omega) (by omega)]; exact this
  · have := hL q hq
    unfold TL at this ⊢
    rw [c0 3 (by omega) (by omega), c0 4 (by omega) (by omega), c0 5 (by omega) (by omega), c0 6 (by omega) (by omega), c0 7 (by omega) (by omega)]; exact this
theorem C_without {l n : Nat} {Q : Int32 → PI → Prop} (ht : RTn σ t) (hI : Iv 999 t) (hl : l < 6) (hn : n ≤ 60) (h : ∀ υ, Fr 1 σ υ → Q (nI (fl (dys t (hbo l) n))) υ) : wp_X4_feltWithout (nI l) (nI n) σ Q := by
  unfold wp_X4_feltWithout
  refine C_try ht (fun ω w1 w2 w3 χ ec => T_passDays (hb := hbo l) (t := t) (by rw [ec]; exact up14 w1) hI (by rw [ec, up_s]; exact HB_o hl) (by omega) (fun ψ y1 y2 y3 => T_felt y1 (by rw [dys_2]; exact hI.1.2.1) ?_))
  exact h ψ (w3.tr ((by rw [ec]; exact Fr.u (by omega) : Fr 1 ω χ).tr y3))
theorem eq_tells {a0 a1 : Int32} (h : Rel σ) : wp_X4_tells a0 a1 σ (fun r τ => wp_X5_tells a0 a1 τ (fun r' τ' => r = r' ∧ Rel τ')) := by
  unfold wp_X4_tells
  obtain ⟨t, ht⟩ := h.2.2.2.2.2.1
  refine C_town ht (fun hI hth => o_t' ?_) (fun h2 h0 => z_t' ⟨fun q => absurd h0 q, fun _ => ⟨rfl, h⟩⟩)
  obtain ⟨i1, i2, i3, i4, i5, i6, i7, i8, i9⟩ := hI.1.b
  have nth : ∀ υ, Fr 1 σ υ → ¬ υ 276 4 = nI 0 := fun υ hf => by rw [hf.hi (by omega) (by omega), hth]; exact b_ne
  have nth0 := nth σ Fr.rf
  by_cases hs0 : ¬ ∃ a, 1 ≤ a ∧ a ≤ 60 ∧ a0 = nI a
  · exact C_wf (by omega) (by omega) hs0 (z_t ⟨fun _ => M_if (by omega) (by omega) hs0 (z_t ⟨rfl, h⟩), fun q => absurd q nth0⟩)
  obtain ⟨n, hn1, hn, rfl⟩ := Classical.not_not.mp hs0
  refine C_wt hn1 hn (by omega) (o_t ?_)
  by_cases hw0 : ¬ ∃ a, a < 2 ∧ a1 = nI a
  · exact C_bitF hw0 (z_t' ⟨fun _ => M_it hn1 hn (by omega) (o_t (M_whF hw0 (z_t' ⟨rfl, h⟩))), fun q => absurd q nth0⟩)
  obtain ⟨w, hw, rfl⟩ := Classical.not_not.mp hw0
  obtain ⟨g, hg⟩ : ∃ g : Nat → Int32, g = fun l => nI (fl (dys t (hbo l) n)) := ⟨_, rfl⟩
  obtain ⟨W, hW⟩ : ∃ W : Int32, W = nI (fl (dys t nob n)) := ⟨_, rfl⟩
  refine C_bitT hw (o_t' (C_without ht hI (by omega) hn (fun τ hτ => ?_)))
  have key : ∀ Q : Int32 → PI → Prop, (∀ υ, Fr 1 σ υ → Q (if w = 0 then (ts g (t 3 - 1)).1 else (nI 1000 + W) - (ts g (t 3 - 1)).2) υ) → w_X4_tells_43 Q (nI n) (nI w) (nI 0) (nI (fl (dys t (hbo 0) n))) (nI 1) τ := by
    intro Q hQ
    unfold w_X4_tells_43
    refine for_up (α := Int32 × Int32 × Int32 × Int32 × Int32 × PI) (t 3 - 1) (fun o s => ∃ υ, s = (nI n, nI w, (ts g o).1, (ts g o).2, nI (o + 1), υ) ∧ Fr 1 σ υ) ?_ ?_ 0 _ (by omega) ⟨τ, by rw [ts, hg], hτ⟩
    · rintro K s ⟨υ, rfl, k1⟩
      show B_X4_tells_43 K Q (nI n) (nI w) (ts g (t 3 - 1)).1 (ts g (t 3 - 1)).2 (nI (t 3 - 1 + 1)) υ
      unfold B_X4_tells_43
      have htu := ht.fr k1
      rw [htu.1.1.2.1, nI_le' (by omega) (by omega), nI_inj (by omega) (by omega)]
      refine ⟨fun _ => ⟨fun q => C_try htu (fun ω w1 w2 w3 => T_passDays (hb := nob) w1 hI (by rw [w2]; exact HB_0) (by omega) (fun ψ y1 y2 y3 => T_felt y1 (by rw [dys_2]; exact i2) ?_)), fun q => ?_⟩, fun z => absurd (by omega) z⟩
      · have := hQ ψ (k1.tr (w3.tr y3))
        rw [if_neg q, hW] at this
        exact this
      · have := hQ υ k1
        rw [if_pos q] at this
        exact this
    · rintro K o s ho ⟨υ, rfl, k1⟩ hK
      show B_X4_tells_43 K Q (nI n) (nI w) (ts g o).1 (ts g o).2 (nI (o + 1)) υ
      unfold B_X4_tells_43 w_X4_tells_78
      have htu := ht.fr k1
      rw [htu.1.1.2.1, nI_le' (by omega) (by omega), nI_add]
      refine ⟨fun z => absurd z (by omega), fun _ => C_without htu hI (by omega) hn (fun ψ y1 => ?_)⟩
      have eg : nI (fl (dys t (hbo (o + 1)) n)) = g (o + 1) := by rw [hg]
      rw [eg]
      have nx := fun (x y : Int32) (e : (x, y) = ts g (o + 1)) => hK (nI n, nI w, x, y, nI (o + 1 + 1), ψ) ⟨ψ, by rw [← e], k1.tr y1⟩
      refine ⟨fun q => nx _ _ ?_, fun q => nx _ _ ?_⟩
      · rw [ts, if_pos q]
      · rw [ts, if_neg q]
  refine key _ (fun υ hf => ?_)
  have hR := h.fr hf
  have htu := ht.fr hf
  refine ⟨fun _ => M_it hn1 hn (by omega) (o_t (M_whT hw (o_t' (M_aside (fun ω0 z1 z2 z3 => M_goOn (hb := nob) (t := t) (by rw [z3]; exact htu.2.1) hI (by rw [z2]; exact htu.hm) (by omega) (fun χ x1 x2 => M_allFeel x1 (by rw [dys_2]; exact i2) (M_back (z1.fm x2) (fun ω y1 y2 y3 => ?_)))))))), fun q => absurd q (nth υ hf)⟩
  have hWe : nI (sm (fun j => dys t nob n (6 + j)) (dys t nob n 2)) = W := by rw [hW]; rfl
  rw [hWe]
  unfold w_X5_tells_61
  have hMu := htu.2.1
  refine for_up (α := Int32 × Int32 × Int32 × Int32 × Int32 × Int32 × PI) (t 3) (fun o s => ∃ ω, s = (nI n, nI w, W, (if o = 0 then nI 0 else (ts g (o - 1)).1), (if o = 0 then nI 496 else (ts g (o - 1)).2), nI o, ω) ∧ MZ υ ω ∧ ∀ j, j < 70 → ω 280 j = υ 280 j) ?_ ?_ 0 _ (by omega) ⟨ω, rfl, y1, y3⟩
  · rintro K s ⟨ω, rfl, k1, k3⟩
    show B_X5_tells_61 K _ (nI n) (nI w) W (if t 3 = 0 then nI 0 else (ts g (t 3 - 1)).1) (if t 3 = 0 then nI 496 else (ts g (t 3 - 1)).2) (nI (t 3)) ω
    unfold B_X5_tells_61
    rw [k3 3 (by omega), hMu 3 (by omega), if_neg (show ¬ t 3 = 0 by omega), if_neg (show ¬ t 3 = 0 by omega), nI_inj (by omega) (by omega)]
    refine ⟨fun _ χ ec => ?_, fun z => absurd (Int32.le_refl _) z⟩
    have hRe : Rel χ := hR.k (MZ.kq (τ := χ) (by rw [ec]; exact k1.h6) (by rw [ec, up_s, htu.2.2.2.1]) (fun j hj => by rw [ec, up_ne (by omega)]; exact k3 j hj))
    refine ⟨fun q => ⟨?_, hRe⟩, fun q => ⟨by rw [if_pos q], hRe⟩⟩
    rw [if_neg q, Int32.sub_eq_add_neg, Int32.sub_eq_add_neg, Int32.add_comm (nI 1000) W, Int32.add_assoc, Int32.add_assoc, Int32.add_comm (nI 1000)]
  · rintro K o s ho ⟨ω, rfl, k1, k3⟩ hK
    show B_X5_tells_61 K _ (nI n) (nI w) W (if o = 0 then nI 0 else (ts g (o - 1)).1) (if o = 0 then nI 496 else (ts g (o - 1)).2) (nI o) ω
    unfold B_X5_tells_61 w_X5_tells_101 w_X5_tells_121
    rw [k3 3 (by omega), hMu 3 (by omega), nI_le' (by omega) (by omega), nI_add]
    refine ⟨fun z => absurd z (by omega), fun _ χ ec => M_goOn (hb := hbo o) (t := t) (fun j hj => by rw [ec, up_ne (by omega), k3 j hj]; exact hMu j hj) hI (by rw [ec, up_s]; exact HB_o (by omega)) (by omega) (fun ψ p1 p2 => ?_)⟩
    have hz : MZ υ ψ := MZ.fm (τ := χ) (by rw [ec]; exact k1.h6) p2
    have hId : Iv (999 + n) (dys t (hbo o) n) := dys_iv hI n (by omega)
    have hfe : ∀ Q : Int32 → PI → Prop, Q (g o) ψ → wp_X5_allFeel ψ Q := fun Q hQ => M_allFeel p1 (by rw [dys_2]; exact i2) (by
      have e : nI (sm (fun i => dys t (hbo o) n (6 + i)) (dys t (hbo o) n 2)) = g o := by rw [hg]; rfl
      rw [e]; exact hQ)
    have nx : ∀ x y : Int32, (x, y) = ts g o → wp_X5_takeBack ψ (fun τ26 => K (nI n, nI w, W, x, y, nI (o + 1), τ26)) := fun x y e => M_back hz (fun ξ e1 e2 e3 => hK _ ⟨ξ, by rw [if_neg (by omega), if_neg (by omega), show o + 1 - 1 = o by omega, ← e], e1, e3⟩)
    refine hfe _ ?_
    by_cases h0 : o = 0
    · subst h0
      have hf := fl_le hId
      have l0 : ¬ nI 496 ≤ g 0 := by rw [hg, nI_le' (by omega) (by omega)]; omega
      rw [if_pos rfl, if_pos rfl]
      exact ⟨fun z => absurd z l0, fun _ => hfe _ ⟨fun z => absurd z l0, fun _ => hfe _ (nx _ _ rfl)⟩⟩
    · rw [if_neg h0, if_neg h0]
      obtain ⟨o', rfl⟩ : ∃ o', o = o' + 1 := ⟨o - 1, by omega⟩
      rw [show o' + 1 - 1 = o' by omega]
      refine ⟨fun q => hfe _ ⟨fun _ => nx _ _ ?_, fun z => absurd q z⟩, fun q => hfe _ ⟨fun z => absurd z q, fun _ => hfe _ (nx _ _ ?_)⟩⟩
      · rw [ts, if_pos q]
      · rw [ts, if_neg q]
end AB
