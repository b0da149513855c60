/-! ===== drawn ===== -/
section DR
variable {σ τ υ : PI} {t u : Nat → Nat}
def sd (s : Nat) : Nat → Nat
  | 0 => s
  | i + 1 => sd s i * 16807 % 2147483647
def snt (u : Nat → Nat) (x : Nat) : Nat → Nat := if x % 4 = 0 then snd u (x % u 3) (x % u 2) else u
def dw (t : Nat → Nat) (s : Nat) : Nat → Nat → Nat
  | 0 => t
  | i + 1 => dy (snt (dw t s i) (sd s (i + 1))) nob
def dc (t : Nat → Nat) (s : Nat) : Nat → Nat
  | 0 => 0
  | i + 1 => dc t s i + if us (snt (dw t s i) (sd s (i + 1))) nob = 0 then 0 else 1
theorem sd_lt {s : Nat} (h : s < 2147483647) : ∀ i, sd s i < 2147483647
  | 0 => h
  | i + 1 => Nat.mod_lt _ (by omega)
theorem snt_iv {N x : Nat} (hI : Iv N u) : Iv N (snt u x) := by
  have b := hI.1.b
  unfold snt
  split
  · exact snd_iv hI (Nat.lt_of_lt_of_le (Nat.mod_lt _ (by omega)) (by omega)) (Nat.mod_lt _ (by omega))
  · exact hI
theorem snt_2 {x : Nat} : snt u x 2 = u 2 := by
  unfold snt; split
  · exact snd_2
  · rfl
theorem dw_iv {N s : Nat} (hI : Iv N t) : ∀ i, N + i ≤ 3000 → Iv (N + i) (dw t s i)
  | 0, _ => hI
  | i + 1, h => dy_iv (snt_iv (dw_iv hI i (by omega))) (by omega)
theorem dc_le {s : Nat} : ∀ i, dc t s i ≤ i
  | 0 => Nat.le_refl _
  | i + 1 => by have := dc_le (s := s) i; rw [dc]; split <;> omega
theorem T_draw {N x : Nat} {Q : PI → Prop} (hA : TA σ 1 u) (hI : Iv N u) (hx : x < 2147483647) (h : ∀ τ, TA τ 1 (snt u x) → τ (tc 1 0) 14 = σ (tc 1 0) 14 → Fr 1 σ τ → Q τ) : wp_X3_sendByDraw 1 (lN x) σ Q := by
  have b := hI.1.b
  unfold wp_X3_sendByDraw
  rw [pk_lRem (by omega) (by omega) (by omega), lgc_eq, pk_lEQ (by omega) (by omega), hA.1.1, hA.1.2.1, nI_le' (by omega) (by omega), nI_le' (by omega) (by omega), nI_l (by omega), nI_l (by omega), pk_lEQ (by omega) (by omega), pk_lEQ (by omega) (by omega), pk_lRem (by omega) (by omega) (by omega), pk_lRem (by omega) (by omega) (by omega), lN_i, lN_i]
  have m3 := Nat.mod_lt x (show 0 < u 3 by omega)
  have m2 := Nat.mod_lt x (show 0 < u 2 by omega)
  unfold snt at h
  refine ⟨fun q => ?_, fun q => ⟨fun z => absurd z (by omega), fun _ => ⟨fun z => absurd z (by omega), fun _ => ⟨by omega, by omega, T_sendTo hA (by omega) (by omega) (by omega) (by omega) (fun τ y1 y2 y3 => ?_)⟩⟩⟩⟩
  · rw [if_neg q] at h
    exact h σ hA rfl Fr.rf
  · rw [if_pos q] at h
    exact h τ y1 (by rw [y2]) y3
theorem eq_drawn {a0 a1 a2 : Int32} (h : Rel σ) : wp_X4_drawn a0 a1 a2 σ (fun r τ => wp_X5_drawn a0 a1 a2 τ (fun r' τ' => r = r' ∧ Rel τ')) := by
  unfold wp_X4_drawn
  obtain ⟨t, ht⟩ := h.2.2.2.2.2.1
  refine C_town ht (fun hI hth => o_t' ?_) (fun h2 h0 => z_t' ⟨fun q => absurd h0 q, fun _ => ⟨rfl, h⟩⟩)
  obtain ⟨i1, i2, i3, i4, i5, i6, i7, i8, i9⟩ := hI.1.b
  have nth : ∀ υ, Fr 1 σ υ → ¬ υ 276 4 = nI 0 := fun υ hf => by rw [hf.hi (by omega) (by omega), hth]; exact b_ne
  have nth0 := nth σ Fr.rf
  by_cases hn0 : ¬ ∃ a, 0 ≤ a ∧ a ≤ 60 ∧ a0 = nI a
  · exact C_wf (by omega) (by omega) hn0 (z_t ⟨fun _ => M_if (by omega) (by omega) hn0 (z_t ⟨rfl, h⟩), fun q => absurd q nth0⟩)
  obtain ⟨n, -, hn, rfl⟩ := Classical.not_not.mp hn0
  refine C_wt (by omega) hn (by omega) (o_t ?_)
  by_cases hs0 : ¬ ∃ a, 1 ≤ a ∧ a ≤ 999999 ∧ a1 = nI a
  · exact C_wf (by omega) (by omega) hs0 (z_t ⟨fun _ => M_it (by omega) hn (by omega) (o_t (M_if (by omega) (by omega) hs0 (z_t ⟨rfl, h⟩))), fun q => absurd q nth0⟩)
  obtain ⟨s, hs1, hs, rfl⟩ := Classical.not_not.mp hs0
  refine C_wt hs1 hs (by omega) (o_t ?_)
  by_cases hw0 : ¬ ∃ a, a < 2 ∧ a2 = nI a
  · exact C_bitF hw0 (z_t' ⟨fun _ => M_it (by omega) hn (by omega) (o_t (M_it hs1 hs (by omega) (o_t (M_whF hw0 (z_t' ⟨rfl, h⟩))))), fun q => absurd q nth0⟩)
  obtain ⟨w, hw, rfl⟩ := Classical.not_not.mp hw0
  have hsd := sd_lt (s := s) (by omega)
  have hdc := dc_le (t := t) (s := s)
  have e2 : ∀ i, dw t s i 2 = t 2 := by
    intro i
    induction i with
    | zero => rfl
    | succ i ih => rw [dw, dy_2, snt_2, ih]
  refine C_bitT hw (o_t' (C_try ht (fun τ f1 f2 f3 x ex => ?_)))
  rw [ex, nI_l (n := s) (by omega)]
  obtain ⟨R, hR⟩ : ∃ R : Int32, R = if w = 0 then nI (fl (dw t s n)) else nI (dc t s n) := ⟨_, rfl⟩
  have key : ∀ Q : Int32 → PI → Prop, (∀ υ, Fr 1 σ υ → Q R υ) → w_X4_drawn_62 Q (nI n) (nI w) (lN s) (nI 0) (nI 0) τ := by
    intro Q hQ
    unfold w_X4_drawn_62
    refine for_up (α := Int32 × Int32 × Int64 × Int32 × Int32 × PI) n (fun i z => ∃ υ, z = (nI n, nI w, lN (sd s i), nI (dc t s i), nI i, υ) ∧ TA υ 1 (dw t s i) ∧ υ (tc 1 0) 14 = nI 0 ∧ Fr 1 σ υ) ?_ ?_ 0 _ (by omega) ⟨τ, rfl, f1, f2, f3⟩
    · rintro K z ⟨υ, rfl, g1, g2, g3⟩
      show B_X4_drawn_62 K Q (nI n) (nI w) (lN (sd s n)) (nI (dc t s n)) (nI n) υ
      unfold B_X4_drawn_62
      rw [nI_inj (by omega) (by omega)]
      have hQ' := hQ υ g3
      refine ⟨fun _ => ⟨fun q => ?_, fun q => T_felt g1 (by rw [e2]; omega) ?_⟩, fun z => absurd (Int32.le_refl _) z⟩
      · rw [hR, if_neg q] at hQ'; exact hQ'
      · rw [hR, if_pos q] at hQ'; exact hQ'
    · rintro K i z hi ⟨υ, rfl, g1, g2, g3⟩ hK
      show B_X4_drawn_62 K Q (nI n) (nI w) (lN (sd s i)) (nI (dc t s i)) (nI i) υ
      unfold B_X4_drawn_62 w_X4_drawn_102
      have h1 := hsd i
      have h2 := hsd (i + 1)
      have hIi := dw_iv (s := s) hI i (by omega)
      rw [nI_le' (by omega) (by omega), lN_mul, pk_lRem (by omega) (by omega) (by omega), nI_add i 1, nI_add]
      refine ⟨fun z => absurd z (by omega), fun _ y ey => ?_⟩
      rw [ey]
      refine T_draw (x := sd s (i + 1)) g1 hIi h2 (fun ω w1 w2 w3 => T_passDay (hb := nob) w1 (snt_iv hIi) (by rw [w2, g2]; exact HB_0) (fun ψ p1 p2 p3 => ?_))
      have hK2 := hK (nI n, nI w, lN (sd s (i + 1)), nI (dc t s (i + 1)), nI (i + 1), ψ) ⟨ψ, rfl, p1, by rw [p2, w2, g2], g3.tr (w3.tr p3)⟩
      have h5 : us (snt (dw t s i) (sd s (i + 1))) nob < 32 := bm_le (n := snt (dw t s i) (sd s (i + 1)) 2) (m := 5) _ (by rw [snt_2, e2]; exact i2)
      rw [nI_inj (by omega) (by omega)]
      rw [dc] at hK2
      refine ⟨fun q => ?_, fun q => ?_⟩
      · rw [if_pos q] at hK2; exact hK2
      · rw [if_neg q] at hK2; exact hK2
  refine key _ (fun υ hfr => ?_)
  have hRe := h.fr hfr
  have htu := ht.fr hfr
  refine ⟨fun _ => M_it (by omega) hn (by omega) (o_t (M_it hs1 hs (by omega) (o_t (M_whT hw (o_t' (M_aside (fun ω0 z1 z2 z3 x ex => ?_))))))), fun q => absurd q (nth υ hfr)⟩
  rw [ex, nI_l (n := s) (by omega)]
  unfold w_X5_drawn_58
  refine for_up (α := Int32 × Int32 × Int64 × Int32 × Int32 × PI) n (fun i z => ∃ ω, z = (nI n, nI w, lN (sd s i), nI (dc t s i), nI i, ω) ∧ MA (ω 280) (dw t s i) ∧ ω 276 6 = nI 0 ∧ MZ υ ω) ?_ ?_ 0 _ (by omega) ⟨ω0, rfl, by rw [z3]; exact htu.2.1, by rw [z2, htu.2.2.2.1], z1⟩
  · rintro K z ⟨ω, rfl, g1, g2, g3⟩
    show B_X5_drawn_58 K _ (nI n) (nI w) (lN (sd s n)) (nI (dc t s n)) (nI n) ω
    unfold B_X5_drawn_58 w_X5_drawn_153
    rw [nI_inj (by omega) (by omega)]
    refine ⟨fun _ => ⟨fun q => M_end hRe htu g3 g2 (fun ψ hr => ⟨?_, hr⟩), fun q => M_allFeel g1 (by rw [e2]; omega) (M_end hRe htu g3 g2 (fun ψ hr => ⟨?_, hr⟩))⟩, fun z => absurd (Int32.le_refl _) z⟩
    · rw [hR, if_neg q]
    · rw [hR, if_pos q]; rfl
  · rintro K i z hi ⟨ω, rfl, g1, g2, g3⟩ hK
    show B_X5_drawn_58 K _ (nI n) (nI w) (lN (sd s i)) (nI (dc t s i)) (nI i) ω
    unfold B_X5_drawn_58
    have h1 := hsd i
    have h2 := hsd (i + 1)
    have hIi := dw_iv (s := s) hI i (by omega)
    have b := hIi.1.b
    rw [nI_le' (by omega) (by omega), lN_mul, pk_lRem (by omega) (by omega) (by omega)]
    refine ⟨fun z => absurd z (by omega), fun _ y ey => ?_⟩
    have ey' : y = lN (sd s (i + 1)) := ey
    rw [ey', pk_lRem (by omega) (by omega) (by omega), lgc_eq, pk_lEQ (by omega) (by omega), g1 3 (by omega), g1 2 (by omega), nI_l (by omega), nI_l (by omega), pk_lEQ (by omega) (by omega), pk_lEQ (by omega) (by omega), pk_lRem (by omega) (by omega) (by omega), pk_lRem (by omega) (by omega) (by omega), lN_i, lN_i]
    have go : ∀ ψ : PI, MA (ψ 280) (snt (dw t s i) (sd s (i + 1))) → ψ 276 6 = nI 0 → MZ υ ψ → w_X5_drawn_113 K (fun r' τ' => R = r' ∧ Rel τ') (nI n) (nI w) (lN (sd s (i + 1))) (nI (dc t s i)) (nI i) ψ := by
      intro ψ p1 p2 p3
      unfold w_X5_drawn_113 w_X5_drawn_131
      refine M_oneDay (hb := nob) p1 (snt_iv hIi) (by rw [p2]; exact HB_0) (fun χ x1 x2 x3 => ?_)
      have hK2 := hK (nI n, nI w, lN (sd s (i + 1)), nI (dc t s (i + 1)), nI (i + 1), χ) ⟨χ, rfl, x1, by rw [x3.2 6 (by omega)]; exact p2, p3.fm x3⟩
      have h5 : us (snt (dw t s i) (sd s (i + 1))) nob < 32 := bm_le (n := snt (dw t s i) (sd s (i + 1)) 2) (m := 5) _ (by rw [snt_2, e2]; exact i2)
      rw [x2, nI_inj (by omega) (by omega), nI_add i 1, nI_add, nI_add]
      rw [dc] at hK2
      refine ⟨fun q z ez => ?_, fun q z ez => ?_⟩
      · rw [if_pos q] at hK2; rw [ez]; exact hK2
      · rw [if_neg q] at hK2; rw [ez]; exact hK2
    have m3 := Nat.mod_lt (sd s (i + 1)) (show 0 < dw t s i 3 by omega)
    unfold snt at go
    refine ⟨fun q => ?_, fun q => ⟨by omega, by omega, M_sendTo g1 (by omega) (fun ψ p1 p2 => ?_)⟩⟩
    · rw [if_neg q] at go
      exact go ω g1 g2 g3
    · rw [if_pos q] at go
      exact go ψ p1 (by rw [p2 _ (by omega)]; exact g2) (g3.s p2)
end DR
