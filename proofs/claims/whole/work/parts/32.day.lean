section TW2
variable {σ : PI} {k N : Nat} {t : Nat → Nat} {l m : Nat} {hb : Nat → Bool}
theorem dy_2 : dy t hb 2 = t 2 := by unfold dy; rw [if_neg (by omega), if_neg (by omega), if_neg (by omega)]
theorem dy_3 : dy t hb 3 = t 3 := by unfold dy; rw [if_neg (by omega), if_neg (by omega), if_neg (by omega)]
theorem dy_4 : dy t hb 4 = t 4 + 1 := by unfold dy; rw [if_pos rfl]
theorem dy_x {i : Nat} (h4 : i ≠ 4) (h6 : i < 6 ∨ 6 + t 2 ≤ i) (h40 : i < 40 ∨ 40 + 5 * t 3 ≤ i) : dy t hb i = t i := by unfold dy; rw [if_neg h4, if_neg (by omega), if_neg (by omega)]
theorem dy_f {i : Nat} (hi : i < t 2) : dy t hb (6 + i) = nf t hb i := by
  unfold dy
  rw [if_neg (by omega), if_pos (by omega), show 6 + i - 6 = i by omega]
theorem dy_t (h2 : t 2 ≤ 5) (hl : l < t 3) (hm : m < 5) : dy t hb (40 + 5 * l + m) = t (40 + 5 * l + m) + if pa t hb m l then 1 else 0 := by
  unfold dy
  rw [if_neg (by omega), if_neg (by omega), if_pos (by omega), show (40 + 5 * l + m - 40) % 5 = m by omega, show (40 + 5 * l + m - 40) / 5 = l by omega]
theorem nf_le (hI : Iv N t) (hm : m < t 2) : nf t hb m ≤ 99 := by
  have := (hI.2.1 m hm).1
  unfold nf
  repeat' split
  all_goals omega
theorem dy_iv (hI : Iv N t) (hN : N + 1 ≤ 3000) : Iv (N + 1) (dy t hb) := by
  obtain ⟨⟨h1, h2, h3, h4, h5, h6, h7, h8, h9, h10⟩, hM, hL⟩ := id hI
  refine ⟨?_, fun i hi => ?_, fun l hl => ?_⟩
  · unfold IH
    rw [dy_2, dy_3, dy_4, dy_x (i := 0) (by omega) (by omega) (by omega), dy_x (i := 1) (by omega) (by omega) (by omega), dy_x (i := 5) (by omega) (by omega) (by omega)]
    exact ⟨h1, h2, h3, h4, h5, h6, h7, by omega, h9, hN⟩
  · rw [dy_2] at hi
    unfold IM
    rw [dy_f hi, dy_x (i := 11 + i) (by omega) (by omega) (by omega)]
    exact ⟨nf_le hI hi, (hM i hi).2⟩
  · rw [dy_3] at hl
    obtain ⟨g1, g2, g3, g4, g5, g6, g7⟩ := hL l hl
    unfold IL
    rw [dy_2, dy_4, dy_x (i := 16 + l) (by omega) (by omega) (by omega), dy_x (i := 22 + l) (by omega) (by omega) (by omega), dy_x (i := 28 + l) (by omega) (by omega) (by omega), dy_x (i := 34 + l) (by omega) (by omega) (by omega)]
    refine ⟨g1, g2, g3, g4, g5, g6, fun m hm => ?_⟩
    rw [dy_t h2 hl hm]
    have := g7 m hm
    split <;> omega
theorem T_passDay {Q : Int32 → PI → Prop} (hA : TA σ k t) (hI : Iv N t) (hx : HB (σ (tc k 0) 14) hb)
    (h : ∀ τ, TA τ k (dy t hb) → τ (tc k 0) 14 = σ (tc k 0) 14 → Fr k σ τ → Q (nI (us t hb)) τ) : wp_X3_passDay k σ Q := by
  obtain ⟨i1, i2, i3, i4, i5, i6, i7, i8, i9⟩ := hI.1.b
  unfold wp_X3_passDay w_X3_passDay_9
  refine T_stay hA hI hx (fun x τ hx32 e1 e2 e3 e4 => ?_)
  have ec : ∀ j, j < 9 → j ≠ 7 → j ≠ 8 → τ (tc k j) = σ (tc k j) := fun j hj h7 h8 => e2 _ (by rw [Ne, tc_iff hj (by omega)]; omega) (by rw [Ne, tc_iff hj (by omega)]; omega)
  refine for_h3 (t 2) (fun _ => nI x) (fun i => nI (bm (ud t hb) i)) (fun i => nI i) (fun i υ => (∀ c, c ≠ tc k 1 → υ c = τ c) ∧ (∀ j, υ (tc k 1) j = if j < i then nI (nf t hb j) else σ (tc k 1) j)) ?_ ?_ 0 _ (Nat.zero_le _) ⟨fun _ _ => rfl, fun j => by rw [if_neg (by omega), ec 1 (by omega) (by omega) (by omega)]⟩
  · rintro K υ ⟨g1, g2⟩
    show B_X3_passDay_9 k K Q (nI x) (nI (us t hb)) (nI (t 2)) υ
    unfold B_X3_passDay_9
    have f0 : ∀ j, j < 9 → j ≠ 1 → υ (tc k j) = τ (tc k j) := fun j hj h1 => g1 _ (by rw [Ne, tc_iff hj (by omega)]; omega)
    have q0 : υ (tc k 0) = σ (tc k 0) := by rw [f0 0 (by omega) (by omega), ec 0 (by omega) (by omega) (by omega)]
    rw [q0, hA.1.1]
    refine ⟨fun _ ω ew => ?_, fun q => absurd (Int32.le_refl _) q⟩
    have w0 : ∀ j, j < 9 → j ≠ 0 → ω (tc k j) = υ (tc k j) := fun j hj h1 => by rw [ew, up_ne (by rw [Ne, tc_iff hj (by omega)]; omega)]
    obtain ⟨a8, a9, a10, a11, a12, a13⟩ := hA.1
    have wc : ∀ j, j ≠ 12 → ω (tc k 0) j = σ (tc k 0) j := fun j hj => by rw [ew, up_k hj, q0]
    refine h ω ⟨⟨?_, ?_, ?_, ?_, ?_, ?_⟩, fun i hi => ⟨?_, ?_⟩, fun l hl => ?_⟩ (wc 14 (by omega)) (fun c hc => ?_)
    · rw [wc 8 (by omega), dy_2, a8]
    · rw [wc 9 (by omega), dy_3, a9]
    · rw [wc 10 (by omega), dy_x (by omega) (by omega) (by omega), a10]
    · rw [wc 11 (by omega), dy_x (by omega) (by omega) (by omega), a11]
    · rw [ew, up_s, a12, dy_4, nI_add]
    · rw [wc 13 (by omega), dy_x (by omega) (by omega) (by omega), a13]
    · rw [dy_2] at hi
      rw [w0 1 (by omega) (by omega), g2, if_pos hi, dy_f hi]
    · rw [dy_2] at hi
      rw [w0 2 (by omega) (by omega), f0 2 (by omega) (by omega), ec 2 (by omega) (by omega) (by omega), (hA.2.1 i hi).2, dy_x (by omega) (by omega) (by omega)]
    · rw [dy_3] at hl
      obtain ⟨w3, w4, w5, w6, w7⟩ := hA.2.2 l hl
      refine ⟨?_, ?_, ?_, ?_, fun m hm => ?_⟩
      · rw [w0 3 (by omega) (by omega), f0 3 (by omega) (by omega), ec 3 (by omega) (by omega) (by omega), w3, dy_x (by omega) (by omega) (by omega)]
      · rw [w0 4 (by omega) (by omega), f0 4 (by omega) (by omega), ec 4 (by omega) (by omega) (by omega), w4, dy_x (by omega) (by omega) (by omega)]
      · rw [w0 5 (by omega) (by omega), f0 5 (by omega) (by omega), ec 5 (by omega) (by omega) (by omega), w5, dy_x (by omega) (by omega) (by omega)]
      · rw [w0 6 (by omega) (by omega), f0 6 (by omega) (by omega), ec 6 (by omega) (by omega) (by omega), w6, dy_x (by omega) (by omega) (by omega)]
      · rw [w0 7 (by omega) (by omega), f0 7 (by omega) (by omega), e4 l m hl hm, dy_t i2 hl hm]
    · show ω c = σ c
      rw [ew, up_ne (hc 0 (by omega)), g1 c (hc 1 (by omega)), e2 c (hc 7 (by omega)) (hc 8 (by omega))]
  · rintro K i υ hi ⟨g1, g2⟩ hK
    show B_X3_passDay_9 k K Q (nI x) (nI (bm (ud t hb) i)) (nI i) υ
    unfold B_X3_passDay_9 w_X3_passDay_115
    have f0 : ∀ j, j < 9 → j ≠ 1 → υ (tc k j) = τ (tc k j) := fun j hj h1 => g1 _ (by rw [Ne, tc_iff hj (by omega)]; omega)
    have q0 : υ (tc k 0) = σ (tc k 0) := by rw [f0 0 (by omega) (by omega), ec 0 (by omega) (by omega) (by omega)]
    obtain ⟨a8, a9, a10, a11, a12, a13⟩ := hA.1
    have hmd := md_le (hb := hb) (m := i) hI (t 3) (Nat.le_refl _)
    have him := hI.2.1 i hi
    have v1 : υ (tc k 1) i = nI (t (6 + i)) := by rw [g2, if_neg (by omega), (hA.2.1 i hi).1]
    have v2 : υ (tc k 2) i = nI (t (11 + i)) := by rw [f0 2 (by omega) (by omega), ec 2 (by omega) (by omega) (by omega), (hA.2.1 i hi).2]
    have v8 : υ (tc k 8) i = nI (md t hb i (t 3)) := by rw [f0 8 (by omega) (by omega), e3 i (by omega)]
    obtain ⟨b1, b2⟩ := him
    have hlt := bm_lt (ud t hb) i
    have hv : vp_in (nI i) 5 := vpN (by omega) (by omega)
    rw [q0, a8, nI_le' (by omega) (by omega), nI_cl (a := i) (by omega)]
    refine ⟨fun q => absurd q (by omega), fun _ => ?_⟩
    unfold wp_X4_bit
    dsimp only
    rw [nI_bit (by omega) (by omega), v1, v2, v8, q0, a10, nI_sat (by omega) (by omega), nI_sat (by omega) (by omega), nI_add (t (6 + i)) (md t hb i (t 3)), nI_min (by omega) (by omega), nI_le' (by omega) (by omega), nI_add i 1, nI_shl (by omega), nI_or hlt]
    have hb1 : x / 2 ^ i % 2 = if aw t hb i (t 3) = 0 then 0 else 1 := by
      have := e1 i (by omega)
      rw [Nat.testBit_eq_decide_div_mod_eq] at this
      by_cases q : aw t hb i (t 3) = 0
      · simp [q] at this
        rw [if_pos q]; omega
      · simp [q] at this
        rw [if_neg q]; omega
    have fin : ∀ (ω : PI) (v : Int32), ω = up υ (tc k 1) i v → v = nI (nf t hb i) → (∀ c, c ≠ tc k 1 → ω c = τ c) ∧ (∀ j, ω (tc k 1) j = if j < i + 1 then nI (nf t hb j) else σ (tc k 1) j) := by
      intro ω v e ev
      refine ⟨fun c hc => by rw [e, up_ne hc, g1 c hc], fun j => ?_⟩
      rw [e]
      by_cases q : j = i
      · subst q; rw [up_s, if_pos (by omega), ev]
      · rw [up_k q, g2]
        by_cases q2 : j < i
        · rw [if_pos q2, if_pos (by omega)]
        · rw [if_neg q2, if_neg (by omega)]
    by_cases qa : aw t hb i (t 3) = 0
    · rw [hb1, if_pos qa]
      refine ⟨fun q => absurd rfl q, fun _ => ⟨hv, hv, fun ω e => ?_⟩⟩
      have := hK ω (fin ω _ e (by unfold nf; rw [if_pos qa]))
      rw [show bm (ud t hb) (i + 1) = bm (ud t hb) i from by simp [bm, ud, qa]] at this
      exact this
    · rw [hb1, if_neg qa]
      refine ⟨fun _ => ⟨hv, hv, fun q => ⟨hv, hv, fun ω e y hy => ?_⟩, fun q => ⟨hv, hv, hv, fun ω e => ?_⟩⟩, fun q => absurd q b_ne⟩
      · have := hK ω (fin ω _ e (by unfold nf; rw [if_neg qa, if_neg (by omega)]))
        rw [show bm (ud t hb) (i + 1) = bm (ud t hb) i + 2 ^ i from by simp [bm, ud, qa, show ¬ (t (11 + i) < md t hb i (t 3)) by omega]] at this
        rw [hy]
        exact this
      · have := hK ω (fin ω _ e (by unfold nf; rw [if_neg qa, if_pos (show t (11 + i) < md t hb i (t 3) by omega)]))
        rw [show bm (ud t hb) (i + 1) = bm (ud t hb) i from by simp [bm, ud, qa, show (t (11 + i) < md t hb i (t 3)) by omega]] at this
        exact this
/-- n days -/
def dys (t : Nat → Nat) (hb : Nat → Bool) : Nat → Nat → Nat
  | 0 => t
  | n + 1 => dy (dys t hb n) hb
theorem dys_iv (hI : Iv N t) : ∀ n, N + n ≤ 3000 → Iv (N + n) (dys t hb n)
  | 0, _ => hI
  | n + 1, h => dy_iv (dys_iv hI n (by omega)) (by omega)
theorem dys_2 : ∀ n, dys t hb n 2 = t 2
  | 0 => rfl
  | n + 1 => by rw [dys, dy_2, dys_2 n]
theorem dys_3 : ∀ n, dys t hb n 3 = t 3
  | 0 => rfl
  | n + 1 => by rw [dys, dy_3, dys_3 n]
theorem T_passDays {Q : PI → Prop} {n : Nat} (hA : TA σ k t) (hI : Iv N t) (hx : HB (σ (tc k 0) 14) hb) (hn : N + n ≤ 3000)
    (h : ∀ τ, TA τ k (dys t hb n) → τ (tc k 0) 14 = σ (tc k 0) 14 → Fr k σ τ → Q τ) : wp_X3_passDays k (nI n) σ Q := by
  unfold wp_X3_passDays w_X3_passDays_2
  refine for_h2 n (fun _ => nI n) (fun i => nI i) (fun i τ => TA τ k (dys t hb i) ∧ τ (tc k 0) 14 = σ (tc k 0) 14 ∧ Fr k σ τ) ?_ ?_ 0 _ (Nat.zero_le _) ⟨hA, rfl, Fr.rf⟩
  · rintro K τ ⟨g1, g2, g3⟩
    show B_X3_passDays_2 k K Q (nI n) (nI n) τ
    unfold B_X3_passDays_2
    exact ⟨fun _ => h τ g1 g2 g3, fun q => absurd (Int32.le_refl _) q⟩
  · rintro K i τ hi ⟨g1, g2, g3⟩ hK
    show B_X3_passDays_2 k K Q (nI n) (nI i) τ
    unfold B_X3_passDays_2
    rw [nI_le' (by omega) (by omega), nI_add]
    refine ⟨fun q => absurd q (by omega), fun _ => T_passDay g1 (dys_iv hI i (by omega)) (by rw [g2]; exact hx) (fun υ f1 f2 f3 => ?_)⟩
    exact hK υ ⟨f1, f2.trans g2, g3.tr f3⟩
theorem T_ofKind {Q : Int32 → PI → Prop} {w : Nat} (hA : TA σ k t) (hI : Iv N t) (hw : w < 2147483648) (h : Q (nI (bm (fun l => decide (t (16 + l) = w)) (t 3))) σ) : wp_X3_ofKind k (nI w) σ Q := by
  obtain ⟨i1, i2, i3, i4, i5, i6, i7, i8, i9⟩ := hI.1.b
  unfold wp_X3_ofKind w_X3_ofKind_4
  refine for_det (t 3) (fun i => (nI w, nI (bm (fun l => decide (t (16 + l) = w)) i), nI i, σ)) (fun K => ?_) (fun K i hi hK => ?_) 0 (Nat.zero_le _)
  · show B_X3_ofKind_4 k K Q (nI w) (nI (bm (fun l => decide (t (16 + l) = w)) (t 3))) (nI (t 3)) σ
    unfold B_X3_ofKind_4
    rw [hA.1.2.1]
    exact ⟨fun _ => h, fun q => absurd (Int32.le_refl _) q⟩
  · show B_X3_ofKind_4 k K Q (nI w) (nI (bm (fun l => decide (t (16 + l) = w)) i)) (nI i) σ
    unfold B_X3_ofKind_4 w_X3_ofKind_28
    have hlt := bm_lt (fun l => decide (t (16 + l) = w)) i
    have hk := (hI.2.2 i hi).2.1
    rw [hA.1.2.1, nI_le' (by omega) (by omega), nI_cl (a := i) (by omega), (hA.2.2 i hi).1, nI_inj (by omega) hw, nI_add]
    refine ⟨fun q => absurd q (by omega), fun _ => ⟨vpN (by omega) (by omega), fun q => ?_, fun q x hx => ?_⟩⟩
    · simpa [bm, q] using hK
    · rw [hx, nI_shl (by omega), nI_or hlt]
      simpa [bm, q] using hK
end TW2
