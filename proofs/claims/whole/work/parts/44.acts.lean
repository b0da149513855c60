/-! ===== acts ===== -/
def pn (n : Nat) : Nat := if n < 24 then n + 1 else 24
def pA (n : Nat) (A : Nat → Nat → Nat) (t : Nat → Nat) : Nat → Nat → Nat := if n < 24 then (fun j => if j = n then t else A j) else (fun j => if j < 23 then A (j + 1) else t)
def Fa (σ τ : PI) : Prop := ∀ c, (c < 36 ∨ 252 ≤ c) → c ≠ 256 → τ c = σ c
theorem pn_le {n : Nat} (h : n ≤ 24) : pn n ≤ 24 ∧ 1 ≤ pn n := by unfold pn; split <;> omega
theorem pA_iv {n : Nat} {A : Nat → Nat → Nat} {t : Nat → Nat} (hn : n ≤ 24) (h : ∀ j, j < n → Iv 999 (A j)) (ht : Iv 999 t) : ∀ j, j < pn n → Iv 999 (pA n A t j) := by
  intro j hj
  unfold pn at hj
  unfold pA
  by_cases q : n < 24
  · rw [if_pos q] at hj ⊢
    by_cases e : j = n
    · rw [if_pos e]; exact ht
    · rw [if_neg e]; exact h j (by omega)
  · rw [if_neg q] at hj ⊢
    by_cases e : j < 23
    · rw [if_pos e]; exact h (j + 1) (by omega)
    · rw [if_neg e]; exact ht
section AC
variable {σ : PI} {t : Nat → Nat} {n : Nat} {A : Nat → Nat → Nat}
theorem C_keep {Q : PI → Prop} (hC : CA σ n A) (hn : n ≤ 24) (hA : TA σ 0 t) (hh : σ (tc 0 0) 14 = nI 0) (h2 : t 2 ≤ 5) (h3 : t 3 ≤ 6) (h : ∀ τ, CA τ (pn n) (pA n A t) → Fa σ τ → Q τ) : wp_X0_keep 0 σ Q := by
  obtain ⟨o, ho, e1, e2, e3⟩ := hC
  unfold wp_X0_keep
  have hm : (o + n) % 24 < 24 := Nat.mod_lt _ (by omega)
  rw [e1, e2, nI_add, nI_rem (by omega) (by omega) (by omega), nI_cl (a := (o + n) % 24) (by omega)]
  refine ⟨vpN hm (by omega), T_copy (by omega) (fun τ hc => ?_)⟩
  have hf := hc.2.2.2.2
  have f256 : τ 256 = σ 256 := hf.hi (by omega) (by omega)
  have hT := hc.ta hA h2 h3
  have hhm : τ (tc (4 + (o + n) % 24) 0) 14 = nI 0 := by rw [hc.1 14 (by omega) (by omega), hh]
  have hFa : ∀ (υ : PI) (s : Nat) (v : Int32), υ = up τ 256 s v → Fa σ υ := by
    intro υ s v e c h1 h2
    rw [e, up_ne h2]
    exact hf c (fun j hj => by unfold tc; omega)
  have old : ∀ j, j < n → (o + j) % 24 ≠ (o + n) % 24 → TA τ (4 + (o + j) % 24) (A j) ∧ τ (tc (4 + (o + j) % 24) 0) 14 = nI 0 := by
    intro j hj hne
    have := Nat.mod_lt (o + j) (show 24 > 0 by omega)
    exact ⟨(e3 j hj).1.fr hf (by omega), by rw [hf.o (by omega) (by omega)]; exact (e3 j hj).2⟩
  have cel : ∀ (υ : PI) (s : Nat) (v : Int32), υ = up τ 256 s v → ∀ k, k < 28 → ∀ j, j < 9 → υ (tc k j) = τ (tc k j) := fun υ s v e k hk j hj => by rw [e, up_ne (tc_hi hk hj (by omega))]
  rw [f256, e1, e2, nI_le' (by omega) (by omega), nI_add, nI_add, nI_rem (by omega) (by omega) (by omega)]
  refine ⟨fun q υ e => ?_, fun q υ e => ?_⟩
  · obtain rfl : n = 24 := by omega
    refine h υ ⟨(o + 1) % 24, Nat.mod_lt _ (by omega), by rw [e, up_s], by rw [e, up_k (by omega), f256, e2]; rfl, fun j hj => ?_⟩ (hFa υ _ _ e)
    unfold pn at hj
    rw [if_neg (by omega)] at hj
    unfold pA
    rw [if_neg (by omega)]
    have hlt := Nat.mod_lt ((o + 1) % 24 + j) (show 24 > 0 by omega)
    by_cases q2 : j < 23
    · rw [if_pos q2]
      have ee : ((o + 1) % 24 + j) % 24 = (o + (j + 1)) % 24 := by omega
      rw [ee]
      have := old (j + 1) (by omega) (by omega)
      exact ⟨this.1.cells (cel υ _ _ e _ (by omega)), by rw [cel υ _ _ e _ (by omega) 0 (by omega)]; exact this.2⟩
    · rw [if_neg q2]
      have ee : ((o + 1) % 24 + j) % 24 = (o + 24) % 24 := by omega
      rw [ee]
      exact ⟨hT.cells (cel υ _ _ e _ (by omega)), by rw [cel υ _ _ e _ (by omega) 0 (by omega)]; exact hhm⟩
  · refine h υ ⟨o, ho, by rw [e, up_k (by omega), f256, e1], by rw [e, up_s]; unfold pn; rw [if_pos (by omega)], fun j hj => ?_⟩ (hFa υ _ _ e)
    unfold pn at hj
    rw [if_pos (by omega)] at hj
    unfold pA
    rw [if_pos (by omega)]
    have hlt := Nat.mod_lt (o + j) (show 24 > 0 by omega)
    by_cases q2 : j = n
    · subst q2
      rw [if_pos rfl]
      exact ⟨hT.cells (cel υ _ _ e _ (by omega)), by rw [cel υ _ _ e _ (by omega) 0 (by omega)]; exact hhm⟩
    · rw [if_neg q2]
      have := old j (by omega) (by omega)
      exact ⟨this.1.cells (cel υ _ _ e _ (by omega)), by rw [cel υ _ _ e _ (by omega) 0 (by omega)]; exact this.2⟩
def Fn (σ τ : PI) : Prop := (∀ c, c ≠ 284 → c ≠ 276 → τ c = σ c) ∧ ∀ f, f ≠ 19 → τ 276 f = σ 276 f
theorem M_note {Q : PI → Prop} (hC : MN σ n A) (hn : n ≤ 24) (hA : MA (σ 280) t) (h : ∀ τ, MN τ (pn n) (pA n A t) → Fn σ τ → Q τ) : wp_X5_note σ Q := by
  obtain ⟨e1, e2⟩ := hC
  -- the store of st behind the m acts that are left
  have key : ∀ (m : Nat) (τ : PI), m < 24 → τ 276 19 = nI m → Fn σ τ → (∀ υ, Fn σ υ → υ 276 19 = nI (m + 1) → (∀ j, υ 284 j = if 70 * m ≤ j ∧ j < 70 * m + 70 then nI (t (j - 70 * m)) else τ 284 j) → Q υ) → w_X5_note_49 Q τ := by
    intro m τ hm f1 f2 hQ
    unfold w_X5_note_49 w_X5_note_51
    refine for_h1 70 (fun i => nI i) (fun i υ => Fn σ υ ∧ υ 276 19 = nI m ∧ (∀ j, υ 284 j = if 70 * m ≤ j ∧ j < 70 * m + i then nI (t (j - 70 * m)) else τ 284 j)) ?_ ?_ 0 _ (Nat.zero_le _) ⟨f2, f1, fun j => by rw [if_neg (by omega)]⟩
    · rintro K υ ⟨g1, g2, g3⟩
      show B_X5_note_51 K Q (nI 70) υ
      unfold B_X5_note_51
      refine ⟨fun _ ω e => hQ ω ⟨fun c h1 h2 => by rw [e, up_ne h2]; exact g1.1 c h1 h2, fun f hf => by rw [e, up_k hf]; exact g1.2 f hf⟩ (by rw [e, up_s, g2, nI_add]) (fun j => by rw [e, up_ne (by omega), g3]), fun q => absurd (Int32.le_refl _) q⟩
    · rintro K i υ hi ⟨g1, g2, g3⟩ hK
      show B_X5_note_51 K Q (nI i) υ
      unfold B_X5_note_51
      rw [nI_le' (by omega) (by omega), g2, pk_mul, nI_add (70 * m) i, nI_cl (a := 70 * m + i) (by omega), nI_cl (a := i) (by omega), g1.1 280 (by omega) (by omega), hA i hi, nI_add i 1]
      refine ⟨fun q => absurd q (by omega), fun _ => ⟨vpN (by omega) (by omega), vpN (by omega) (by omega), fun ω e => hK ω ⟨⟨fun c h1 h2 => by rw [e, up_ne h1]; exact g1.1 c h1 h2, fun f hf => by rw [e, up_ne (by omega)]; exact g1.2 f hf⟩, by rw [e, up_ne (by omega)]; exact g2, fun j => ?_⟩⟩⟩
      rw [e]
      by_cases q : j = 70 * m + i
      · subst q; rw [up_s, if_pos (by omega), show 70 * m + i - 70 * m = i by omega]
      · rw [up_k q, g3]
        by_cases q2 : 70 * m ≤ j ∧ j < 70 * m + i
        · rw [if_pos q2, if_pos (by omega)]
        · rw [if_neg q2, if_neg (by omega)]
  unfold wp_X5_note
  rw [e1, nI_inj (by omega) (by omega)]
  refine ⟨fun q => key n σ (by omega) e1 ⟨fun _ _ _ => rfl, fun _ _ => rfl⟩ (fun υ g1 g2 g3 => ?_), fun q => ?_⟩
  · refine h υ ⟨by rw [g2]; unfold pn; rw [if_pos (by omega)], fun j hj i hi => ?_⟩ g1
    unfold pn at hj
    rw [if_pos (by omega)] at hj
    unfold pA
    rw [if_pos (by omega)]
    show υ 284 (70 * j + i) = _
    rw [g3]
    by_cases q2 : j = n
    · subst q2; rw [if_pos (by omega), if_pos rfl, show 70 * j + i - 70 * j = i by omega]
    · rw [if_neg (by omega), if_neg q2]; exact e2 j (by omega) i hi
  · subst q
    unfold w_X5_note_11
    refine for_h1 1610 (fun i => nI i) (fun i τ => Fn σ τ ∧ τ 276 19 = nI 24 ∧ (∀ j, j < 1680 → τ 284 j = if j < i then σ 284 (j + 70) else σ 284 j)) ?_ ?_ 0 _ (Nat.zero_le _) ⟨⟨fun _ _ _ => rfl, fun _ _ => rfl⟩, e1, fun j _ => by rw [if_neg (by omega)]⟩
    · rintro K τ ⟨g1, g2, g3⟩
      show B_X5_note_11 K Q (nI 1610) τ
      unfold B_X5_note_11
      refine ⟨fun _ υ e => ?_, fun q => absurd (Int32.le_refl _) q⟩
      refine key 23 υ (by omega) (by rw [e, up_s, g2, nI_sub (by omega)]) ⟨fun c h1 h2 => by rw [e, up_ne h2]; exact g1.1 c h1 h2, fun f hf => by rw [e, up_k hf]; exact g1.2 f hf⟩ (fun ω f1 f2 f3 => ?_)
      refine h ω ⟨f2, fun j hj i hi => ?_⟩ f1
      unfold pn at hj
      rw [if_neg (by omega)] at hj
      unfold pA
      rw [if_neg (by omega)]
      show ω 284 (70 * j + i) = _
      rw [f3]
      by_cases q2 : j < 23
      · rw [if_neg (by omega), if_pos q2, e, up_ne (by omega), g3 _ (by omega), if_pos (by omega), show 70 * j + i + 70 = 70 * (j + 1) + i by omega]
        exact e2 (j + 1) (by omega) i hi
      · rw [if_pos (by omega), if_neg q2, show 70 * j + i - 70 * 23 = i by omega]
    · rintro K i τ hi ⟨g1, g2, g3⟩ hK
      show B_X5_note_11 K Q (nI i) τ
      unfold B_X5_note_11
      rw [nI_le' (by omega) (by omega), nI_add i 70, nI_cl (a := i + 70) (by omega), nI_cl (a := i) (by omega), nI_add]
      refine ⟨fun q => absurd q (by omega), fun _ => ⟨vpN (by omega) (by omega), vpN (by omega) (by omega), fun υ e => hK υ ⟨⟨fun c h1 h2 => by rw [e, up_ne h1]; exact g1.1 c h1 h2, fun f hf => by rw [e, up_ne (by omega)]; exact g1.2 f hf⟩, by rw [e, up_ne (by omega)]; exact g2, fun j hj => ?_⟩⟩⟩
      rw [e]
      by_cases q : j = i
      · subst q; rw [up_s, if_pos (by omega), g3 _ (by omega), if_neg (by omega)]
      · rw [up_k q, g3 j hj]
        by_cases q2 : j < i
        · rw [if_pos q2, if_pos (by omega)]
        · rw [if_neg q2, if_neg (by omega)]
/-- what an act of the town leaves: the town is t', one more act can be undone -/
theorem Rel.act {υ : PI} {t' : Nat → Nat} {n' : Nat} {A' : Nat → Nat → Nat} (h : Rel σ) (hth : σ 276 4 = nI 1)
    (hc : ∀ c, (18 ≤ c ∧ c < 36) ∨ (252 ≤ c ∧ c ≠ 256 ∧ c ≠ 276 ∧ c ≠ 280 ∧ c ≠ 284) → υ c = σ c) (hf : ∀ f, f ≠ 19 → f ≠ 17 → υ 276 f = σ 276 f)
    (hA : TA υ 0 t') (hM : MA (υ 280) t') (hI : Iv 999 t') (hh : υ (tc 0 0) 14 = nI 0) (hn : n' ≤ 24) (hCA : CA υ n' A') (hMN : MN υ n' A') (hIA : ∀ j, j < n' → Iv 999 (A' j)) : Rel υ := by
  obtain ⟨r1, r2, r3, r4, r5, ⟨t, r6⟩, r7, r8⟩ := h
  refine ⟨fun r hr => (r1 r hr).k hr (fun c hcc => hc c (by unfold rwc at hcc; omega)), by rw [hc 252 (by omega), hf 3 (by omega) (by omega)]; exact r2, by rw [hc 252 (by omega), hf 10 (by omega) (by omega)]; exact r3, ?_, ?_, ⟨t', hA, hM, hh, by rw [hf 6 (by omega) (by omega)]; exact r6.2.2.2.1, Or.inl ⟨by rw [hf 4 (by omega) (by omega)]; exact hth, hI⟩⟩, ⟨n', A', hn, hCA, hMN, fun _ => by rw [hf 4 (by omega) (by omega)]; exact hth, hIA⟩, fun k hk => ?_⟩
  · unfold RTp at r4 ⊢
    rw [hc 257 (by omega), hf 9 (by omega) (by omega), hc 258 (by omega), hc 282 (by omega)]; exact r4
  · unfold RTr at r5 ⊢
    rw [hc 252 (by omega), hf 24 (by omega) (by omega), hc 259 (by omega), hc 288 (by omega)]; exact r5
  · rw [hc 286 (by omega), hf 4 (by omega) (by omega), hc (tc (2 + k) 0) (by unfold tc; omega)]
    rcases r8 k hk with ⟨k1, k2, t, k3, k4, k5, k6⟩ | k1
    · exact Or.inl ⟨k1, k2, t, k3, k4.cells (fun i hi => hc _ (by unfold tc; omega)), k5, by rw [hc 287 (by omega)]; exact k6⟩
    · exact Or.inr k1
theorem CA.cells {τ : PI} (h : CA σ n A) (e : ∀ c, (36 ≤ c ∧ c < 252) ∨ c = 256 → τ c = σ c) : CA τ n A := by
  obtain ⟨o, h1, h2, h3, h4⟩ := h
  refine ⟨o, h1, by rw [e 256 (by omega)]; exact h2, by rw [e 256 (by omega)]; exact h3, fun j hj => ⟨(h4 j hj).1.cells (fun i hi => e _ (by unfold tc; omega)), by rw [e _ (by unfold tc; omega)]; exact (h4 j hj).2⟩⟩
theorem MN.cells {τ : PI} (h : MN σ n A) (e : τ 284 = σ 284) (e2 : τ 276 19 = σ 276 19) : MN τ n A := ⟨by rw [e2]; exact h.1, fun j hj => by rw [e]; exact h.2 j hj⟩
/-! ===== send, weight, patience, bar, days, undo, image, restore ===== -/
theorem upt_iv {i v : Nat} {N : Nat} (hI : Iv N t) (hi : (28 ≤ i ∧ i < 34 ∧ 1 ≤ v ∧ v ≤ 9) ∨ (11 ≤ i ∧ i < 16 ∧ v ≤ 9) ∨ (i = 5 ∧ v < 2 ^ t 2)) : Iv N (fun j => if j = i then v else t j) := by
  obtain ⟨⟨h1, h2, h3, h4, h5, h6, h7, h8, h9, h10⟩, hM, hL⟩ := hI
  have e0 : ∀ j, j ≠ i → (fun j => if j = i then v else t j) j = t j := fun j hj => by simp [hj]
  refine ⟨?_, fun m hm => ?_, fun l hl => ?_⟩
  · unfold IH
    rw [e0 2 (by omega), e0 3 (by omega), e0 0 (by omega), e0 1 (by omega), e0 4 (by omega)]
    refine ⟨h1, h2, h3, h4, h5, h6, h7, h8, ?_, h10⟩
    by_cases q : i = 5
    · subst q; simp; omega
    · rw [e0 5 (by omega)]; exact h9
  · rw [e0 2 (by omega)] at hm
    have := hM m hm
    unfold IM at this ⊢
    rw [e0 (6 + m) (by omega)]
    refine ⟨this.1, ?_⟩
    by_cases q : 11 + m = i
    · simp [q]; omega
    · rw [e0 _ q]; exact this.2
  · rw [e0 3 (by omega)] at hl
    obtain ⟨g1, g2, g3, g4, g5, g6, g7⟩ := hL l hl
    unfold IL
    rw [e0 2 (by omega), e0 4 (by omega), e0 (16 + l) (by omega), e0 (22 + l) (by omega), e0 (34 + l) (by omega)]
    refine ⟨g1, g2, g3, ?_, ?_, g6, fun m hm => by rw [e0 _ (by omega)]; exact g7 m hm⟩
    · by_cases q : 28 + l = i
      · simp [q]; omega
      · rw [e0 _ q]; exact g4
    · by_cases q : 28 + l = i
      · simp [q]; omega
      · rw [e0 _ q]; exact g5
theorem snd_iv {l h0 N : Nat} (hI : Iv N t) (hl : l < 6) (hh : h0 < t 2) : Iv N (snd t l h0) := by
  obtain ⟨⟨h1, h2, h3, h4, h5, h6, h7, h8, h9, h10⟩, hM, hL⟩ := hI
  have e0 : ∀ j, j ≠ 22 + l → (j < 40 + 5 * l ∨ 45 + 5 * l ≤ j) → snd t l h0 j = t j := fun j h1 h2 => by unfold snd; rw [if_neg h1, if_neg (by omega)]
  refine ⟨?_, fun m hm => ?_, fun l' hl' => ?_⟩
  · unfold IH
    rw [e0 2 (by omega) (by omega), e0 3 (by omega) (by omega), e0 0 (by omega) (by omega), e0 1 (by omega) (by omega), e0 4 (by omega) (by omega), e0 5 (by omega) (by omega)]
    exact ⟨h1, h2, h3, h4, h5, h6, h7, h8, h9, h10⟩
  · rw [e0 2 (by omega) (by omega)] at hm
    unfold IM
    rw [e0 (6 + m) (by omega) (by omega), e0 (11 + m) (by omega) (by omega)]
    exact hM m hm
  · rw [e0 3 (by omega) (by omega)] at hl'
    obtain ⟨g1, g2, g3, g4, g5, g6, g7⟩ := hL l' hl'
    unfold IL
    rw [e0 2 (by omega) (by omega), e0 4 (by omega) (by omega), e0 (16 + l') (by omega) (by omega), e0 (28 + l') (by omega) (by omega), e0 (34 + l') (by omega) (by omega)]
    refine ⟨g1, g2, ?_, g4, g5, g6, fun m hm => ?_⟩
    · by_cases q : l' = l
      · subst q; unfold snd; rw [if_pos rfl]; exact hh
      · rw [e0 _ (by omega) (by omega)]; exact g3
    · by_cases q : l' = l
      · subst q; unfold snd; rw [if_neg (by omega), if_pos (by omega)]; omega
      · rw [e0 _ (by omega) (by omega)]; exact g7 m hm
theorem eq_send {a0 a1 : Int32} (h : Rel σ) : wp_X4_send a0 a1 σ (fun r τ => wp_X5_send a0 a1 τ (fun r' τ' => r = r' ∧ Rel τ')) := by
  unfold wp_X4_send
  obtain ⟨t, ht⟩ := h.2.2.2.2.2.1
  obtain ⟨b2, b3, b4⟩ := ht.b
  have m2 := ht.2.1 2 (by omega)
  have m3 := ht.2.1 3 (by omega)
  by_cases hr0 : ¬ ∃ a, a < t 3 ∧ a0 = nI a
  · exact C_lvF ht.1.1.2.1 (by omega) hr0 (z_t (M_lvF m3 (by omega) hr0 (z_t ⟨rfl, h⟩)))
  obtain ⟨a, ha, rfl⟩ := Classical.not_not.mp hr0
  refine C_lvT ht.1.1.2.1 (by omega) ha (o_t ?_)
  by_cases hs0 : ¬ ∃ a, a < t 2 ∧ a1 = nI a
  · exact C_manF ht.1.1.1 (by omega) hs0 (z_t' (M_lvT m3 (by omega) ha (o_t (M_manF m2 (by omega) hs0 (z_t' ⟨rfl, h⟩)))))
  obtain ⟨c, hc, rfl⟩ := Classical.not_not.mp hs0
  obtain ⟨hI, hth⟩ := b4 (by omega)
  obtain ⟨n, A, hn, hCA, hMN, hz, hIA⟩ := h.2.2.2.2.2.2.1
  refine C_manT ht.1.1.1 (by omega) hc (o_t' ⟨vpN (by omega) (by omega), fun x ex => C_keep hCA hn ht.1 ht.2.2.1 b2 b3 (fun τ k1 k2 => ?_)⟩)
  have hA1 : TA τ 0 t := ht.1.cells (fun j hj => k2 _ (by unfold tc; omega) (by unfold tc; omega))
  refine T_sendTo hA1 (by omega) (by omega) b2 b3 (fun υ f1 f2 f3 => ?_)
  have u2 : ∀ c, (9 ≤ c ∧ c < 36) ∨ (252 ≤ c ∧ c ≠ 256) → υ c = σ c := fun c hc => by rw [f3 c (fun j hj => by unfold tc; omega), k2 c (by omega) (by omega)]
  have uA : CA υ (pn n) (pA n A t) := k1.cells (fun c hc => f3 c (fun j hj => by unfold tc; omega))
  refine M_lvT (n := t 3) (by rw [u2 280 (by omega)]; exact m3) (by omega) ha (o_t (M_manT (n := t 2) (by rw [u2 280 (by omega)]; exact m2) (by omega) hc (o_t' ?_)))
  refine M_note (n := n) (A := A) (t := t) ⟨by rw [u2 276 (by omega)]; exact hMN.1, fun j hj => by rw [u2 284 (by omega)]; exact hMN.2 j hj⟩ hn (by rw [u2 280 (by omega)]; exact ht.2.1) (fun ω w1 w2 => ?_)
  have wM : MA (ω 280) t := by rw [w2.1 280 (by omega) (by omega), u2 280 (by omega)]; exact ht.2.1
  rw [nI_add, nI_cl (a := 22 + a) (by omega), wM _ (by omega)]
  refine ⟨vpN (by omega) (by omega), fun y ey => M_sendTo wM (by omega) (fun χ x1 x2 => ⟨?_, ?_⟩)⟩
  · rw [ex, ey, nI_cl (a := a) (by omega), (ht.1.2.2 a ha).2.1]
  · have xc : ∀ c, c ≠ 280 → c ≠ 276 → c ≠ 284 → χ c = υ c := fun c h1 h2 h3 => by rw [x2 c h1, w2.1 c h3 h2]
    refine h.act hth (fun c hc => ?_) (fun f q1 q2 => ?_) (t' := snd t a c) (n' := pn n) (A' := pA n A t) (f1.cells (fun j hj => xc _ (by unfold tc; omega) (by unfold tc; omega) (by unfold tc; omega))) x1 (snd_iv hI (by omega) hc) ?_ (pn_le hn).1 (uA.cells (fun c hc => xc c (by omega) (by omega) (by omega))) (w1.cells (by rw [x2 284 (by omega)]) (by rw [x2 276 (by omega)])) (pA_iv hn hIA hI)
    · rw [xc c (by omega) (by omega) (by omega), u2 c (by omega)]
    · rw [x2 276 (by omega), w2.2 f q1, u2 276 (by omega)]
    · rw [xc _ (by unfold tc; omega) (by unfold tc; omega) (by unfold tc; omega), f2, k2 _ (by unfold tc; omega) (by unfold tc; omega)]; exact ht.2.2.1
end AC
