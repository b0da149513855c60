/-! ===== a text that tells a town: what both readers do ===== -/
def bnd (r : Sum (Nat × Nat) (Nat × (Nat → Nat))) (k : Nat → (Nat → Nat) → Sum (Nat × Nat) (Nat × (Nat → Nat))) : Sum (Nat × Nat) (Nat × (Nat → Nat)) := match r with
  | .inl e => .inl e
  | .inr x => k x.1 x.2
def fdS (n : Nat) (b : Nat → Nat) (lo hi i c p : Nat) (t : Nat → Nat) : Sum (Nat × Nat) (Nat × (Nat → Nat)) :=
  if isN n b p = true then (if lo ≤ tv n b p ∧ tv n b p ≤ hi then (if isC n b (te n b p) c = true then .inr (te n b (te n b p), ch t i (tv n b p)) else .inl (1, te n b p)) else .inl (2, p)) else .inl (1, p)
def lawS (n : Nat) (b : Nat → Nat) (p : Nat) (t : Nat → Nat) : Sum (Nat × Nat) (Nat × (Nat → Nat)) :=
  if isC n b p 100 = true then bnd (fdS n b 1 9 0 44 (te n b p) t) (fun p t => fdS n b 0 9 1 59 p t) else .inl (1, p)
def manS (n : Nat) (b : Nat → Nat) (m p : Nat) (t : Nat → Nat) : Sum (Nat × Nat) (Nat × (Nat → Nat)) :=
  bnd (fdS n b 0 60 (6 + m) 44 (te n b p) t) (fun p t => fdS n b 0 9 (11 + m) 59 p t)
def levS (n : Nat) (b : Nat → Nat) (m l p : Nat) (t : Nat → Nat) : Sum (Nat × Nat) (Nat × (Nat → Nat)) :=
  bnd (fdS n b 0 (m - 1) (22 + l) 44 (te n b p) t) (fun p t => bnd (fdS n b 1 9 (28 + l) 44 p t) (fun p t => fdS n b 0 4 (34 + l) 59 p t))
def menS (n : Nat) (b : Nat → Nat) : Nat → Nat → Nat → (Nat → Nat) → Sum (Nat × Nat) (Nat × (Nat → Nat))
  | 0, _, _, _ => .inl (0, 0)
  | k + 1, m, p, t => if 0 < m ∧ isC n b p 109 = false then .inr (p, t) else if m = 5 then .inl (3, p) else if isC n b p 109 = true then bnd (manS n b m p (ch t 2 (m + 1))) (fun p t => menS n b k (m + 1) p t) else .inl (1, p)
def levsS (n : Nat) (b : Nat → Nat) (m : Nat) : Nat → Nat → Nat → (Nat → Nat) → Sum (Nat × Nat) (Nat × (Nat → Nat))
  | 0, _, _, _ => .inl (0, 0)
  | k + 1, l, p, t => if 0 < l ∧ n ≤ p then .inr (p, t) else if kos n b p = 0 then .inl (1, p) else if l = 6 then .inl (3, p) else bnd (levS n b m l p (ch (ch t (16 + l) (kos n b p)) 3 (l + 1))) (fun p t => levsS n b m k (l + 1) p t)
def restS (n : Nat) (b : Nat → Nat) (k m p : Nat) (t : Nat → Nat) : Sum (Nat × Nat) (Nat × (Nat → Nat)) := bnd (menS n b k m p t) (fun p t => levsS n b (t 2) 7 0 p t)
def twnS (n : Nat) (b : Nat → Nat) : Sum (Nat × Nat) (Nat × (Nat → Nat)) := bnd (lawS n b 0 (fun _ => 0)) (fun p t => restS n b 6 0 p t)
section PS
variable {n : Nat} {b : Nat → Nat} {σ τ υ ω : PI} {p : Nat} {t : Nat → Nat}
theorem ch_e {i v : Nat} : ch t i v i = v := by unfold ch; rw [if_pos rfl]
theorem ch_n {i v j : Nat} (h : j ≠ i) : ch t i v j = t j := by unfold ch; rw [if_neg h]
/-- nothing but the reader and the trial changed -/
def RF (τ υ : PI) : Prop := (∀ c, c ≠ 257 → (∀ j, j < 9 → c ≠ tc 1 j) → υ c = τ c) ∧ υ 257 1 = τ 257 1
theorem RF.tr (h : RF τ υ) (g : RF υ ω) : RF τ ω := ⟨fun c h1 h2 => (g.1 c h1 h2).trans (h.1 c h1 h2), g.2.trans h.2⟩
theorem R7.rf (h : R7 τ υ) : RF τ υ := ⟨fun c h1 _ => h.1 c h1, h.2⟩
theorem RF.c {C : Nat} {j : Nat} (hj : j < 9) (hC : C = tc 1 j) (h : ∀ c, c ≠ 257 → c ≠ C → υ c = τ c) (h1 : υ 257 1 = τ 257 1) : RF τ υ := ⟨fun c c1 c2 => h c c1 (by rw [hC]; exact c2 j hj), h1⟩
theorem t1_ne {j : Nat} (hj : j < 9) : tc 1 j ≠ 257 ∧ tc 1 j ≠ 258 := by unfold tc; omega
theorem C_fld {C s lo hi c i : Nat} {P : Int32 → PI → Prop} {Q0 : PI → Prop} {K : Int32 → PI → Prop} (hs : CS n b τ p) (hC : C ≠ 257 ∧ C ≠ 258) (hlo : lo < 2147483648) (hhi : hi < 2147483648) (hc : c < 256) (hf : ¬ (48 ≤ c ∧ c ≤ 57))
    (hP : ∀ r τ4, (∀ τ7, τ7 = up τ4 C s r → (τ7 C s < nI 0 → Q0 τ7) ∧ (¬ τ7 C s < nI 0 → wp_X1_take (nI c) τ7 K)) → P r τ4)
    (hb : ∀ f q, fdS n b lo hi i c p t = .inl (f, q) → ∀ υ, (∀ c', c' ≠ 257 → c' ≠ C → υ c' = τ c') → υ 257 1 = τ 257 1 → FT υ f q → Q0 υ ∧ K (nI 0) υ)
    (hg : ∀ q v, fdS n b lo hi i c p t = .inr (q, ch t i v) → lo ≤ v → v ≤ hi → ∀ υ, (∀ c', c' ≠ 257 → υ c' = up τ C s (nI v) c') → υ 257 1 = τ 257 1 → CS n b υ q → K (nI 1) υ) : wp_X1_takeNumber (nI lo) (nI hi) τ P := by
  have ng : (-1 : Int32) < nI 0 := by decide
  refine C_num hs hlo hhi (fun q1 q2 υ u1 u2 => hP _ _ (fun τ7 e7 => ?_)) (fun q1 q2 υ u1 u2 => hP _ _ (fun τ7 e7 => ?_)) (fun q1 υ u1 u2 => hP _ _ (fun τ7 e7 => ?_))
  · have htv := tv_le (isN_is.1 q1).1 (isN_is.1 q1).2.1
    have hs7 : CS n b τ7 (te n b p) := u2.k (by rw [e7, up_ne hC.1.symm]) (by rw [e7, up_ne hC.2.symm])
    have e71 : τ7 257 1 = τ 257 1 := by rw [e7, up_ne hC.1.symm, u1.2]
    rw [e7, up_s, ← e7, nI_lt' (by omega) (by omega)]
    refine ⟨fun z => absurd z (by omega), fun _ => C_tk hs7 hc hf (fun k1 ω w1 w2 => ?_) (fun k0 ω w1 w2 => ?_)⟩
    · refine hg _ _ (by unfold fdS; rw [if_pos q1, if_pos q2, if_pos k1]) q2.1 q2.2 ω (fun c' hc' => ?_) (by rw [w1.2, e71]) w2
      rw [w1.1 c' hc', e7]
      by_cases z : c' = C
      · subst z; rw [up_self, up_self, u1.1 _ hc']
      · rw [up_ne z, up_ne z, u1.1 _ hc']
    · refine (hb 1 (te n b p) (by unfold fdS; rw [if_pos q1, if_pos q2, if_neg (by rw [k0]; decide)]) ω (fun c' hc' hC' => ?_) (by rw [w1.2, e71]) w2).2
      rw [w1.1 c' hc', e7, up_ne hC', u1.1 _ hc']
  · rw [e7, up_s, ← e7]
    refine ⟨fun _ => ?_, fun z => absurd ng z⟩
    refine (hb 2 p (by unfold fdS; rw [if_pos q1, if_neg q2]) τ7 (fun c' hc' hC' => by rw [e7, up_ne hC', u1.1 _ hc']) (by rw [e7, up_ne hC.1.symm, u1.2]) ?_).1
    unfold FT at u2 ⊢
    rw [e7, up_ne hC.1.symm]; exact u2
  · rw [e7, up_s, ← e7]
    refine ⟨fun _ => ?_, fun z => absurd ng z⟩
    refine (hb 1 p (by unfold fdS; rw [if_neg (by rw [q1]; decide)]) τ7 (fun c' hc' hC' => by rw [e7, up_ne hC', u1.1 _ hc']) (by rw [e7, up_ne hC.1.symm, u1.2]) ?_).1
    unfold FT at u2 ⊢
    rw [e7, up_ne hC.1.symm]; exact u2
theorem C_law {Q : Int32 → PI → Prop} (hs : CS n b τ p)
    (hb : ∀ f q, lawS n b p t = .inl (f, q) → ∀ υ, RF τ υ → FT υ f q → Q (nI 0) υ)
    (hg : ∀ q v1 v2, lawS n b p t = .inr (q, ch (ch t 0 v1) 1 v2) → 1 ≤ v1 → v1 ≤ 9 → v2 ≤ 9 → ∀ υ, (∀ c, c ≠ 257 → υ c = up (up τ (tc 1 0) 10 (nI v1)) (tc 1 0) 11 (nI v2) c) → υ 257 1 = τ 257 1 → CS n b υ q → Q (nI 1) υ) : wp_X1_readLaw 1 τ Q := by
  unfold wp_X1_readLaw
  have r0 : ∀ {υ : PI}, (∀ c, c ≠ 257 → c ≠ tc 1 0 → υ c = τ c) → υ 257 1 = τ 257 1 → RF τ υ := fun h h1 => RF.c (by omega) rfl h h1
  refine C_tk hs (by omega) (by omega) (fun k1 υ u1 u2 => o_t' ?_) (fun k0 υ u1 u2 => z_t' (hb 1 p (by unfold lawS; rw [if_neg (by rw [k0]; decide)]) υ u1.rf u2))
  have el : lawS n b p t = bnd (fdS n b 1 9 0 44 (te n b p) t) (fun p t => fdS n b 0 9 1 59 p t) := by unfold lawS; rw [if_pos k1]
  rw [el] at hb hg
  refine C_fld (t := t) (i := 0) (C := tc 1 0) (s := 10) u2 (t1_ne (by omega)) (by omega) (by omega) (by omega) (by omega) (fun r τ4 hh => hh) (fun f q e ω w1 w2 w3 => ?_) (fun q v e v1 v2 ω w1 w2 w3 => o_t' ?_)
  · have := hb f q (by rw [e]; rfl) ω (r0 (fun c c1 c2 => by rw [w1 c c1 c2, u1.1 c c1]) (by rw [w2, u1.2])) w3
    exact ⟨this, z_t' this⟩
  · have fr : ∀ c, c ≠ 257 → ω c = up τ (tc 1 0) 10 (nI v) c := fun c c1 => by
      rw [w1 c c1]
      by_cases z : c = tc 1 0
      · subst z; rw [up_self, up_self, u1.1 _ c1]
      · rw [up_ne z, up_ne z, u1.1 _ c1]
    have eb : ∀ X, fdS n b 0 9 1 59 q (ch t 0 v) = X → bnd (fdS n b 1 9 0 44 (te n b p) t) (fun p t => fdS n b 0 9 1 59 p t) = X := fun X h => by rw [e]; exact h
    refine C_fld (t := ch t 0 v) (i := 1) (C := tc 1 0) (s := 11) w3 (t1_ne (by omega)) (by omega) (by omega) (by omega) (by omega) (fun r τ4 hh => hh) (fun f q' e' ψ x1 x2 x3 => ?_) (fun q' v' e' v1' v2' ψ x1 x2 x3 => o_t ?_)
    · have := hb f q' (eb _ e') ψ (r0 (fun c c1 c2 => by rw [x1 c c1 c2, fr c c1, up_ne c2]) (by rw [x2, w2, u1.2])) x3
      exact ⟨this, z_t this⟩
    · refine hg q' v v' (eb _ e') v1 v2 v2' ψ (fun c c1 => ?_) (by rw [x2, w2, u1.2]) x3
      rw [x1 c c1]
      by_cases z : c = tc 1 0
      · subst z; rw [up_self, up_self, fr _ c1]
      · rw [up_ne z, up_ne z, fr _ c1]
theorem up_fr {C s : Nat} {v : Int32} (h : ∀ c, c ≠ 257 → υ c = τ c) : ∀ c, c ≠ 257 → up υ C s v c = up τ C s v c := fun c c1 => by
  by_cases z : c = C
  · subst z; rw [up_self, up_self, h _ c1]
  · rw [up_ne z, up_ne z, h _ c1]
theorem C_man {m : Nat} {Q : Int32 → PI → Prop} (hs : CS n b τ p) (hm : m < 5)
    (hb : ∀ f q, (if isC n b p 109 = true then manS n b m p t else .inl (1, p)) = .inl (f, q) → ∀ υ, RF τ υ → FT υ f q → Q (nI 0) υ)
    (hg : ∀ q v1 v2, isC n b p 109 = true → manS n b m p t = .inr (q, ch (ch t (6 + m) v1) (11 + m) v2) → v1 ≤ 60 → v2 ≤ 9 → ∀ υ, (∀ c, c ≠ 257 → υ c = up (up τ (tc 1 1) m (nI v1)) (tc 1 2) m (nI v2) c) → υ 257 1 = τ 257 1 → CS n b υ q → Q (nI 1) υ) : wp_X1_readMan 1 (nI m) τ Q := by
  unfold wp_X1_readMan
  have hv : vp_in (nI m) 5 := vpN hm (by omega)
  rw [nI_cl (a := m) (by omega)]
  refine C_tk hs (by omega) (by omega) (fun k1 υ u1 u2 => o_t' ?_) (fun k0 υ u1 u2 => z_t' (hb 1 p (by rw [if_neg (by rw [k0]; decide)]) υ u1.rf u2))
  rw [if_pos k1] at hb
  unfold manS at hb hg
  refine C_fld (t := t) (i := 6 + m) (C := tc 1 1) (s := m) u2 (t1_ne (by omega)) (by omega) (by omega) (by omega) (by omega) (fun r τ4 hh => ⟨hv, fun τ7 e7 => ⟨hv, hh τ7 e7⟩⟩) (fun f q e ω w1 w2 w3 => ?_) (fun q v e v1 v2 ω w1 w2 w3 => o_t' ?_)
  · have := hb f q (by rw [e]; rfl) ω (u1.rf.tr (RF.c (j := 1) (by omega) rfl w1 w2)) w3
    exact ⟨this, z_t' this⟩
  · have fr : ∀ c, c ≠ 257 → ω c = up τ (tc 1 1) m (nI v) c := fun c c1 => by rw [w1 c c1]; exact up_fr u1.1 c c1
    have eb : ∀ X, fdS n b 0 9 (11 + m) 59 q (ch t (6 + m) v) = X → bnd (fdS n b 0 60 (6 + m) 44 (te n b p) t) (fun p t => fdS n b 0 9 (11 + m) 59 p t) = X := fun X h => by rw [e]; exact h
    refine C_fld (t := ch t (6 + m) v) (i := 11 + m) (C := tc 1 2) (s := m) w3 (t1_ne (by omega)) (by omega) (by omega) (by omega) (by omega) (fun r τ4 hh => ⟨hv, fun τ7 e7 => ⟨hv, hh τ7 e7⟩⟩) (fun f q' e' ψ x1 x2 x3 => ?_) (fun q' v' e' v1' v2' ψ x1 x2 x3 => o_t ?_)
    · have := hb f q' (eb _ e') ψ ((RF.c (j := 1) (by omega) rfl (fun c c1 c2 => by rw [fr c c1, up_ne c2]) (by rw [w2, u1.2]) : RF τ ω).tr (RF.c (j := 2) (by omega) rfl x1 x2)) x3
      exact ⟨this, z_t this⟩
    · exact hg q' v v' k1 (eb _ e') v2 v2' ψ (fun c c1 => by rw [x1 c c1]; exact up_fr fr c c1) (by rw [x2, w2, u1.2]) x3
theorem C_lev {m l : Nat} {Q : Int32 → PI → Prop} (hs : CS n b τ p) (hl : l < 6) (hm1 : 1 ≤ m) (hm : m ≤ 5) (h8 : τ (tc 1 0) 8 = nI m)
    (hb : ∀ f q, levS n b m l p t = .inl (f, q) → ∀ υ, RF τ υ → FT υ f q → Q (nI 0) υ)
    (hg : ∀ q v1 v2 v3, levS n b m l p t = .inr (q, ch (ch (ch t (22 + l) v1) (28 + l) v2) (34 + l) v3) → v1 < m → 1 ≤ v2 → v2 ≤ 9 → v3 ≤ 4 → ∀ υ, (∀ c, c ≠ 257 → υ c = up (up (up (up τ (tc 1 3) l (nI (kos n b p))) (tc 1 4) l (nI v1)) (tc 1 5) l (nI v2)) (tc 1 6) l (nI v3) c) → υ 257 1 = τ 257 1 → CS n b υ q → Q (nI 1) υ) : wp_X1_readLeaver 1 (nI l) τ Q := by
  unfold wp_X1_readLeaver
  have hv : vp_in (nI l) 6 := vpN hl (by omega)
  rw [nI_cl (a := l) (by omega)]
  refine C_kos hs ⟨hv, fun τ4 f4 => ?_⟩
  have hs4 : CS n b τ4 p := hs.k (by rw [f4, up_ne (t1_ne (by omega)).1.symm]) (by rw [f4, up_ne (t1_ne (by omega)).2.symm])
  have r4 : RF τ τ4 := RF.c (j := 3) (by omega) rfl (fun c c1 c2 => by rw [f4, up_ne c2]) (by rw [f4, up_ne (t1_ne (by omega)).1.symm])
  refine C_go hs4 (fun υ u1 u2 => ?_)
  have e8 : υ (tc 1 0) 8 = nI m := by rw [u1.1 _ (t1_ne (by omega)).1, f4, up_ne (by rw [Ne, tc_iff (by omega) (by omega)]; omega), h8]
  rw [e8, nI_sub (by omega)]
  have fr0 : ∀ c, c ≠ 257 → υ c = up τ (tc 1 3) l (nI (kos n b p)) c := fun c c1 => by rw [u1.1 c c1, f4]
  have ru : RF τ υ := r4.tr u1.rf
  unfold levS at hb hg
  refine C_fld (t := t) (i := 22 + l) (C := tc 1 4) (s := l) u2 (t1_ne (by omega)) (by omega) (by omega) (by omega) (by omega) (fun r τ4 hh => ⟨hv, fun τ7 e7 => ⟨hv, hh τ7 e7⟩⟩) (fun f q e ω w1 w2 w3 => ?_) (fun q v e v1 v2 ω w1 w2 w3 => o_t' ?_)
  · have := hb f q (by rw [e]; rfl) ω (ru.tr (RF.c (j := 4) (by omega) rfl w1 w2)) w3
    exact ⟨this, z_t' this⟩
  have fr1 : ∀ c, c ≠ 257 → ω c = up (up τ (tc 1 3) l (nI (kos n b p))) (tc 1 4) l (nI v) c := fun c c1 => by rw [w1 c c1]; exact up_fr fr0 c c1
  have rw1 : RF υ ω := RF.c (j := 4) (by omega) rfl (fun c c1 c2 => by rw [w1 c c1, up_ne c2]) w2
  have eb : ∀ X, bnd (fdS n b 1 9 (28 + l) 44 q (ch t (22 + l) v)) (fun p t => fdS n b 0 4 (34 + l) 59 p t) = X → bnd (fdS n b 0 (m - 1) (22 + l) 44 (te n b p) t) (fun p t => bnd (fdS n b 1 9 (28 + l) 44 p t) (fun p t => fdS n b 0 4 (34 + l) 59 p t)) = X := fun X h => by rw [e]; exact h
  refine C_fld (t := ch t (22 + l) v) (i := 28 + l) (C := tc 1 5) (s := l) w3 (t1_ne (by omega)) (by omega) (by omega) (by omega) (by omega) (fun r τ4 hh => ⟨hv, fun τ7 e7 => ⟨hv, hh τ7 e7⟩⟩) (fun f q' e' ψ x1 x2 x3 => ?_) (fun q' v' e' v1' v2' ψ x1 x2 x3 => o_t' ?_)
  · have := hb f q' (eb _ (by rw [e']; rfl)) ψ ((ru.tr rw1).tr (RF.c (j := 5) (by omega) rfl x1 x2)) x3
    exact ⟨this, z_t' this⟩
  have fr2 : ∀ c, c ≠ 257 → ψ c = up (up (up τ (tc 1 3) l (nI (kos n b p))) (tc 1 4) l (nI v)) (tc 1 5) l (nI v') c := fun c c1 => by rw [x1 c c1]; exact up_fr fr1 c c1
  have rw2 : RF ω ψ := RF.c (j := 5) (by omega) rfl (fun c c1 c2 => by rw [x1 c c1, up_ne c2]) x2
  have eb2 : ∀ X, fdS n b 0 4 (34 + l) 59 q' (ch (ch t (22 + l) v) (28 + l) v') = X → bnd (fdS n b 1 9 (28 + l) 44 q (ch t (22 + l) v)) (fun p t => fdS n b 0 4 (34 + l) 59 p t) = X := fun X h => by rw [e']; exact h
  refine C_fld (t := ch (ch t (22 + l) v) (28 + l) v') (i := 34 + l) (C := tc 1 6) (s := l) x3 (t1_ne (by omega)) (by omega) (by omega) (by omega) (by omega) (fun r τ4 hh => ⟨hv, fun τ7 e7 => ⟨hv, hh τ7 e7⟩⟩) (fun f q3 e3 χ y1 y2 y3 => ?_) (fun q3 v3 e3 v31 v32 χ y1 y2 y3 => o_t ?_)
  · have := hb f q3 (eb _ (eb2 _ e3)) χ (((ru.tr rw1).tr rw2).tr (RF.c (j := 6) (by omega) rfl y1 y2)) y3
    exact ⟨this, z_t this⟩
  · exact hg q3 v v' v3 (eb _ (eb2 _ e3)) (by omega) v1' v2' v32 χ (fun c c1 => by rw [y1 c c1]; exact up_fr fr2 c c1) (by rw [y2, x2, w2, ru.2]) y3
/-- what is read so far, in the trial -/
def PV (t : Nat → Nat) : Prop := (1 ≤ t 0 ∧ t 0 ≤ 9 ∧ t 1 ≤ 9 ∧ t 4 = 0 ∧ t 5 = 0) ∧ (∀ i, i < t 2 → IM t i) ∧ (∀ l, l < t 3 → IL t l) ∧ ∀ i, 40 ≤ i → t i = 0
def CI (τ : PI) (t : Nat → Nat) : Prop := TA τ 1 t ∧ (∀ j, j < 30 → τ (tc 1 7) j = nI 0) ∧ τ (tc 1 0) 14 = nI 0 ∧ PV t
theorem CI.k (h : CI τ t) (e : ∀ c, c ≠ 257 → υ c = τ c) : CI υ t := by
  obtain ⟨h1, h2, h3, h4⟩ := h
  exact ⟨h1.cells (fun j hj => e _ (t1_ne hj).1), fun j hj => by rw [e _ (t1_ne (by omega)).1]; exact h2 j hj, by rw [e _ (t1_ne (by omega)).1]; exact h3, h4⟩
theorem PV.iv (h : PV t) (h2 : 1 ≤ t 2) (h2' : t 2 ≤ 5) (h3 : 1 ≤ t 3) (h3' : t 3 ≤ 6) : Iv 999 t := by
  obtain ⟨⟨g1, g2, g3, g4, g5⟩, g6, g7, g8⟩ := h
  exact ⟨⟨h2, h2', h3, h3', g1, g2, g3, by omega, by rw [g5]; exact Nat.two_pow_pos _, by omega⟩, g6, g7⟩
theorem CI.man {m v1 v2 : Nat} (h : CI τ t) (h2 : t 2 = m) (h3 : t 3 = 0) (hm : m < 5) (hv1 : v1 ≤ 60) (hv2 : v2 ≤ 9) (e : ∀ c, c ≠ 257 → υ c = up (up (up τ (tc 1 1) m (nI v1)) (tc 1 2) m (nI v2)) (tc 1 0) 8 (nI (m + 1)) c) : CI υ (ch (ch (ch t 2 (m + 1)) (6 + m) v1) (11 + m) v2) := by
  obtain ⟨⟨⟨a8, a9, a10, a11, a12, a13⟩, hM, hL⟩, hz, h14, ⟨g1, g2, g3, g4, g5⟩, g6, g7, g8⟩ := h
  have ne : ∀ i j, i < 9 → j < 9 → i ≠ j → tc 1 i ≠ tc 1 j := fun i j hi hj hij => by rw [Ne, tc_iff hi hj]; omega
  have c0 : ∀ s, s ≠ 8 → υ (tc 1 0) s = τ (tc 1 0) s := fun s hs => by rw [e _ (t1_ne (by omega)).1, up_k hs, up_ne (ne 0 2 (by omega) (by omega) (by omega)), up_ne (ne 0 1 (by omega) (by omega) (by omega))]
  have c8 : υ (tc 1 0) 8 = nI (m + 1) := by rw [e _ (t1_ne (by omega)).1, up_s]
  have c1 : υ (tc 1 1) = upd (τ (tc 1 1)) m (nI v1) := by rw [e _ (t1_ne (by omega)).1, up_ne (ne 1 0 (by omega) (by omega) (by omega)), up_ne (ne 1 2 (by omega) (by omega) (by omega)), up_self]
  have c2 : υ (tc 1 2) = upd (τ (tc 1 2)) m (nI v2) := by rw [e _ (t1_ne (by omega)).1, up_ne (ne 2 0 (by omega) (by omega) (by omega)), up_self, up_ne (ne 2 1 (by omega) (by omega) (by omega))]
  have c7 : υ (tc 1 7) = τ (tc 1 7) := by rw [e _ (t1_ne (by omega)).1, up_ne (ne 7 0 (by omega) (by omega) (by omega)), up_ne (ne 7 2 (by omega) (by omega) (by omega)), up_ne (ne 7 1 (by omega) (by omega) (by omega))]
  have d2 : ch (ch (ch t 2 (m + 1)) (6 + m) v1) (11 + m) v2 2 = m + 1 := by rw [ch_n (by omega), ch_n (by omega), ch_e]
  have dn : ∀ j, j ≠ 2 → j ≠ 6 + m → j ≠ 11 + m → ch (ch (ch t 2 (m + 1)) (6 + m) v1) (11 + m) v2 j = t j := fun j j1 j2 j3 => by rw [ch_n j3, ch_n j2, ch_n j1]
  have d6 : ch (ch (ch t 2 (m + 1)) (6 + m) v1) (11 + m) v2 (6 + m) = v1 := by rw [ch_n (by omega), ch_e]
  have d11 : ch (ch (ch t 2 (m + 1)) (6 + m) v1) (11 + m) v2 (11 + m) = v2 := by rw [ch_e]
  generalize ch (ch (ch t 2 (m + 1)) (6 + m) v1) (11 + m) v2 = t' at *
  refine ⟨⟨⟨by rw [c8, d2], by rw [c0 9 (by omega), a9, dn 3 (by omega) (by omega) (by omega)], by rw [c0 10 (by omega), a10, dn 0 (by omega) (by omega) (by omega)], by rw [c0 11 (by omega), a11, dn 1 (by omega) (by omega) (by omega)], by rw [c0 12 (by omega), a12, dn 4 (by omega) (by omega) (by omega)], by rw [c0 13 (by omega), a13, dn 5 (by omega) (by omega) (by omega)]⟩, fun i hi => ?_, fun l hl => ?_⟩, fun j hj => by rw [c7]; exact hz j hj, by rw [c0 14 (by omega)]; exact h14, ⟨by rw [dn 0 (by omega) (by omega) (by omega)]; exact g1, by rw [dn 0 (by omega) (by omega) (by omega)]; exact g2, by rw [dn 1 (by omega) (by omega) (by omega)]; exact g3, by rw [dn 4 (by omega) (by omega) (by omega)]; exact g4, by rw [dn 5 (by omega) (by omega) (by omega)]; exact g5⟩, fun i hi => ?_, fun l hl => ?_, fun i hi => by rw [dn i (by omega) (by omega) (by omega)]; exact g8 i hi⟩
  · unfold TM
    rw [c1, c2]
    by_cases z : i = m
    · subst z; rw [upd_s, upd_s, d6, d11]; exact ⟨rfl, rfl⟩
    · rw [upd_n z, upd_n z, dn (6 + i) (by omega) (by omega) (by omega), dn (11 + i) (by omega) (by omega) (by omega)]
      exact hM i (by omega)
  · rw [dn 3 (by omega) (by omega) (by omega), h3] at hl; omega
  · unfold IM
    by_cases z : i = m
    · subst z; rw [d6, d11]; omega
    · rw [dn (6 + i) (by omega) (by omega) (by omega), dn (11 + i) (by omega) (by omega) (by omega)]
      exact g6 i (by omega)
  · rw [dn 3 (by omega) (by omega) (by omega), h3] at hl; omega
theorem CI.lev {m l k v1 v2 v3 : Nat} (h : CI τ t) (h2 : t 2 = m) (h3 : t 3 = l) (hm : m ≤ 5) (hl : l < 6) (hk1 : 1 ≤ k) (hk : k ≤ 5) (hv1 : v1 < m) (hv2 : 1 ≤ v2) (hv2' : v2 ≤ 9) (hv3 : v3 ≤ 4) (e : ∀ c, c ≠ 257 → υ c = up (up (up (up (up τ (tc 1 3) l (nI k)) (tc 1 4) l (nI v1)) (tc 1 5) l (nI v2)) (tc 1 6) l (nI v3)) (tc 1 0) 9 (nI (l + 1)) c) : CI υ (ch (ch (ch (ch (ch t (16 + l) k) 3 (l + 1)) (22 + l) v1) (28 + l) v2) (34 + l) v3) := by
  obtain ⟨⟨⟨a8, a9, a10, a11, a12, a13⟩, hM, hL⟩, hz, h14, ⟨g1, g2, g3, g4, g5⟩, g6, g7, g8⟩ := h
  have ne : ∀ i j, i < 9 → j < 9 → i ≠ j → tc 1 i ≠ tc 1 j := fun i j hi hj hij => by rw [Ne, tc_iff hi hj]; omega
  have c0 : ∀ s, s ≠ 9 → υ (tc 1 0) s = τ (tc 1 0) s := fun s hs => by rw [e _ (t1_ne (by omega)).1, up_k hs, up_ne (ne 0 6 (by omega) (by omega) (by omega)), up_ne (ne 0 5 (by omega) (by omega) (by omega)), up_ne (ne 0 4 (by omega) (by omega) (by omega)), up_ne (ne 0 3 (by omega) (by omega) (by omega))]
  have c9 : υ (tc 1 0) 9 = nI (l + 1) := by rw [e _ (t1_ne (by omega)).1, up_s]
  have cx : ∀ j, j < 9 → (j = 1 ∨ j = 2 ∨ j = 7) → υ (tc 1 j) = τ (tc 1 j) := fun j hj hx => by rw [e _ (t1_ne hj).1, up_ne (ne j 0 hj (by omega) (by omega)), up_ne (ne j 6 hj (by omega) (by omega)), up_ne (ne j 5 hj (by omega) (by omega)), up_ne (ne j 4 hj (by omega) (by omega)), up_ne (ne j 3 hj (by omega) (by omega))]
  have c3 : υ (tc 1 3) = upd (τ (tc 1 3)) l (nI k) := by rw [e _ (t1_ne (by omega)).1, up_ne (ne 3 0 (by omega) (by omega) (by omega)), up_ne (ne 3 6 (by omega) (by omega) (by omega)), up_ne (ne 3 5 (by omega) (by omega) (by omega)), up_ne (ne 3 4 (by omega) (by omega) (by omega)), up_self]
  have c4 : υ (tc 1 4) = upd (τ (tc 1 4)) l (nI v1) := by rw [e _ (t1_ne (by omega)).1, up_ne (ne 4 0 (by omega) (by omega) (by omega)), up_ne (ne 4 6 (by omega) (by omega) (by omega)), up_ne (ne 4 5 (by omega) (by omega) (by omega)), up_self, up_ne (ne 4 3 (by omega) (by omega) (by omega))]
  have c5 : υ (tc 1 5) = upd (τ (tc 1 5)) l (nI v2) := by rw [e _ (t1_ne (by omega)).1, up_ne (ne 5 0 (by omega) (by omega) (by omega)), up_ne (ne 5 6 (by omega) (by omega) (by omega)), up_self, up_ne (ne 5 4 (by omega) (by omega) (by omega)), up_ne (ne 5 3 (by omega) (by omega) (by omega))]
  have c6 : υ (tc 1 6) = upd (τ (tc 1 6)) l (nI v3) := by rw [e _ (t1_ne (by omega)).1, up_ne (ne 6 0 (by omega) (by omega) (by omega)), up_self, up_ne (ne 6 5 (by omega) (by omega) (by omega)), up_ne (ne 6 4 (by omega) (by omega) (by omega)), up_ne (ne 6 3 (by omega) (by omega) (by omega))]
  have d3 : ch (ch (ch (ch (ch t (16 + l) k) 3 (l + 1)) (22 + l) v1) (28 + l) v2) (34 + l) v3 3 = l + 1 := by rw [ch_n (by omega), ch_n (by omega), ch_n (by omega), ch_e]
  have d16 : ch (ch (ch (ch (ch t (16 + l) k) 3 (l + 1)) (22 + l) v1) (28 + l) v2) (34 + l) v3 (16 + l) = k := by rw [ch_n (by omega), ch_n (by omega), ch_n (by omega), ch_n (by omega), ch_e]
  have d22 : ch (ch (ch (ch (ch t (16 + l) k) 3 (l + 1)) (22 + l) v1) (28 + l) v2) (34 + l) v3 (22 + l) = v1 := by rw [ch_n (by omega), ch_n (by omega), ch_e]
  have d28 : ch (ch (ch (ch (ch t (16 + l) k) 3 (l + 1)) (22 + l) v1) (28 + l) v2) (34 + l) v3 (28 + l) = v2 := by rw [ch_n (by omega), ch_e]
  have d34 : ch (ch (ch (ch (ch t (16 + l) k) 3 (l + 1)) (22 + l) v1) (28 + l) v2) (34 + l) v3 (34 + l) = v3 := by rw [ch_e]
  have dn : ∀ j, j ≠ 3 → j ≠ 16 + l → j ≠ 22 + l → j ≠ 28 + l → j ≠ 34 + l → ch (ch (ch (ch (ch t (16 + l) k) 3 (l + 1)) (22 + l) v1) (28 + l) v2) (34 + l) v3 j = t j := fun j j1 j2 j3 j4 j5 => by rw [ch_n j5, ch_n j4, ch_n j3, ch_n j1, ch_n j2]
  generalize ch (ch (ch (ch (ch t (16 + l) k) 3 (l + 1)) (22 + l) v1) (28 + l) v2) (34 + l) v3 = t' at *
  have dl : ∀ j, j < 16 → j ≠ 3 → t' j = t j := fun j j1 j2 => dn j j2 (by omega) (by omega) (by omega) (by omega)
  have dh : ∀ j, 40 ≤ j → t' j = t j := fun j j1 => dn j (by omega) (by omega) (by omega) (by omega) (by omega)
  have e2 : t' 2 = m := by rw [dl 2 (by omega) (by omega), h2]
  refine ⟨⟨⟨by rw [c0 8 (by omega), a8, dl 2 (by omega) (by omega)], by rw [c9, d3], by rw [c0 10 (by omega), a10, dl 0 (by omega) (by omega)], by rw [c0 11 (by omega), a11, dl 1 (by omega) (by omega)], by rw [c0 12 (by omega), a12, dl 4 (by omega) (by omega)], by rw [c0 13 (by omega), a13, dl 5 (by omega) (by omega)]⟩, fun i hi => ?_, fun l' hl' => ?_⟩, fun j hj => by rw [cx 7 (by omega) (by omega)]; exact hz j hj, by rw [c0 14 (by omega)]; exact h14, ⟨by rw [dl 0 (by omega) (by omega)]; exact g1, by rw [dl 0 (by omega) (by omega)]; exact g2, by rw [dl 1 (by omega) (by omega)]; exact g3, by rw [dl 4 (by omega) (by omega)]; exact g4, by rw [dl 5 (by omega) (by omega)]; exact g5⟩, fun i hi => ?_, fun l' hl' => ?_, fun i hi => by rw [dh i hi]; exact g8 i hi⟩
  · rw [e2] at hi
    unfold TM
    rw [cx 1 (by omega) (by omega), cx 2 (by omega) (by omega), dl (6 + i) (by omega) (by omega), dl (11 + i) (by omega) (by omega)]
    exact hM i (by omega)
  · rw [d3] at hl'
    unfold TL
    rw [c3, c4, c5, c6, cx 7 (by omega) (by omega)]
    have z7 : ∀ m', m' < 5 → τ (tc 1 7) (l' * 5 + m') = nI (t' (40 + 5 * l' + m')) := fun m' hm' => by rw [hz _ (by omega), dh _ (by omega), g8 _ (by omega)]
    by_cases z : l' = l
    · subst z; rw [upd_s, upd_s, upd_s, upd_s, d16, d22, d28, d34]; exact ⟨rfl, rfl, rfl, rfl, z7⟩
    · rw [upd_n z, upd_n z, upd_n z, upd_n z, dn (16 + l') (by omega) (by omega) (by omega) (by omega) (by omega), dn (22 + l') (by omega) (by omega) (by omega) (by omega) (by omega), dn (28 + l') (by omega) (by omega) (by omega) (by omega) (by omega), dn (34 + l') (by omega) (by omega) (by omega) (by omega) (by omega)]
      obtain ⟨q1, q2, q3, q4, q5⟩ := hL l' (by omega)
      exact ⟨q1, q2, q3, q4, z7⟩
  · rw [e2] at hi
    unfold IM
    rw [dl (6 + i) (by omega) (by omega), dl (11 + i) (by omega) (by omega)]
    exact g6 i (by omega)
  · rw [d3] at hl'
    unfold IL
    have z7 : ∀ m', m' < 5 → t' (40 + 5 * l' + m') ≤ t' 4 := fun m' hm' => by rw [dh _ (by omega), g8 _ (by omega)]; omega
    rw [e2]
    by_cases z : l' = l
    · subst z; rw [d16, d22, d28, d34]; exact ⟨hk1, hk, hv1, hv2, hv2', hv3, z7⟩
    · rw [dn (16 + l') (by omega) (by omega) (by omega) (by omega) (by omega), dn (22 + l') (by omega) (by omega) (by omega) (by omega) (by omega), dn (28 + l') (by omega) (by omega) (by omega) (by omega) (by omega), dn (34 + l') (by omega) (by omega) (by omega) (by omega) (by omega)]
      obtain ⟨q1, q2, q3, q4, q5, q6, q7⟩ := g7 l' (by omega)
      exact ⟨q1, q2, by omega, q4, q5, q6, z7⟩
end PS
