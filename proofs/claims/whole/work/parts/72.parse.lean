/-! THE PARSER 1: what steps push; states; the small readers -/
def vT (nm st : Nat → Int32) (M k : Nat) (S : List Int32) : Int32 := vRun nm st (M - k) k S
theorem vT_s {nm st : Nat → Int32} {M k : Nat} {S : List Int32} (h : k < M) : vT nm st M k S = vOne (fun S => vT nm st M (k + 1) S) nm S (st k) := by
  unfold vT
  rw [show M - k = (M - (k + 1)) + 1 by omega, vRun_s]
/-- the steps from k to k' push v, whatever comes behind them -/
def vPush (nm st : Nat → Int32) (k k' : Nat) (v : Int32) : Prop := ∀ (st' : Nat → Int32) (M : Nat) (S : List Int32), (∀ j, k ≤ j → j < k' → st' j = st j) → k' ≤ M → vT nm st' M k S = vT nm st' M k' (v :: S)
theorem vPush_cg {nm st st2 : Nat → Int32} {k k' : Nat} {v : Int32} (h : vPush nm st k k' v) (e : ∀ j, k ≤ j → j < k' → st2 j = st j) : vPush nm st2 k k' v :=
  fun st' M S h1 h2 => h st' M S (fun j j1 j2 => (h1 j j1 j2).trans (e j j1 j2)) h2
theorem push_num {nm st : Nat → Int32} {k : Nat} {x : Int32} (e : st k = x) (h : 0 ≤ x) : vPush nm st k (k + 1) x := by
  intro st' M S h1 h2
  rw [vT_s (by omega), h1 k (Nat.le_refl _) (by omega), e]
  unfold vOne
  rw [if_pos h]
theorem q_name {j : Nat} (hj : j < 9) : ¬ (0 : Int32) ≤ -1 - nI j ∧ (-9 : Int32) ≤ -1 - nI j ∧ (-1 - (-1 - nI j) : Int32) = nI j := by
  have hj' : j = 0 ∨ j = 1 ∨ j = 2 ∨ j = 3 ∨ j = 4 ∨ j = 5 ∨ j = 6 ∨ j = 7 ∨ j = 8 := by omega
  rcases hj' with rfl | rfl | rfl | rfl | rfl | rfl | rfl | rfl | rfl <;> decide
theorem push_name {nm st : Nat → Int32} {k j : Nat} (hj : j < 9) (e : st k = -1 - nI j) : vPush nm st k (k + 1) (nm j) := by
  intro st' M S h1 h2
  obtain ⟨a1, a2, a3⟩ := q_name hj
  rw [vT_s (by omega), h1 k (Nat.le_refl _) (by omega), e]
  unfold vOne
  rw [if_neg a1, if_pos a2, a3, nI_clamp (by omega)]
theorem push_not {nm st : Nat → Int32} {k k' : Nat} {v : Int32} (h : vPush nm st k k' v) (hk : k ≤ k') (e : st k' = -33) : vPush nm st k (k' + 1) (if v = 0 then 1 else 0) := by
  intro st' M S h1 h2
  rw [h st' M S (fun j j1 j2 => h1 j j1 (by omega)) (by omega), vT_s (by omega), h1 k' hk (by omega), e]
  unfold vOne
  (rw [if_neg (by decide), if_neg (by decide), if_neg (by decide), if_neg (by decide), if_pos rfl]) <;> rfl
theorem push_neg {nm st : Nat → Int32} {k k' : Nat} {v : Int32} (h : vPush nm st k k' v) (hk : k ≤ k') (e : st k' = -126) : vPush nm st k (k' + 1) (-v) := by
  intro st' M S h1 h2
  rw [h st' M S (fun j j1 j2 => h1 j j1 (by omega)) (by omega), vT_s (by omega), h1 k' hk (by omega), e]
  unfold vOne
  (rw [if_neg (by decide), if_neg (by decide), if_neg (by decide), if_neg (by decide), if_neg (by decide), if_pos rfl]) <;> rfl
def zOp (x : Int32) : Prop := x = 37 ∨ x = 38 ∨ x = 42 ∨ x = 43 ∨ x = 45 ∨ x = 47 ∨ x = 60 ∨ x = 61 ∨ x = 62 ∨ x = 124
theorem zOp_d {x : Int32} (h : zOp x) : ¬ 0 ≤ -x ∧ ¬ -9 ≤ -x ∧ ¬ -x = -59 ∧ ¬ -x = -63 ∧ ¬ -x = -33 ∧ ¬ -x = -126 ∧ - -x = x := by
  unfold zOp at h
  rcases h with rfl | rfl | rfl | rfl | rfl | rfl | rfl | rfl | rfl | rfl <;> decide
theorem push_bin {nm st : Nat → Int32} {k k1 k2 : Nat} {a b x : Int32} (h : vPush nm st k k1 a) (h' : vPush nm st k1 k2 b) (hk : k ≤ k1) (hk' : k1 ≤ k2) (e : st k2 = -x) (hx : zOp x) : vPush nm st k (k2 + 1) (vBin x a b) := by
  intro st' M S h1 h2
  obtain ⟨x1, x2, x3, x4, x5, x6, x7⟩ := zOp_d hx
  rw [h st' M S (fun j j1 j2 => h1 j j1 (by omega)) (by omega), h' st' M (a :: S) (fun j j1 j2 => h1 j (by omega) (by omega)) (by omega), vT_s (by omega), h1 k2 (by omega) (by omega), e]
  unfold vOne
  rw [if_neg x1, if_neg x2, if_neg x3, if_neg x4, if_neg x5, if_neg x6]
  show vT nm st' M (k2 + 1) (vBin (- -x) a b :: S) = _
  rw [x7]
theorem line_end {nm st st' : Nat → Int32} {k k' M : Nat} {v : Int32} (h : vPush nm st k k' v) (hk : k ≤ k') (e : st k' = -59) (ha : ∀ j, k ≤ j → j < k' + 1 → st' j = st j) (hM : k' + 1 ≤ M) : vT nm st' M k [] = v := by
  rw [h st' M [] (fun j j1 j2 => ha j j1 (by omega)) (by omega), vT_s (by omega), ha k' hk (by omega), e]
  unfold vOne
  (rw [if_neg (by decide), if_neg (by decide), if_pos rfl]) <;> rfl
theorem line_if {nm st st' : Nat → Int32} {k k1 k2 M : Nat} {c v : Int32} (h : vPush nm st k k1 c) (h' : vPush nm st k1 k2 v) (hk : k ≤ k1) (hk' : k1 ≤ k2) (e : st k2 = -63) (ha : ∀ j, k ≤ j → j < k2 + 1 → st' j = st j) (hM : k2 + 1 ≤ M) : vT nm st' M k [] = if c = 0 then vT nm st' M (k2 + 1) [] else v := by
  rw [h st' M [] (fun j j1 j2 => ha j j1 (by omega)) (by omega), h' st' M [c] (fun j j1 j2 => ha j (by omega) (by omega)) (by omega), vT_s (by omega), ha k2 (by omega) (by omega), e]
  unfold vOne
  (rw [if_neg (by decide), if_neg (by decide), if_neg (by decide), if_pos rfl]) <;> rfl
/-- the class's reader: at place p of the N letters tx, with k steps made -/
def zPt (N : Nat) (tx : Nat → Int32) (s : zSt) (p k : Nat) : Prop := N ≤ 120 ∧ s.1 13 1 = nI N ∧ s.1 13 4 = nI p ∧ s.1 13 3 = nI k ∧ p ≤ N ∧ k ≤ 121 ∧ ∀ j, j < N → s.1 14 j = tx j
def zPf (s s' : zSt) (k : Nat) : Prop := s'.2 = s.2 ∧ (∀ a, a ≠ 13 → a ≠ 15 → s'.1 a = s.1 a) ∧ (∀ j, j ≠ 3 → j ≠ 4 → s'.1 13 j = s.1 13 j) ∧ ∀ j, j < k → s'.1 15 j = s.1 15 j
theorem zPf_t {a b c : zSt} {k k' : Nat} (h : zPf a b k) (h' : zPf b c k') (hk : k ≤ k') : zPf a c k :=
  ⟨h'.1.trans h.1, fun x x1 x2 => (h'.2.1 x x1 x2).trans (h.2.1 x x1 x2), fun j j1 j2 => (h'.2.2.1 j j1 j2).trans (h.2.2.1 j j1 j2), fun j hj => (h'.2.2.2 j (by omega)).trans (h.2.2.2 j hj)⟩
theorem zPf_r (s : zSt) (k : Nat) : zPf s s k := ⟨rfl, fun _ _ _ => rfl, fun _ _ _ => rfl, fun _ _ => rfl⟩
/-- where the reference reads its bytes -/
def zBy (N : Nat) (tx : Nat → Int32) (t : zSt) : Prop := (t.1 0 14 = -1 ∧ ∀ j, j < N → t.1 8 j = tx j) ∨ (∃ w, w < 2 ∧ t.1 0 14 = nI (120 * w) ∧ ∀ j, j < N → t.1 9 (120 * w + j) = tx j)
def zMb (N : Nat) (tx : Nat → Int32) (t : zSt) (p : Nat) : Prop := t.1 0 15 = nI p ∧ t.1 0 16 = nI N ∧ p ≤ N ∧ N ≤ 120 ∧ zBy N tx t
def zMt (N : Nat) (tx : Nat → Int32) (t : zSt) (p o : Nat) : Prop := zMb N tx t p ∧ t.1 0 17 = -1 ∧ t.1 0 18 = nI o
def zMx (N : Nat) (tx : Nat → Int32) (t : zSt) (p : Nat) : Prop := zMb N tx t p ∧ t.1 0 17 = nI p
def zMf (t t' : zSt) : Prop := t'.2 = t.2 ∧ (∀ a, a ≠ 0 → t'.1 a = t.1 a) ∧ ∀ j, (j < 15 ∨ 18 < j) → t'.1 0 j = t.1 0 j
theorem zMf_t {a b c : zSt} (h : zMf a b) (h' : zMf b c) : zMf a c := ⟨h'.1.trans h.1, fun x x1 => (h'.2.1 x x1).trans (h.2.1 x x1), fun j hj => (h'.2.2 j hj).trans (h.2.2 j hj)⟩
theorem zMf_r (t : zSt) : zMf t t := ⟨rfl, fun _ _ => rfl, fun _ _ => rfl⟩
theorem zMf_w (t : zSt) {j : Nat} (hj : 15 ≤ j ∧ j ≤ 18) (v : Int32) : zMf t (zw t 0 j v) := ⟨rfl, fun a ha => zw_e ha, fun i hi => by rw [zw_o, if_neg (by omega)]⟩
theorem zBy_f {N : Nat} {tx : Nat → Int32} {t t' : zSt} (h : zBy N tx t) (hf : zMf t t') : zBy N tx t' := by
  unfold zBy
  rw [hf.2.2 14 (by omega), hf.2.1 8 (by omega), hf.2.1 9 (by omega)]
  exact h
def zsc (N : Nat) (tx : Nat → Int32) (p : Nat) : Int32 := if p < N then tx p else -1
def zsm (N : Nat) (tx : Nat → Int32) (p : Nat) : Int32 := if p < N then tx p else 0
theorem sc_sm {N : Nat} {tx : Nat → Int32} {p : Nat} {c : Int32} (hc : 0 < c) : zsc N tx p = c ↔ zsm N tx p = c := by
  unfold zsc zsm
  by_cases h : p < N
  · rw [if_pos h, if_pos h]
  · rw [if_neg h, if_neg h]
    constructor
    · intro e; rw [← e] at hc; exact absurd hc (by decide)
    · intro e; rw [← e] at hc; exact absurd hc (by decide)
theorem sm_lt {N : Nat} {tx : Nat → Int32} {p : Nat} {c : Int32} (hc : 0 < c) (h : zsm N tx p = c) : p < N := by
  unfold zsm at h
  by_cases hp : p < N
  · exact hp
  · rw [if_neg hp] at h
    rw [← h] at hc
    exact absurd hc (by decide)
theorem tp_nx {N : Nat} {tx : Nat → Int32} {s : zSt} {p k : Nat} (h : zPt N tx s p k) : f_tp_next s = some (zsc N tx p, s) := by
  obtain ⟨hN, h1, h4, h3, hp, hk, hl⟩ := h
  unfold f_tp_next zsc
  rw [h1, h4]
  by_cases c : p < N
  · rw [if_neg (nI_ge c (by omega)), if_pos c, zld_at (show p < 120 by omega) (by omega), Option.bind_some, hl p c]
  · rw [if_pos (nI_le (by omega) (by omega)), if_neg c]
theorem p_took {N : Nat} {tx : Nat → Int32} {s : zSt} {p k : Nat} (h : zPt N tx s p k) (c : Int32) : f_tp_took c s = if zsc N tx p = c then some (1, zw s 13 4 (s.1 13 4 + 1)) else some (0, s) := by
  unfold f_tp_took
  rw [tp_nx h, Option.bind_some]
theorem p_byte {N : Nat} {tx : Nat → Int32} {t : zSt} {p : Nat} (h : zMb N tx t p) : f_m_byteAt t = some (zsm N tx p, t) := by
  obtain ⟨h1, h2, hp, hN, hb⟩ := h
  unfold f_m_byteAt zsm
  rw [h1, h2]
  by_cases c : p < N
  · rw [if_neg (nI_ge c (by omega)), if_pos c]
    rcases hb with ⟨b1, b2⟩ | ⟨w, w2, b1, b2⟩
    · rw [b1, if_neg (by decide), zld_at (show p < 120 by omega) (by omega), Option.bind_some, b2 p c]
    · rw [b1, if_pos (nI_pos' (by omega)), nI_add, zld_at (show 120 * w + p < 240 by omega) (by omega), Option.bind_some, b2 p c]
  · rw [if_pos (nI_le (by omega) (by omega)), if_neg c]
theorem p_takes {N : Nat} {tx : Nat → Int32} {t : zSt} {p o : Nat} (h : zMt N tx t p o) (c : Int32) : f_m_takes c t = if zsm N tx p = c then some (1, zw t 0 15 (t.1 0 15 + 1)) else some (0, t) := by
  unfold f_m_takes
  rw [h.2.1, if_neg (by decide), p_byte h.1, Option.bind_some]
theorem zMx_p {N : Nat} {tx : Nat → Int32} {t : zSt} {p : Nat} (h : zMx N tx t p) : 0 ≤ t.1 0 17 := by
  rw [h.2]
  exact nI_pos' (by have := h.1.2.2.1; have := h.1.2.2.2.1; omega)
theorem p_takesx {N : Nat} {tx : Nat → Int32} {t : zSt} {p : Nat} (h : zMx N tx t p) (c : Int32) : f_m_takes c t = some (0, t) := by
  unfold f_m_takes
  rw [if_pos (zMx_p h)]
theorem adv_s {N : Nat} {tx : Nat → Int32} {s : zSt} {p k : Nat} (h : zPt N tx s p k) (hp : p < N) : zPt N tx (zw s 13 4 (s.1 13 4 + 1)) (p + 1) k ∧ ∀ i, zPf s (zw s 13 4 (s.1 13 4 + 1)) i := by
  obtain ⟨hN, h1, h4, h3, hp', hk, hl⟩ := h
  refine ⟨⟨hN, by rw [zw_o, if_neg (by omega)]; exact h1, by rw [zw_o, if_pos rfl, h4, nI_1], by rw [zw_o, if_neg (by omega)]; exact h3, by omega, hk, fun j hj => by rw [zw_e (by omega)]; exact hl j hj⟩, fun i => ⟨rfl, fun a a1 _ => zw_e a1, fun j _ j2 => by rw [zw_o, if_neg j2], fun j _ => by rw [zw_e (by omega)]⟩⟩
theorem adv_t {N : Nat} {tx : Nat → Int32} {t : zSt} {p o : Nat} (h : zMt N tx t p o) (hp : p < N) : zMt N tx (zw t 0 15 (t.1 0 15 + 1)) (p + 1) o ∧ zMf t (zw t 0 15 (t.1 0 15 + 1)) := by
  obtain ⟨⟨h1, h2, h3, h4, h5⟩, h6, h7⟩ := h
  have F := zMf_w t (j := 15) (by omega) (t.1 0 15 + 1)
  exact ⟨⟨⟨by rw [zw_o, if_pos rfl, h1, nI_1], by rw [zw_o, if_neg (by omega)]; exact h2, by omega, h4, zBy_f h5 F⟩, by rw [zw_o, if_neg (by omega)]; exact h6, by rw [zw_o, if_neg (by omega)]; exact h7⟩, F⟩
theorem p_step {N : Nat} {tx : Nat → Int32} {s : zSt} {p k : Nat} (h : zPt N tx s p k) (hk : k < 121) (x : Int32) : ∃ s', f_tp_step x s = some (1, s') ∧ zPt N tx s' p (k + 1) ∧ zPf s s' k ∧ s'.1 15 k = x := by
  obtain ⟨hN, h1, h4, h3, hp, hk', hl⟩ := h
  refine ⟨zw (zw s 15 k x) 13 3 ((zw s 15 k x).1 13 3 + 1), ?_, ⟨hN, ?_, ?_, ?_, hp, by omega, fun j hj => ?_⟩, ⟨rfl, fun a a1 a2 => ?_, fun j j1 _ => ?_, fun j hj => ?_⟩, ?_⟩
  · unfold f_tp_step
    rw [h3, if_pos (show nI k < (121 : Int32) from nI_lt (b := 121) hk (by omega)), zst_at hk (by omega), Option.bind_some]
  · rw [zw_o, if_neg (by omega), zw_e (by omega)]; exact h1
  · rw [zw_o, if_neg (by omega), zw_e (by omega)]; exact h4
  · rw [zw_o, if_pos rfl, zw_e (by omega), h3, nI_1]
  · rw [zw_e (by omega), zw_e (by omega)]; exact hl j hj
  · rw [zw_e a1, zw_e a2]
  · rw [zw_o, if_neg j1, zw_e (by omega)]
  · rw [zw_e (by omega), zw_o, if_neg (by omega)]
  · rw [zw_e (by omega), zw_o, if_pos rfl]
theorem p_wrong {N : Nat} {tx : Nat → Int32} {t : zSt} {p o : Nat} (h : zMt N tx t p o) : ∃ t', f_m_wrong t = some (0, t') ∧ zMx N tx t' p ∧ zMf t t' := by
  obtain ⟨⟨h1, h2, h3, h4, h5⟩, h6, h7⟩ := h
  have F := zMf_w t (j := 17) (by omega) (t.1 0 15)
  refine ⟨_, ?_, ⟨⟨?_, ?_, h3, h4, zBy_f h5 F⟩, ?_⟩, F⟩
  · unfold f_m_wrong
    rw [h6, if_neg (by decide)]
  · rw [zw_o, if_neg (by omega)]; exact h1
  · rw [zw_o, if_neg (by omega)]; exact h2
  · rw [zw_o, if_pos rfl]; exact h1
theorem p_wrongx {N : Nat} {tx : Nat → Int32} {t : zSt} {p : Nat} (h : zMx N tx t p) : ∃ t', f_m_wrong t = some (0, t') ∧ zMx N tx t' p ∧ zMf t t' := by
  have h0 := zMx_p h
  obtain ⟨⟨h1, h2, h3, h4, h5⟩, h6⟩ := h
  have F := zMf_w t (j := 17) (by omega) (t.1 0 17)
  refine ⟨_, ?_, ⟨⟨?_, ?_, h3, h4, zBy_f h5 F⟩, ?_⟩, F⟩
  · unfold f_m_wrong
    rw [if_pos h0]
  · rw [zw_o, if_neg (by omega)]; exact h1
  · rw [zw_o, if_neg (by omega)]; exact h2
  · rw [zw_o, if_pos rfl]; exact h6
