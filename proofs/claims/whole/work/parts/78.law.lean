/-! LAW 1: a text read whole; the laws kept -/
def yBa (N : Nat) (tx : Nat → Int32) (a : Int32) (t : zSt) : Prop := (a = -1 ∧ ∀ j, j < N → t.1 8 j = tx j) ∨ (∃ w, w < 2 ∧ a = nI (120 * w) ∧ ∀ j, j < N → t.1 9 (120 * w + j) = tx j)
def yWf (t t' : zSt) : Prop := t'.2 = t.2 ∧ (∀ a, a ≠ 0 → t'.1 a = t.1 a) ∧ ∀ j, (j < 14 ∨ 18 < j) → t'.1 0 j = t.1 0 j
def zTs (t : zSt) (a n : Int32) : zSt := zw (zw (zw (zw (zw t 0 14 a) 0 15 0) 0 16 n) 0 17 (-1)) 0 18 0
theorem zTs_f (t : zSt) (a n : Int32) : yWf t (zTs t a n) :=
  ⟨rfl, fun x hx => by unfold zTs; rw [zw_e hx, zw_e hx, zw_e hx, zw_e hx, zw_e hx], fun j hj => by unfold zTs; rw [zw_o, if_neg (by omega), zw_o, if_neg (by omega), zw_o, if_neg (by omega), zw_o, if_neg (by omega), zw_o, if_neg (by omega)]⟩
theorem zTs_t {N : Nat} {tx : Nat → Int32} (hN : N ≤ 120) {a : Int32} {t : zSt} (h : yBa N tx a t) : zMt N tx (zTs t a (nI N)) 0 0 := by
  refine ⟨⟨rfl, rfl, by omega, hN, ?_⟩, rfl, rfl⟩
  rcases h with ⟨rfl, h⟩ | ⟨w, w2, rfl, h⟩
  · exact Or.inl ⟨rfl, h⟩
  · exact Or.inr ⟨w, w2, rfl, h⟩
theorem zMf_W {t t1 t' : zSt} (h : yWf t t1) (h' : zMf t1 t') : yWf t t' :=
  ⟨h'.1.trans h.1, fun a ha => (h'.2.1 a ha).trans (h.2.1 a ha), fun j hj => (h'.2.2 j (by omega)).trans (h.2.2 j hj)⟩
theorem read_all {N : Nat} {s : zSt} (hN : N ≤ 120) (h1 : s.1 13 1 = nI N) (htx : ∀ j, j < N → ∃ c : Nat, c < 256 ∧ s.1 14 j = nI c) :
    ∃ r s' k', f_tp_read s = some (r, s') ∧ s'.2 = s.2 ∧ (∀ a, a ≠ 13 → a ≠ 15 → s'.1 a = s.1 a) ∧ s'.1 13 3 = nI k' ∧ k' ≤ 121 ∧ ((r = -1 ∧ ∀ t a, yBa N (s.1 14) a t → ∃ t', f_m_workOut a (nI N) t = some (vRun (t.1 11) (s'.1 15) k' 0 [], t') ∧ yWf t t' ∧ t'.1 0 17 = -1) ∨ (∃ p, p ≤ 120 ∧ r = nI p ∧ ∀ t a, yBa N (s.1 14) a t → ∃ v t', f_m_workOut a (nI N) t = some (v, t') ∧ yWf t t' ∧ t'.1 0 17 = nI p)) := by
  have hzF := zFu_big
  have hs : zPt N (s.1 14) (zw (zw s 13 4 0) 13 3 0) 0 0 := ⟨hN, h1, rfl, rfl, by omega, by omega, fun _ _ => rfl⟩
  have hW : ∀ t a, f_m_workOut a (nI N) t = f_m_workOut_33 zFu 0 0 1 (zTs t a (nI N)) := fun t a => rfl
  obtain ⟨r, s', e, p', k', q1, q2, q3⟩ := read_loop htx N 0 0 _ 0 zFu zFu (by omega) (by omega) (by omega) (by omega) hs (by omega)
  rw [show nI 0 = (0 : Int32) from rfl] at e
  refine ⟨r, s', k', e, q2.1, fun a a1 a2 => (q2.2.1 a a1 a2).trans (by rw [zw_e a1, zw_e a1]), q1.2.2.2.1, q1.2.2.2.2.2.1, ?_⟩
  rcases q3 with ⟨rfl, q4, q5⟩ | ⟨rfl, q4⟩
  · refine Or.inl ⟨rfl, fun t a ha => ?_⟩
    obtain ⟨⟨t', f1, f2, f3⟩, -⟩ := q5 _ (zTs_t hN ha)
    refine ⟨t', ?_, zMf_W (zTs_f t a (nI N)) f2, f3⟩
    rw [(zTs_f t a (nI N)).2.1 11 (by omega)] at f1
    rw [hW, f1]
    rfl
  · refine Or.inr ⟨p', by have := q1.2.2.2.2.1; omega, rfl, fun t a ha => ?_⟩
    obtain ⟨v, t', f1, f2, f3⟩ := q4 _ 0 0 (zTs_t hN ha) (Or.inl rfl)
    exact ⟨v, t', by rw [hW, f1], zMf_W (zTs_f t a (nI N)) f2, f3⟩
theorem yRL1_cg {w : Nat} {len told : Int32} {steps : Nat → Int32} {many : Int32} {text text' : Nat → Int32} (h : yRL1 w len told steps many text) (e : ∀ j, j < 120 → text' (120 * w + j) = text (120 * w + j)) : yRL1 w len told steps many text' := by
  rcases h with h | ⟨h1, n, k, h2, h3, h4, h5, h6⟩
  · exact Or.inl h
  · exact Or.inr ⟨h1, n, k, h2, h3, h4, h5, fun t ht => h6 t (fun j hj => (ht j hj).trans (e j (by omega)))⟩
theorem yR_law {s t s' t' : zSt} (h : yR s t) {w : Nat} (hw : w < 2) (s2 : s'.2 = s.2) (t2 : t'.2 = t.2) (sa : ∀ a, a ≠ 13 → a ≠ 15 → a ≠ 17 + 3 * w → a ≠ 18 + 3 * w → s'.1 a = s.1 a) (s13 : s'.1 13 1 = 0) (ta : ∀ a, a ≠ 0 → a ≠ 9 → a ≠ 10 → t'.1 a = t.1 a) (t0 : ∀ j, j ≠ 11 → (j < 14 ∨ 18 < j) → t'.1 0 j = t.1 0 j) (t11 : t'.1 0 11 = 0) (l0' : yRL1 0 (s'.1 17 2) (s'.1 17 3) (s'.1 18) (t'.1 10 0) (t'.1 9)) (l1' : yRL1 1 (s'.1 20 2) (s'.1 20 3) (s'.1 21) (t'.1 10 1) (t'.1 9)) : yR s' t' := by
  have A : ∀ a, (a < 13 ∨ a = 14 ∨ a = 16 ∨ 21 < a) → s'.1 a = s.1 a := fun a ha => sa a (by omega) (by omega) (by omega) (by omega)
  have B : ∀ a, (1 ≤ a ∧ a < 9 ∨ 10 < a) → t'.1 a = t.1 a := fun a ha => ta a (by omega) (by omega) (by omega)
  obtain ⟨h1, h2, h3, h4, h5, h6, h7, h8, h9, h10, p0, p1, p2, p3, p4, p5⟩ := h
  refine ⟨?_, ?_, ?_, ⟨0, by omega, s13, t11, fun j hj => absurd hj (by omega)⟩, l0', l1', ?_, ?_, ?_, ?_, ?_, ?_, ?_, ?_, ?_, ?_⟩
  · rw [A 2 (by omega), A 3 (by omega), A 4 (by omega), A 5 (by omega), A 1 (by omega), B 1 (by omega), B 2 (by omega), B 3 (by omega), B 4 (by omega), t0 5 (by omega) (by omega), t0 4 (by omega) (by omega)]; exact h1
  · rw [A 7 (by omega), A 8 (by omega), A 9 (by omega), A 6 (by omega), B 5 (by omega), B 6 (by omega), B 7 (by omega), t0 8 (by omega) (by omega)]; exact h2
  · rw [A 10 (by omega), A 11 (by omega), A 6 (by omega), B 22 (by omega), B 23 (by omega), t0 38 (by omega) (by omega)]; exact h3
  · rw [A 0 (by omega), A 25 (by omega), A 26 (by omega), t0 27 (by omega) (by omega), B 13 (by omega), B 14 (by omega), t0 30 (by omega) (by omega)]; exact h7
  · rw [A 30 (by omega), A 31 (by omega), B 17 (by omega), B 18 (by omega)]; exact h8
  · rw [A 33 (by omega), A 34 (by omega), A 35 (by omega), B 19 (by omega)]; exact h9
  · rw [A 37 (by omega), A 38 (by omega), A 36 (by omega), B 24 (by omega), B 25 (by omega), t0 41 (by omega) (by omega), t0 44 (by omega) (by omega)]; exact h10
  · rw [A 40 (by omega), s2, B 26 (by omega), B 27 (by omega), t2, t0 41 (by omega) (by omega)]; exact p0
  · rw [A 42 (by omega), s2, B 26 (by omega), B 27 (by omega), t2, t0 41 (by omega) (by omega)]; exact p1
  · rw [A 44 (by omega), s2, B 26 (by omega), B 27 (by omega), t2, t0 41 (by omega) (by omega)]; exact p2
  · rw [A 46 (by omega), s2, B 26 (by omega), B 27 (by omega), t2, t0 41 (by omega) (by omega)]; exact p3
  · rw [A 48 (by omega), s2, B 26 (by omega), B 27 (by omega), t2, t0 41 (by omega) (by omega)]; exact p4
  · rw [A 50 (by omega), s2, B 26 (by omega), B 27 (by omega), t2, t0 41 (by omega) (by omega)]; exact p5
/-- the text's copying -/
def zc9 (t : zSt) (w i : Nat) : zSt := (fun a => if a = 9 then (fun j => if 120 * w ≤ j ∧ j < 120 * w + i then t.1 8 (j - 120 * w) else t.1 9 j) else t.1 a, t.2)
theorem zc9_0 (t : zSt) (w : Nat) : zc9 t w 0 = t := by
  have : (fun a => if a = 9 then (fun j => if 120 * w ≤ j ∧ j < 120 * w + 0 then t.1 8 (j - 120 * w) else t.1 9 j) else t.1 a) = t.1 := by
    funext a
    by_cases h : a = 9
    · subst h
      funext j
      rw [if_pos rfl, if_neg (by omega)]
    · rw [if_neg h]
  show (_, t.2) = t
  rw [this]
theorem zc9_s (t : zSt) (w i : Nat) : zw (zc9 t w i) 9 (120 * w + i) (t.1 8 i) = zc9 t w (i + 1) := by
  show (_, t.2) = (_, t.2)
  congr 1
  funext a
  by_cases h : a = 9
  · subst h
    funext j
    show upd (fun j => if 120 * w ≤ j ∧ j < 120 * w + i then t.1 8 (j - 120 * w) else t.1 9 j) (120 * w + i) (t.1 8 i) j = if 120 * w ≤ j ∧ j < 120 * w + (i + 1) then t.1 8 (j - 120 * w) else t.1 9 j
    by_cases e : j = 120 * w + i
    · subst e
      rw [q_updS, if_pos (by omega), show 120 * w + i - 120 * w = i by omega]
    · rw [q_updN e]
      by_cases e2 : 120 * w ≤ j ∧ j < 120 * w + i
      · rw [if_pos e2, if_pos (by omega)]
      · rw [if_neg e2, if_neg (by omega)]
  · simp only [zc9, if_neg h]
theorem law_copy {w N : Nat} (hw : w < 2) (hN : N ≤ 120) (t : zSt) : ∀ (m i F : Nat), i + m = N → m < F → f_m_law_50 F (nI w) (nI N) (nI i) (zc9 t w i) = some (1, zw (zc9 t w N) 10 w (nI N)) := by
  intro m
  induction m with
  | zero =>
    intro i F hi hF
    obtain ⟨F, rfl⟩ : ∃ x, F = x + 1 := ⟨F - 1, by omega⟩
    have e : i = N := by omega
    subst e
    unfold f_m_law_50
    rw [if_pos (nI_le (Nat.le_refl _) (by omega)), zst_at hw (by omega), Option.bind_some]
  | succ m ih =>
    intro i F hi hF
    obtain ⟨F, rfl⟩ : ∃ x, F = x + 1 := ⟨F - 1, by omega⟩
    unfold f_m_law_50
    rw [if_neg (nI_ge (by omega) (by omega)), zld_at (show i < 120 by omega) (by omega), Option.bind_some, show (120 : Int32) = nI 120 from rfl, pk_mul, nI_add, zst_at (show 120 * w + i < 240 by omega) (by omega), Option.bind_some, show (zc9 t w i).1 8 i = t.1 8 i from rfl, zc9_s, nI_1]
    exact ih (i + 1) F (by omega) (by omega)
