/-! DAYS 1: what a running day holds, on both sides; drawing, filling, growing -/
/-- what was found is the answer, or isn't there -/
def zFo (s : zSt) : Prop := ∀ q A, q < 32 → A ≤ 32 → s.1 24 (q * 33 + A) = -1 ∨ s.1 24 (q * 33 + A) = zBuy s (nI q) (s.1 7 q) (nI A)
/-- only cells of days differ -/
def yDf (s s' : zSt) : Prop := s'.2 = s.2 ∧ ∀ a, (a < 25 ∨ 28 < a) → s'.1 a = s.1 a
def yDm (t t' : zSt) : Prop := t'.2 = t.2 ∧ (∀ a, a ≠ 0 → a ≠ 12 → t'.1 a = t.1 a) ∧ ∀ j, (j < 21 ∨ 26 < j) → t'.1 0 j = t.1 0 j
theorem zTas_d {s s' : zSt} (h : yDf s s') (q k a : Int32) : zTas s' q k a = zTas s q k a := by
  unfold zTas
  rw [h.2 16 (by omega), h.2 17 (by omega), h.2 18 (by omega), h.2 23 (by omega)]
theorem zBuy_d {s s' : zSt} (h : yDf s s') (q k a : Int32) : zBuy s' q k a = zBuy s q k a := by
  have hT := zTas_d h q k a
  unfold zBuy
  rw [hT, h.2 20 (by omega), h.2 21 (by omega), h.2 23 (by omega)]
theorem zFo_d {s s' : zSt} (h : zFo s) (hd : yDf s s') : zFo s' := by
  intro q A hq hA
  rw [zBuy_d hd, hd.2 24 (by omega), hd.2 7 (by omega)]
  exact h q A hq hA
theorem yLw_d {s t s' t' : zSt} (h : yLw s t) (hs : yDf s s') (ht : yDm t t') : yLw s' t' := by
  obtain ⟨-, s2⟩ := hs
  obtain ⟨-, t2, -⟩ := ht
  unfold yLw
  rw [s2 23 (by omega), s2 16 (by omega), s2 7 (by omega), s2 17 (by omega), s2 18 (by omega), s2 20 (by omega), s2 21 (by omega), t2 1 (by omega) (by omega), t2 5 (by omega) (by omega), t2 9 (by omega) (by omega), t2 10 (by omega) (by omega)]
  exact h
/-- the numbers of a running day: left l, at the age that counts while some is left -/
def yDn (o : Nat) (s t : zSt) (G S : Nat) : Prop :=
  s.1 o 8 = t.1 0 21 ∧ s.1 o 6 = t.1 0 24 ∧ s.1 o 3 = t.1 0 25 ∧ s.1 o 4 = t.1 0 26 ∧
  s.1 o 9 = t.1 1 7 ∧ s.1 o 13 = t.1 1 6 ∧ (1 ≤ G ∧ G ≤ 20 ∧ s.1 o 11 = nI G ∧ t.1 1 2 = nI G) ∧ (1 ≤ S ∧ S ≤ 32 ∧ s.1 o 12 = nI S ∧ t.1 1 5 = nI S) ∧
  ∃ l, l ≤ 20 ∧ s.1 o 5 = nI l ∧ t.1 0 22 = nI l ∧ (0 < l → ∃ A, A < S ∧ s.1 o 7 = nI A ∧ t.1 0 23 = nI A)
theorem yDf_w {s : zSt} {o j : Nat} {v : Int32} (ho : 25 ≤ o ∧ o ≤ 28) : yDf s (zw s o j v) :=
  ⟨rfl, fun a ha => by simp only [zw_1, if_neg (show ¬ a = o by omega)]⟩
theorem yDf_t {a b c : zSt} (h : yDf a b) (h' : yDf b c) : yDf a c := ⟨h'.1.trans h.1, fun x hx => (h'.2 x hx).trans (h.2 x hx)⟩
theorem yDm_t {a b c : zSt} (h : yDm a b) (h' : yDm b c) : yDm a c := ⟨h'.1.trans h.1, fun x x1 x2 => (h'.2.1 x x1 x2).trans (h.2.1 x x1 x2), fun j hj => (h'.2.2 j hj).trans (h.2.2 j hj)⟩
theorem yDf_r (s : zSt) : yDf s s := ⟨rfl, fun _ _ => rfl⟩
theorem yDm_r (t : zSt) : yDm t t := ⟨rfl, fun _ _ _ => rfl, fun _ _ => rfl⟩
theorem yDm_w {t : zSt} {j : Nat} {v : Int32} (hj : 21 ≤ j ∧ j ≤ 26) : yDm t (zw t 0 j v) :=
  ⟨rfl, fun a h1 _ => by simp only [zw_1, if_neg h1], fun i hi => by
    show upd (t.1 0) j v i = t.1 0 i
    rw [q_updN (by omega)]⟩
theorem zw_o {s : zSt} {o j i : Nat} {v : Int32} : (zw s o j v).1 o i = if i = j then v else s.1 o i := by
  rw [zw_same]
  by_cases h : i = j
  · subst h; rw [if_pos rfl, q_updS]
  · rw [if_neg h, q_updN h]
theorem zw_e {s : zSt} {o j a : Nat} {v : Int32} (h : a ≠ o) : (zw s o j v).1 a = s.1 a := by rw [zw_1, if_neg h]
theorem draw_rel {o G S : Nat} {s t : zSt} (h : yDn o s t G S) (ho : 25 ≤ o ∧ o ≤ 28) : ∃ r s' t', f_dy_draw o s = some (r, s') ∧ f_m_draws t = some (r, t') ∧ yDn o s' t' G S ∧ yDf s s' ∧ yDm t t' ∧ (∀ a, a ≠ o → s'.1 a = s.1 a) ∧ t'.1 12 = t.1 12 ∧ (∀ i, (i = 1 ∨ i = 2 ∨ i = 10) → s'.1 o i = s.1 o i) ∧ s'.1 o 5 = s.1 o 5 := by
  obtain ⟨e8, e6, e3, e4, e9, e13, ⟨g1, g2, g3, g4⟩, ⟨s1, s2, s3, s4⟩, l, l1, l2, l3, l4⟩ := h
  refine ⟨zrem (zush (s.1 o 8 * 1103515245 + 12345) 8) 12, zw s o 8 (s.1 o 8 * 1103515245 + 12345), zw t 0 21 (t.1 0 21 * 1103515245 + 12345), ?_, ?_, ?_, yDf_w ho, yDm_w (by omega), fun a ha => zw_e ha, rfl, ?_, ?_⟩
  · unfold f_dy_draw
    rw [Option.bind_some, zw_o, if_pos rfl]
  · unfold f_m_draws
    rw [zw_o, if_pos rfl, e8]
  · have ht1 : (zw t 0 21 (t.1 0 21 * 1103515245 + 12345)).1 1 = t.1 1 := rfl
    refine ⟨?_, ?_, ?_, ?_, ?_, ?_, ⟨g1, g2, ?_, g4⟩, ⟨s1, s2, ?_, s4⟩, l, l1, ?_, l3, fun hl => ?_⟩
    · rw [zw_o, if_pos rfl, zw_o, if_pos rfl, e8]
    · rw [zw_o, if_neg (by omega)]; exact e6
    · rw [zw_o, if_neg (by omega)]; exact e3
    · rw [zw_o, if_neg (by omega)]; exact e4
    · rw [zw_o, if_neg (by omega)]; exact e9
    · rw [zw_o, if_neg (by omega)]; exact e13
    · rw [zw_o, if_neg (by omega)]; exact g3
    · rw [zw_o, if_neg (by omega)]; exact s3
    · rw [zw_o, if_neg (by omega)]; exact l2
    · obtain ⟨A, a1, a2, a3⟩ := l4 hl
      exact ⟨A, a1, by rw [zw_o, if_neg (by omega)]; exact a2, a3⟩
  · intro i hi; rw [zw_o, if_neg (by omega)]
  · rw [zw_o, if_neg (by omega)]
/-- a jug is made when nothing is left: the numbers but left's may be any that agree -/
theorem refill_rel {o G S : Nat} {s t : zSt} (h : yDn o s t G S) (ho : 25 ≤ o ∧ o ≤ 28) : ∃ s' t', f_dy_refill o s = some s' ∧ f_m_makesOne t = some t' ∧ yDn o s' t' G S ∧ yDf s s' ∧ yDm t t' ∧ (∀ a, a ≠ o → s'.1 a = s.1 a) ∧ t'.1 12 = t.1 12 ∧ (∀ i, (i = 1 ∨ i = 2 ∨ i = 10) → s'.1 o i = s.1 o i) := by
  obtain ⟨e8, e6, e3, e4, e9, e13, ⟨g1, g2, g3, g4⟩, ⟨s1, s2, s3, s4⟩, l, l1, l2, l3, l4⟩ := id h
  have L7 : ∀ x : zSt, zld x 1 8 7 = some (x.1 1 7) := fun x => zld_at (j := 7) (by omega) (by omega)
  have L2 : ∀ x : zSt, zld x 1 8 2 = some (x.1 1 2) := fun x => zld_at (j := 2) (by omega) (by omega)
  by_cases c : nI l = 0
  · by_cases d : t.1 1 7 ≤ t.1 0 24
    · refine ⟨s, t, ?_, ?_, h, yDf_r s, yDm_r t, fun _ _ => rfl, rfl, fun _ _ => rfl⟩
      · unfold f_dy_refill
        rw [l2, if_pos c, e9, e6, if_pos d]
      · unfold f_m_makesOne
        rw [l3, if_pos c, L7, Option.bind_some, if_pos d]
    · refine ⟨zw (zw (zw s o 6 (s.1 o 6 + 1)) o 5 (nI G)) o 7 0, zw (zw (zw t 0 24 (t.1 0 24 + 1)) 0 22 (nI G)) 0 23 0, ?_, ?_, ?_, yDf_t (yDf_t (yDf_w ho) (yDf_w ho)) (yDf_w ho), yDm_t (yDm_t (yDm_w (by omega)) (yDm_w (by omega))) (yDm_w (by omega)), fun a ha => by rw [zw_e ha, zw_e ha, zw_e ha], rfl, ?_⟩
      · have e11 : (zw s o 6 (s.1 o 6 + 1)).1 o 11 = nI G := by rw [zw_o, if_neg (by omega)]; exact g3
        unfold f_dy_refill
        rw [l2, if_pos c, if_neg (by rw [e9, e6]; exact d), Option.bind_some, Option.bind_some, Option.bind_some, e11]
      · have e2 : (zw t 0 24 (t.1 0 24 + 1)).1 1 2 = nI G := g4
        unfold f_m_makesOne
        rw [l3, if_pos c, L7, Option.bind_some, if_neg d, L2, Option.bind_some, e2]
      · refine ⟨?_, ?_, ?_, ?_, ?_, ?_, ⟨g1, g2, ?_, g4⟩, ⟨s1, s2, ?_, s4⟩, G, g2, ?_, ?_, fun _ => ⟨0, by omega, ?_, ?_⟩⟩
        · rw [zw_o, if_neg (by omega), zw_o, if_neg (by omega), zw_o, if_neg (by omega)]; exact e8
        · rw [zw_o, if_neg (by omega), zw_o, if_neg (by omega), zw_o, if_pos rfl, e6]; rfl
        · rw [zw_o, if_neg (by omega), zw_o, if_neg (by omega), zw_o, if_neg (by omega)]; exact e3
        · rw [zw_o, if_neg (by omega), zw_o, if_neg (by omega), zw_o, if_neg (by omega)]; exact e4
        · rw [zw_o, if_neg (by omega), zw_o, if_neg (by omega), zw_o, if_neg (by omega)]; exact e9
        · rw [zw_o, if_neg (by omega), zw_o, if_neg (by omega), zw_o, if_neg (by omega)]; exact e13
        · rw [zw_o, if_neg (by omega), zw_o, if_neg (by omega), zw_o, if_neg (by omega)]; exact g3
        · rw [zw_o, if_neg (by omega), zw_o, if_neg (by omega), zw_o, if_neg (by omega)]; exact s3
        · rw [zw_o, if_neg (by omega), zw_o, if_pos rfl]
        · rfl
        · rw [zw_o, if_pos rfl]; rfl
        · rfl
      · intro i hi; rw [zw_o, if_neg (by omega), zw_o, if_neg (by omega), zw_o, if_neg (by omega)]
  · refine ⟨s, t, ?_, ?_, h, yDf_r s, yDm_r t, fun _ _ => rfl, rfl, fun _ _ => rfl⟩
    · unfold f_dy_refill
      rw [l2, if_neg c]
    · unfold f_m_makesOne
      rw [l3, if_neg c]
