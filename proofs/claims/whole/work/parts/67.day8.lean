/-! DAYS 8: day -/
theorem op_day {s t : zSt} (h : yR s t) (seed : Int32) : yOp (f_g_day seed) (f_m_day seed) s t := by
  obtain ⟨⟨r1, r1b, -⟩, ⟨-, g2, g3, g4, P, hP, e1, e2⟩, -⟩ := id h
  obtain ⟨s1, b1, b2, b3, b4, b5⟩ := g_begin (s.1 2 3) s
  have hL : yLw s1 t := yLw_b h (r1 3 (by omega)) b3 b4
  have hf : zFo s1 := fun q A hq hA => Or.inl (b5 _ (by omega))
  have B : ∀ a, a < 16 → s1.1 a = s.1 a := fun a ha => b3 a (by omega) (by omega) (by omega)
  have hp : yPs s1 t := ⟨P, hP, by rw [B 6 (by omega)]; exact e1, e2, fun j hj => by rw [B 8 (by omega)]; exact g2 j hj, fun j hj => by rw [B 9 (by omega)]; exact g3 j hj, g4⟩
  have L : ∀ (x : zSt) (j : Nat), j < 8 → zld x 2 8 (nI j) = some (x.1 2 j) := fun x j hj => zld_at hj (by omega)
  have L3 : ∀ x : zSt, zld x 2 8 3 = some (x.1 2 3) := fun x => L x 3 (by omega)
  have L7 : ∀ x : zSt, zld x 2 8 7 = some (x.1 2 7) := fun x => L x 7 (by omega)
  obtain ⟨s2, t2, r, c1, c2, c3, c4, ⟨G, S, c5⟩, c6, c7, c8, c9, c10, c11⟩ := spend_rel (o := 25) (by omega) hL hf hp (fun j hj => by rw [← r1 j hj]; exact r1b j hj) (p := s1.1 2 3) (jg := s1.1 2 7) (by rw [B 2 (by omega)]; exact ⟨r1 0 (by omega), r1 1 (by omega), r1 2 (by omega), r1 5 (by omega), r1 6 (by omega), r1 7 (by omega)⟩) seed
  have hx : yR (fun a => if a = 25 then s.1 25 else if a = 26 then s.1 26 else s2.1 a, s2.2) t2 := by
    refine yR_fr h (c8.1.trans b2) c9.1 (fun a a1 a2 a3 a4 a5 a6 a7 => ?_) (fun a a1 a2 a3 => c9.2.1 a a1 a2 a3) (fun j hj => c9.2.2 j hj)
    show (if a = 25 then s.1 25 else if a = 26 then s.1 26 else s2.1 a) = s.1 a
    by_cases x1 : a = 25
    · rw [if_pos x1, x1]
    · rw [if_neg x1]
      by_cases x2 : a = 26
      · rw [if_pos x2, x2]
      · rw [if_neg x2, c8.2 a a2 a3 a4 a5 x1 x2, b3 a a1 a4 a5]
  obtain ⟨e8, e6, e3, e4, -, -, -, -, l, l1, l2, l3, -⟩ := c5
  have T1 := c9.2.1 1 (by omega) (by omega) (by omega)
  have p3 : t2.1 1 3 = s2.1 25 2 := by rw [T1, c10, B 2 (by omega), r1 3 (by omega)]
  have pJ : 3 * t2.1 1 0 + t2.1 1 1 = s2.1 25 10 := by rw [T1, c11, B 2 (by omega), r1 0 (by omega), r1 1 (by omega)]
  obtain ⟨h1, h2, h3, h4, h5, h6, -, h8⟩ := hx
  refine ⟨r, zw s2 0 6 1, zc14 (zTl t2 r) 32, ?_, m_day c2, ⟨h1, h2, h3, h4, h5, h6, ⟨rfl, fun _ => ⟨?_, ?_, ?_, ?_, ?_, ?_, ?_, ?_, ?_, fun j hj => ?_⟩⟩, h8⟩⟩
  · unfold f_g_day
    rw [L3, Option.bind_some, b1, Option.bind_some, L3, Option.bind_some, L7, Option.bind_some, c1, Option.bind_some]
    have : (zw s2 0 6 1).1 25 1 = r := c7
    rw [this]
  · exact c7.symm
  · show r * t2.1 1 3 = s2.1 25 1 * s2.1 25 2
    rw [c7, p3]
  · exact e3.symm
  · exact e4.symm
  · exact l3.trans l2.symm
  · exact e6.symm
  · show t2.1 0 24 * (3 * t2.1 1 0 + t2.1 1 1) = s2.1 25 6 * s2.1 25 10
    rw [pJ, e6]
  · show r * t2.1 1 3 - t2.1 0 24 * (3 * t2.1 1 0 + t2.1 1 1) = s2.1 25 1 * s2.1 25 2 - s2.1 25 6 * s2.1 25 10
    rw [pJ, e6, c7, p3]
  · exact p3
  · show s2.1 26 j = if j < 32 then t2.1 12 j else t2.1 14 j
    rw [if_pos hj]
    exact c6 j hj
