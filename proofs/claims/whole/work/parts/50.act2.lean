/-! OPS 20: act, both -/
theorem ar_step {c a d F c0 k : Nat} (hc : c < 8) (ha : a < 4) (hd : d ≤ 40) {v ab : Int32} (ev : zlt [1, 10, 11, 2, 20, 0, 0, 0, 0, 30, 0, 0, 0, 41, 40, 0, 0, 0, 50, 0, 0, 0, 0, 60, 70, 0, 0, 0, 0, 80, 0, 81] (nI (kb c a) * 4 + nI a) = some v) (eb : zlt [-1, 0, 0, 2, 1, 3, 0, 4] (nI (kb c a)) = some ab)
    {g B : Int32 → zSt → Option (Int32 × zSt)} (hg : ∀ x t, g x t = (f_m_begins v t).bind (B x)) (hB : yAr c0 k (fun x => zAb v (F_gl F) x (nI c0) ab (nI (d + 1))) B) : yAr c0 (k + 1) (fun x => F_gl (F + 1) (nI c) (nI a) x (nI d)) g := by
  intro x s t b h hb
  obtain ⟨s1, t1, n1, n2, n3⟩ := note_rel h (by omega) v
  obtain ⟨-, -, -, ⟨w, hw, e3, -, e5⟩, -⟩ := h
  obtain ⟨r, s', t', b', h1, h2, h3, h4⟩ := hB x s1 t1 (b + 1) n3 (by omega)
  refine ⟨r, s', t', b', by omega, ?_, ?_, h4⟩
  · show F_gl (F + 1) (nI c) (nI a) x (nI d) s = _
    rw [gl_step hc ha hd ev eb x hw e3 e5, n1, Option.bind_some]
    exact h2
  · rw [hg, n2, Option.bind_some]
    exact h3
theorem ar_own {c0 : Nat} (K : Int32 → Int32 → Int32 → Int32 → zSt → Option (Int32 × zSt)) (o ab d : Int32) : yAr c0 0 (fun x => zAb 1 K x o ab d) (fun x t => some (x + t.1 0 46, t)) := by
  intro x s t b h hb
  obtain ⟨-, -, -, ⟨w, hw, e3, e4, e5⟩, -⟩ := id h
  refine ⟨x + nI w, s, t, b, by omega, ?_, ?_, h⟩
  · rw [← e3]; rfl
  · show some (x + t.1 0 46, t) = _
    rw [e4]
theorem ar_xor {c0 : Nat} (K : Int32 → Int32 → Int32 → Int32 → zSt → Option (Int32 × zSt)) (o ab d : Int32) : yAr c0 0 (fun x => zAb 11 K x o ab d) (fun x t => some (x ^^^ t.1 0 46, t)) := by
  intro x s t b h hb
  obtain ⟨-, -, -, ⟨w, hw, e3, e4, e5⟩, -⟩ := id h
  refine ⟨x ^^^ nI w, s, t, b, by omega, ?_, ?_, h⟩
  · rw [← e3]; rfl
  · show some (x ^^^ t.1 0 46, t) = _
    rw [e4]
theorem ar_one {c0 k : Nat} {f g : Int32 → zSt → Option (Int32 × zSt)} (φ ψ : Int32 → Int32) (h : yAr c0 k f g) : yAr c0 k (fun x s => (f (φ x) s).bind fun r => some (ψ r.1, r.2)) (fun x t => (g (φ x) t).bind fun r => some (ψ r.1, r.2)) := by
  intro x s t b ha hb
  obtain ⟨r, s', t', b', h1, h2, h3, h4⟩ := h (φ x) s t b ha hb
  refine ⟨ψ r, s', t', b', h1, ?_, ?_, h4⟩
  · show (f (φ x) s).bind _ = _
    rw [h2]; rfl
  · show (g (φ x) t).bind _ = _
    rw [h3]; rfl
theorem ar_oneK {c0 k : Nat} {f : Int32 → zSt → Option (Int32 × zSt)} {gk : Int32 → Int32 → zSt → Option (Int32 × zSt)} (ψ : Int32 → Int32) (h : yAr c0 k f (gk (nI c0))) : yAr c0 k (fun x s => (f x s).bind fun r => some (ψ r.1, r.2)) (fun x t => (gk (t.1 0 45) x t).bind fun r => some (ψ r.1, r.2)) := by
  intro x s t b ha hb
  obtain ⟨r, s', t', b', h1, h2, h3, h4⟩ := h x s t b ha hb
  obtain ⟨-, -, -, -, e6⟩ := ha
  refine ⟨ψ r, s', t', b', h1, ?_, ?_, h4⟩
  · show (f x s).bind _ = _
    rw [h2]; rfl
  · show (gk (t.1 0 45) x t).bind _ = _
    rw [e6, h3]; rfl
theorem ar_two {c0 k k' : Nat} {f g f' : Int32 → zSt → Option (Int32 × zSt)} {gk : Int32 → Int32 → zSt → Option (Int32 × zSt)} (y : Int32) (op : Int32 → Int32 → Int32) (h : yAr c0 k f g) (h' : yAr c0 k' f' (gk (nI c0))) :
    yAr c0 (k + k') (fun x s => (f x s).bind fun r => (f' y r.2).bind fun q => some (op r.1 q.1, q.2)) (fun x t => (g x t).bind fun r => (gk (r.2.1 0 45) y r.2).bind fun q => some (op r.1 q.1, q.2)) := by
  intro x s t b ha hb
  obtain ⟨r, s', t', b', h1, h2, h3, h4⟩ := h x s t b ha (by omega)
  obtain ⟨q, s2, t2, b2, i1, i2, i3, i4⟩ := h' y s' t' b' h4 (by omega)
  obtain ⟨-, -, -, -, e6⟩ := h4
  refine ⟨op r q, s2, t2, b2, by omega, ?_, ?_, i4⟩
  · show (f x s).bind _ = _
    rw [h2, Option.bind_some, i2]; rfl
  · show (g x t).bind _ = _
    rw [h3, Option.bind_some]
    dsimp only
    rw [e6, i3]; rfl
theorem ar_twoK {c0 k k' : Nat} {f f' : Int32 → zSt → Option (Int32 × zSt)} {gk' gk : Int32 → Int32 → zSt → Option (Int32 × zSt)} (y : Int32) (op : Int32 → Int32 → Int32) (h : yAr c0 k f (gk' (nI c0))) (h' : yAr c0 k' f' (gk (nI c0))) :
    yAr c0 (k + k') (fun x s => (f x s).bind fun r => (f' y r.2).bind fun q => some (op r.1 q.1, q.2)) (fun x t => (gk' (t.1 0 45) x t).bind fun r => (gk (r.2.1 0 45) y r.2).bind fun q => some (op r.1 q.1, q.2)) := by
  intro x s t b ha hb
  obtain ⟨r, s', t', b', h1, h2, h3, h4⟩ := h x s t b ha (by omega)
  obtain ⟨q, s2, t2, b2, i1, i2, i3, i4⟩ := h' y s' t' b' h4 (by omega)
  obtain ⟨-, -, -, -, e6'⟩ := ha
  obtain ⟨-, -, -, -, e6⟩ := h4
  refine ⟨op r q, s2, t2, b2, by omega, ?_, ?_, i4⟩
  · show (f x s).bind _ = _
    rw [h2, Option.bind_some, i2]; rfl
  · show (gk' (t.1 0 45) x t).bind _ = _
    rw [e6', h3, Option.bind_some]
    dsimp only
    rw [e6, i3]; rfl
theorem ar_mk0 {c0 d F F' : Nat} (hd : d ≤ 40) : yAr c0 1 (fun x => F_gl (F + 1) (nI 0) (nI 0) x (nI d)) (fun x => F_mk (F' + 1) (nI 0) x) :=
  ar_step (c := 0) (a := 0) (v := 1) (ab := -1) (by omega) (by omega) hd rfl rfl (B := fun x t => some (x + t.1 0 46, t)) (fun x t => rfl) (ar_own _ _ _ _)
theorem ar_mk {c0 d F F' : Nat} (hd : d ≤ 39) : ∀ c, c < 8 → yAr c0 2 (fun x => F_gl (F + 2) (nI c) (nI 0) x (nI d)) (fun x => F_mk (F' + 2) (nI c) x) := by
  intro c hc
  have own : ∀ c, (c = 0 ∨ c = 2 ∨ c = 3 ∨ c = 5) → yAr c0 2 (fun x => F_gl (F + 2) (nI c) (nI 0) x (nI d)) (fun x => F_mk (F' + 2) (nI c) x) := by
    intro c h
    rcases h with rfl | rfl | rfl | rfl <;> exact yAr_le (ar_step (a := 0) (v := 1) (ab := -1) (by omega) (by omega) (by omega) rfl rfl (B := fun x t => some (x + t.1 0 46, t)) (fun x t => rfl) (ar_own _ _ _ _)) (by omega)
  have pl : ∀ c, (c = 1 ∨ c = 4 ∨ c = 7) → yAr c0 2 (fun x => F_gl (F + 2) (nI c) (nI 0) x (nI d)) (fun x => F_mk (F' + 2) (nI c) x) := by
    intro c h
    have hb := ar_one (fun x => x) (fun r => r + 3) (ar_mk0 (c0 := c0) (d := d + 1) (F := F) (F' := F') (by omega))
    rcases h with rfl | rfl | rfl <;> exact ar_step (a := 0) (v := 20) (ab := 0) (by omega) (by omega) (by omega) rfl rfl (B := fun x t => (F_mk (F' + 1) (nI 0) x t).bind fun r => some (r.1 + 3, r.2)) (fun x t => rfl) hb
  have hc' : c = 0 ∨ c = 1 ∨ c = 2 ∨ c = 3 ∨ c = 4 ∨ c = 5 ∨ c = 6 ∨ c = 7 := by omega
  rcases hc' with rfl | rfl | rfl | rfl | rfl | rfl | rfl | rfl
  · exact own 0 (by omega)
  · exact pl 1 (by omega)
  · exact own 2 (by omega)
  · exact own 3 (by omega)
  · exact pl 4 (by omega)
  · exact own 5 (by omega)
  · exact ar_step (c := 6) (a := 0) (v := 70) (ab := 0) (by omega) (by omega) (by omega) rfl rfl (B := fun x t => (F_mk (F' + 1) (nI 0) x t).bind fun r => some (r.1 * 2, r.2)) (fun x t => rfl) (ar_one (fun x => x) (fun r => r * 2) (ar_mk0 (c0 := c0) (d := d + 1) (F := F) (F' := F') (by omega)))
  · exact pl 7 (by omega)
