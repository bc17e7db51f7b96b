/-! LAWS 3: taste and buys, both -/
theorem p_worth {s : zSt} {o k : Nat} (hk : k ≤ 121) (hl : s.1 o 2 = nI k) (ho : o + 2 ≠ 23) : ∃ f', f_lw_worth o s = some (vRun (s.1 23) (s.1 (o + 1)) k 0 [], zcO s o f') := by
  obtain ⟨f', h⟩ := worth_loop hk hl ho k 0 zFu (s.1 (o + 2)) [] (by omega) (by have := zFu_big; omega) (Nat.le_refl _) trivial
  rw [zcO_0] at h
  exact ⟨f', h⟩
theorem vRun_cg {n n' steps : Nat → Int32} (h : ∀ j, j < 9 → n j = n' j) : ∀ (m i : Nat) (S : List Int32), vRun n steps m i S = vRun n' steps m i S := by
  intro m
  induction m with
  | zero => intro i S; rfl
  | succ m ih =>
    intro i S
    rw [vRun_s, vRun_s, show (fun S => vRun n steps m (i + 1) S) = (fun S => vRun n' steps m (i + 1) S) from funext (ih (i + 1))]
    generalize steps i = x
    unfold vOne
    by_cases c0 : 0 ≤ x
    · rw [if_pos c0, if_pos c0]
    · rw [if_neg c0, if_neg c0]
      by_cases c9 : -9 ≤ x
      · rw [if_pos c9, if_pos c9]
        have rx := q_rng x
        have x1 : x.toInt < 0 := by rw [q_le, l0] at c0; omega
        have x2 : -9 ≤ x.toInt := by rw [q_le, show (-9 : Int32).toInt = -9 from rfl] at c9; exact c9
        have e1 : (-1 - x : Int32).toInt = -1 - x.toInt := by
          rw [q_subI (by rw [show (-1 : Int32).toInt = -1 from rfl]; omega) (by rw [show (-1 : Int32).toInt = -1 from rfl]; omega), show (-1 : Int32).toInt = -1 from rfl]
        obtain ⟨j, hj, ej⟩ := q_ix (x := -1 - x) (n := 8) (by rw [e1]; omega)
        rw [ej, nI_clamp (by omega), h j (by omega)]
      · rw [if_neg c9, if_neg c9]
/-- the nine numbers that the names stand for -/
def nmOf (l u g a h t p b q : Int32) : Nat → Int32
  | 0 => l
  | 1 => u
  | 2 => g
  | 3 => a
  | 4 => h
  | 5 => t
  | 6 => p
  | 7 => b
  | _ => q
theorem nm_of {f : Nat → Int32} {l u g a h t p b q : Int32} (e : f 0 = l ∧ f 1 = u ∧ f 2 = g ∧ f 3 = a ∧ f 4 = h ∧ f 5 = t ∧ f 6 = p ∧ f 7 = b ∧ f 8 = q) : ∀ j, j < 9 → f j = nmOf l u g a h t p b q j := by
  intro j hj
  obtain ⟨e0, e1, e2, e3, e4, e5, e6, e7, e8⟩ := e
  have hj' : j = 0 ∨ j = 1 ∨ j = 2 ∨ j = 3 ∨ j = 4 ∨ j = 5 ∨ j = 6 ∨ j = 7 ∨ j = 8 := by omega
  rcases hj' with rfl | rfl | rfl | rfl | rfl | rfl | rfl | rfl | rfl
  · exact e0
  · exact e1
  · exact e2
  · exact e3
  · exact e4
  · exact e5
  · exact e6
  · exact e7
  · exact e8
def zHeld (v m : Int32) : Int32 := zmax 0 (zmin m v)
theorem g_held (v m : Int32) (s : zSt) : f_ls_held v m s = some (zHeld v m, s) := rfl
theorem m_held {v m : Int32} (hm : 0 ≤ m.toInt) (t : zSt) : f_m_heldTo v m t = some (zHeld v m, t) := by
  unfold f_m_heldTo zHeld zmax zmin
  by_cases h0 : 0 ≤ v
  · rw [if_pos h0]
    have h0' : 0 ≤ v.toInt := by rw [q_le, l0] at h0; exact h0
    by_cases h1 : v ≤ m
    · have h1' : v.toInt ≤ m.toInt := by rw [q_le] at h1; exact h1
      rw [if_pos h1]
      by_cases h2 : v < m
      · rw [if_pos h2]
        by_cases h3 : 0 < v
        · rw [if_pos h3]
        · rw [if_neg h3]
          have : v = 0 := by rw [q_eq, l0]; rw [q_lt, l0] at h3; omega
          rw [this]
      · rw [if_neg h2]
        have e : v = m := by rw [q_eq]; rw [q_lt] at h2; omega
        subst e
        by_cases h3 : 0 < v
        · rw [if_pos h3]
        · rw [if_neg h3]
          have : v = 0 := by rw [q_eq, l0]; rw [q_lt, l0] at h3; omega
          rw [this]
    · rw [if_neg h1]
      have h1' : m.toInt < v.toInt := by rw [q_le] at h1; omega
      rw [if_neg (show ¬ v < m by rw [q_lt]; omega)]
      by_cases h3 : 0 < m
      · rw [if_pos h3]
      · rw [if_neg h3]
        have : m = 0 := by rw [q_eq, l0]; rw [q_lt, l0] at h3; omega
        rw [this]
  · rw [if_neg h0]
    have h0' : v.toInt < 0 := by rw [q_le, l0] at h0; omega
    rw [if_pos (show v < m by rw [q_lt]; omega), if_neg (by rw [q_lt, l0]; omega)]
/-- how it tastes, by the class's names and steps -/
def zTas (s : zSt) (q h a : Int32) : Int32 := if a < s.1 16 3 then zHeld (if s.1 17 3 = 0 then (s.1 23 0 + s.1 23 1) - s.1 23 2 / 3 else vRun (nmOf (s.1 23 0) (s.1 23 1) (s.1 23 2) a h 0 (s.1 23 6) (s.1 23 7) q) (s.1 18) (s.1 17 2).toNatClampNeg 0 []) 9 else 0
/-- how many of twelve buy -/
def zBuy (s : zSt) (q h a : Int32) : Int32 := zHeld (if s.1 20 3 = 0 then ((zTas s q h a + h / 5) - s.1 23 6 / 4) + s.1 23 7 / 4 else vRun (nmOf (s.1 23 0) (s.1 23 1) (s.1 23 2) a h (zTas s q h a) (s.1 23 6) (s.1 23 7) q) (s.1 21) (s.1 20 2).toNatClampNeg 0 []) 12
/-- what the laws read, on both sides -/
def yLw (s t : zSt) : Prop := (s.1 23 0 = t.1 1 0 ∧ s.1 23 1 = t.1 1 1 ∧ s.1 23 2 = t.1 1 2 ∧ s.1 23 6 = t.1 1 3 ∧ s.1 23 7 = t.1 1 4 ∧ s.1 16 3 = t.1 1 5) ∧ (∀ j, j < 32 → s.1 7 j = t.1 5 j) ∧ yRL1 0 (s.1 17 2) (s.1 17 3) (s.1 18) (t.1 10 0) (t.1 9) ∧ yRL1 1 (s.1 20 2) (s.1 20 3) (s.1 21) (t.1 10 1) (t.1 9)
/-- a class state after looks, and a reference state after readings -/
def yGf (s s' : zSt) : Prop := s'.2 = s.2 ∧ (∀ a, a ≠ 23 → a ≠ 19 → a ≠ 22 → a ≠ 24 → s'.1 a = s.1 a) ∧ s'.1 23 0 = s.1 23 0 ∧ s'.1 23 1 = s.1 23 1 ∧ s'.1 23 2 = s.1 23 2 ∧ s'.1 23 6 = s.1 23 6 ∧ s'.1 23 7 = s.1 23 7
def yMf (t t' : zSt) : Prop := t'.2 = t.2 ∧ (∀ a, a ≠ 0 → a ≠ 11 → t'.1 a = t.1 a) ∧ ∀ j, (j < 14 ∨ 18 < j) → t'.1 0 j = t.1 0 j
theorem yGf_t {a b c : zSt} (h : yGf a b) (h' : yGf b c) : yGf a c := by
  obtain ⟨h1, h2, h3, h4, h5, h6, h7⟩ := h
  obtain ⟨i1, i2, i3, i4, i5, i6, i7⟩ := h'
  exact ⟨i1.trans h1, fun x a1 a2 a3 a4 => (i2 x a1 a2 a3 a4).trans (h2 x a1 a2 a3 a4), i3.trans h3, i4.trans h4, i5.trans h5, i6.trans h6, i7.trans h7⟩
theorem yMf_t {a b c : zSt} (h : yMf a b) (h' : yMf b c) : yMf a c := by
  obtain ⟨h1, h2, h3⟩ := h
  obtain ⟨i1, i2, i3⟩ := h'
  exact ⟨i1.trans h1, fun x a1 a2 => (i2 x a1 a2).trans (h2 x a1 a2), fun j hj => (i3 j hj).trans (h3 j hj)⟩
theorem yLw_f {s t s' t' : zSt} (h : yLw s t) (hs : yGf s s') (ht : yMf t t') : yLw s' t' := by
  obtain ⟨⟨n0, n1, n2, n6, n7, n5⟩, h2, h3, h4⟩ := h
  obtain ⟨-, s2, s3, s4, s5, s6, s7⟩ := hs
  obtain ⟨-, t2, -⟩ := ht
  have T1 := t2 1 (by omega) (by omega)
  have T5 := t2 5 (by omega) (by omega)
  have T9 := t2 9 (by omega) (by omega)
  have T10 := t2 10 (by omega) (by omega)
  have S16 := s2 16 (by omega) (by omega) (by omega) (by omega)
  have S7 := s2 7 (by omega) (by omega) (by omega) (by omega)
  have S17 := s2 17 (by omega) (by omega) (by omega) (by omega)
  have S18 := s2 18 (by omega) (by omega) (by omega) (by omega)
  have S20 := s2 20 (by omega) (by omega) (by omega) (by omega)
  have S21 := s2 21 (by omega) (by omega) (by omega) (by omega)
  exact ⟨⟨by rw [s3, T1]; exact n0, by rw [s4, T1]; exact n1, by rw [s5, T1]; exact n2, by rw [s6, T1]; exact n6, by rw [s7, T1]; exact n7, by rw [S16, T1]; exact n5⟩, fun j hj => by rw [S7, T5]; exact h2 j hj, by rw [S17, S18, T10, T9]; exact h3, by rw [S20, S21, T10, T9]; exact h4⟩
theorem zTas_f {s s' : zSt} (h : yGf s s') (q k a : Int32) : zTas s' q k a = zTas s q k a := by
  obtain ⟨-, s2, s3, s4, s5, s6, s7⟩ := h
  unfold zTas
  rw [s2 16 (by omega) (by omega) (by omega) (by omega), s2 17 (by omega) (by omega) (by omega) (by omega), s2 18 (by omega) (by omega) (by omega) (by omega), s3, s4, s5, s6, s7]
theorem zBuy_f {s s' : zSt} (h : yGf s s') (q k a : Int32) : zBuy s' q k a = zBuy s q k a := by
  have hT := zTas_f h q k a
  obtain ⟨-, s2, s3, s4, s5, s6, s7⟩ := h
  unfold zBuy
  rw [hT, s2 20 (by omega) (by omega) (by omega) (by omega), s2 21 (by omega) (by omega) (by omega) (by omega), s3, s4, s5, s6, s7]
theorem yL_k {w : Nat} {len told : Int32} {steps : Nat → Int32} {many : Int32} {text : Nat → Int32} (h : yRL1 w len told steps many text) (ht : ¬ told = 0) : ∃ k, k ≤ 121 ∧ len = nI k := by
  rcases h with ⟨h1, -⟩ | ⟨-, n, k, -, -, hk, h2, -⟩
  · exact absurd h1 ht
  · exact ⟨k, hk, h2⟩
/-- the class's state after a look -/
def zLk (s : zSt) (q h a t : Int32) : zSt := zw (zw (zw (zw s 23 3 a) 23 4 h) 23 5 t) 23 8 q
theorem g_look (q h a t : Int32) (s : zSt) : f_ls_look q h a t s = some (zLk s q h a t) := by
  unfold f_ls_look
  rw [show zst s 23 9 3 a = some (zw s 23 3 a) from zst_at (j := 3) (by omega) (by omega), Option.bind_some, show zst (zw s 23 3 a) 23 9 4 h = some (zw (zw s 23 3 a) 23 4 h) from zst_at (j := 4) (by omega) (by omega), Option.bind_some, show zst (zw (zw s 23 3 a) 23 4 h) 23 9 5 t = some (zw (zw (zw s 23 3 a) 23 4 h) 23 5 t) from zst_at (j := 5) (by omega) (by omega), Option.bind_some, show zst (zw (zw (zw s 23 3 a) 23 4 h) 23 5 t) 23 9 8 q = some (zLk s q h a t) from zst_at (j := 8) (by omega) (by omega), Option.bind_some]
theorem zLk_f (s : zSt) (q h a t : Int32) : yGf s (zLk s q h a t) :=
  ⟨rfl, fun x h1 _ _ _ => by simp only [zLk, zw_1, if_neg h1], rfl, rfl, rfl, rfl, rfl⟩
theorem zLk_n (s : zSt) (q h a t : Int32) : ∀ j, j < 9 → (zLk s q h a t).1 23 j = nmOf (s.1 23 0) (s.1 23 1) (s.1 23 2) a h t (s.1 23 6) (s.1 23 7) q j :=
  nm_of ⟨rfl, rfl, rfl, rfl, rfl, rfl, rfl, rfl, rfl⟩
theorem g_tasteOf {s : zSt} (hk : ¬ s.1 17 3 = 0 → ∃ k, k ≤ 121 ∧ s.1 17 2 = nI k) (q h a : Int32) : ∃ s', f_ls_tasteOf q h a s = some (zTas s q h a, s') ∧ yGf s s' ∧ s'.1 24 = s.1 24 := by
  unfold f_ls_tasteOf zTas
  by_cases c : a < s.1 16 3
  · rw [if_pos c, if_pos c, g_look, Option.bind_some]
    have z0 : zld (zLk s q h a 0) 23 9 0 = some (s.1 23 0) := zld_at (j := 0) (by omega) (by omega)
    have z1 : zld (zLk s q h a 0) 23 9 1 = some (s.1 23 1) := zld_at (j := 1) (by omega) (by omega)
    have z2 : zld (zLk s q h a 0) 23 9 2 = some (s.1 23 2) := zld_at (j := 2) (by omega) (by omega)
    rw [z0, Option.bind_some, z1, Option.bind_some, z2, Option.bind_some]
    have e3 : (zLk s q h a 0).1 17 3 = s.1 17 3 := rfl
    rw [e3]
    by_cases d : s.1 17 3 = 0
    · rw [if_pos d, if_pos d, g_held, Option.bind_some]
      exact ⟨_, rfl, zLk_f s q h a 0, rfl⟩
    · obtain ⟨k, hk1, hk2⟩ := hk d
      obtain ⟨f', hw⟩ := p_worth (s := zLk s q h a 0) (o := 17) hk1 hk2 (by omega)
      rw [if_neg d, if_neg d, hw, Option.bind_some, g_held, Option.bind_some, vRun_cg (zLk_n s q h a 0), hk2, nI_clamp (by omega)]
      refine ⟨_, rfl, yGf_t (zLk_f s q h a 0) ⟨rfl, fun x _ h2 _ _ => ?_, ?_, ?_, ?_, ?_, ?_⟩, ?_⟩
      · exact zcO_n _ _ _ h2
      all_goals rfl
  · rw [if_neg c, if_neg c]
    exact ⟨s, rfl, ⟨rfl, fun _ _ _ _ _ => rfl, rfl, rfl, rfl, rfl, rfl⟩, rfl⟩
