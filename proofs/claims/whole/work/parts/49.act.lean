/-! OPS 19: act -/
/-- during an act: the own glass is w of kind c0, b acts are begun -/
def yAc (c0 b : Nat) (s t : zSt) : Prop := yR s t ∧ s.1 36 3 = nI b ∧ t.1 0 44 = nI b ∧ (∃ w, w < 50 ∧ s.1 36 4 = nI w ∧ t.1 0 46 = nI w ∧ s.1 37 w = nI c0) ∧ t.1 0 45 = nI c0
theorem note_rel {c0 b : Nat} {s t : zSt} (h : yAc c0 b s t) (hb : b < 1000) (v : Int32) : ∃ s' t', f_gl_note v s = some s' ∧ f_m_begins v t = some t' ∧ yAc c0 (b + 1) s' t' := by
  obtain ⟨⟨h1, h2, h3, h4, h5, h6, h7, h8, h9, ⟨g1, b', gb, gb1, gb2, gb3⟩, h11⟩, e1, e2, ⟨w, hw, e3, e4, e5⟩, e6⟩ := h
  have hbb : b' = b := (nI_eq (by omega) (by omega)).mp (gb1.symm.trans e1)
  subst hbb
  unfold f_gl_note f_m_begins
  rw [e1, e2]
  by_cases hc : 24 ≤ b'
  · rw [if_pos (show (24 : Int32) ≤ nI b' from nI_le (a := 24) hc (by omega)), if_pos (show (24 : Int32) ≤ nI b' from nI_le (a := 24) hc (by omega)), nI_1]
    refine ⟨_, _, rfl, rfl, ⟨h1, h2, h3, h4, h5, h6, h7, h8, h9, ⟨g1, b' + 1, by omega, rfl, rfl, fun j hj hj2 => gb3 j (by omega) hj2⟩, h11⟩, rfl, rfl, ⟨w, hw, e3, e4, e5⟩, e6⟩
  · rw [if_neg (show ¬ (24 : Int32) ≤ nI b' from nI_ge (b := 24) (by omega) (by omega)), if_neg (show ¬ (24 : Int32) ≤ nI b' from nI_ge (b := 24) (by omega) (by omega)), zst_at (show b' < 24 by omega) (by omega), zst_at (show b' < 24 by omega) (by omega), Option.bind_some, Option.bind_some]
    have x1 : (zw s 38 b' v).1 36 3 + 1 = nI (b' + 1) := by
      rw [← nI_1, ← e1]; rfl
    have x2 : (zw t 25 b' v).1 0 44 + 1 = nI (b' + 1) := by
      rw [← nI_1, ← e2]; rfl
    rw [x1, x2]
    refine ⟨_, _, rfl, rfl, ⟨h1, h2, h3, h4, h5, h6, h7, h8, h9, ⟨g1, b' + 1, by omega, rfl, rfl, fun j hj hj2 => ?_⟩, h11⟩, rfl, rfl, ⟨w, hw, e3, e4, e5⟩, e6⟩
    show upd (s.1 38) b' v j = upd (t.1 25) b' v j
    by_cases ej : j = b'
    · subst ej; rw [q_updS, q_updS]
    · rw [q_updN ej, q_updN ej]; exact gb3 j (by omega) hj2
def yAr (c0 k : Nat) (f g : Int32 → zSt → Option (Int32 × zSt)) : Prop := ∀ (x : Int32) (s t : zSt) (b : Nat), yAc c0 b s t → b + k ≤ 1000 → ∃ (r : Int32) (s' t' : zSt) (b' : Nat), b' ≤ b + k ∧ f x s = some (r, s') ∧ g x t = some (r, t') ∧ yAc c0 b' s' t'
theorem yAr_le {c0 k k' : Nat} {f g : Int32 → zSt → Option (Int32 × zSt)} (h : yAr c0 k f g) (hk : k ≤ k') : yAr c0 k' f g := by
  intro x s t b ha hb
  obtain ⟨r, s', t', b', h1, h2⟩ := h x s t b ha (by omega)
  exact ⟨r, s', t', b', by omega, h2⟩
def kb : Nat → Nat → Nat
  | 0, _ => 0
  | 1, 0 => 1
  | 1, _ => 0
  | 2, 1 => 2
  | 2, _ => 0
  | 3, 0 => 0
  | 3, 3 => 0
  | 3, _ => 3
  | 4, 0 => 1
  | 4, 2 => 4
  | 4, _ => 0
  | 5, 0 => 0
  | 5, 3 => 5
  | 5, _ => 3
  | 6, 0 => 6
  | 6, _ => 0
  | _, 0 => 1
  | _, 2 => 4
  | _, _ => 7
theorem kwb (s : zSt) : ∀ c a : Nat, c < 8 → a < 4 → f_gl_kindWithBody (nI c) (nI a) s = some (nI (kb c a), s) := by
  intro c a hc ha
  obtain ⟨x, hx⟩ : ∃ x, zFu = x + 10 := ⟨zFu - 10, by have := zFu_big; omega⟩
  have hc' : c = 0 ∨ c = 1 ∨ c = 2 ∨ c = 3 ∨ c = 4 ∨ c = 5 ∨ c = 6 ∨ c = 7 := by omega
  have ha' : a = 0 ∨ a = 1 ∨ a = 2 ∨ a = 3 := by omega
  unfold f_gl_kindWithBody
  rw [hx]
  rcases hc' with rfl | rfl | rfl | rfl | rfl | rfl | rfl | rfl <;> rcases ha' with rfl | rfl | rfl | rfl <;> rfl
/-- the acts' bodies, as the class runs them -/
def zAb (v : Int32) (K : Int32 → Int32 → Int32 → Int32 → zSt → Option (Int32 × zSt)) (x own ab d : Int32) (s : zSt) : Option (Int32 × zSt) :=
  if v = 1 then some (x + s.1 36 4, s)
  else if v = 2 then (K own 1 x d s).bind fun x6 => (K own 2 1 d x6.2).bind fun x7 => some (x6.1 - x7.1, x7.2)
  else if v = 10 then (K own 0 x d s).bind fun x8 => some (x8.1 * 2, x8.2)
  else if v = 11 then some (x ^^^ s.1 36 4, s)
  else if v = 20 then (K ab 0 x d s).bind fun x9 => some (x9.1 + 3, x9.2)
  else if v = 30 then (K ab 1 x d s).bind fun x10 => some (-x10.1, x10.2)
  else if v = 40 then (K ab 2 x d s).bind fun x11 => some (x11.1 * 3, x11.2)
  else if v = 41 then (K ab 1 (x + 1) d s).bind fun x12 => some (x12.1, x12.2)
  else if v = 50 then (K ab 2 x d s).bind fun x13 => (K own 0 2 d x13.2).bind fun x14 => some (x13.1 - x14.1, x14.2)
  else if v = 60 then (K ab 3 x d s).bind fun x15 => some (x15.1 ^^^ 5, x15.2)
  else if v = 70 then (K ab 0 x d s).bind fun x16 => some (x16.1 * 2, x16.2)
  else if v = 80 then (K ab 1 x d s).bind fun x17 => (K own 2 2 d x17.2).bind fun x18 => some (x17.1 + x18.1, x18.2)
  else if v = 81 then (K ab 3 x d s).bind fun x19 => some (x19.1 - 1, x19.2)
  else none
theorem gl_step {c a d F c0 w : Nat} (hc : c < 8) (ha : a < 4) (hd : d ≤ 40) {v ab : Int32} (ev : zlt [1, 10, 11, 2, 20, 0, 0, 0, 0, 30, 0, 0, 0, 41, 40, 0, 0, 0, 50, 0, 0, 0, 0, 60, 70, 0, 0, 0, 0, 80, 0, 81] (nI (kb c a) * 4 + nI a) = some v) (eb : zlt [-1, 0, 0, 2, 1, 3, 0, 4] (nI (kb c a)) = some ab) (x : Int32) {s : zSt} (hw : w < 50) (e3 : s.1 36 4 = nI w) (e5 : s.1 37 w = nI c0) :
    F_gl (F + 1) (nI c) (nI a) x (nI d) s = (f_gl_note v s).bind fun x5 => zAb v (F_gl F) x (nI c0) ab (nI (d + 1)) x5 := by
  show b_gl_run (F_gl F) (nI c) (nI a) x (nI d) s = _
  unfold b_gl_run
  rw [if_pos (show nI d ≤ (40 : Int32) from nI_le (b := 40) hd (by omega)), kwb s c a hc ha, Option.bind_some]
  dsimp only
  rw [e3, zld_at hw (by omega), Option.bind_some, e5, eb, Option.bind_some, ev, Option.bind_some, nI_1]
  rfl
