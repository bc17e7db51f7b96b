/-! OPS 2: recipe (mend, undo, redo), image, bodies, trace, count -/
def zOk (a b : Int32) : Prop := ∃ w : Nat, w < 8 ∧ a = nI w ∧ zrg w b
theorem zOk_at {w : Nat} (hw : w < 8) (b : Int32) : zOk (nI w) b ↔ zrg w b := by
  constructor
  · rintro ⟨v, hv, e, h⟩
    have := (nI_eq (a := w) (b := v) (by omega) (by omega)).mp e
    rw [this]; exact h
  · intro h; exact ⟨w, hw, rfl, h⟩
theorem zOk_out {a b : Int32} (h : ¬ (0 ≤ a.toInt ∧ a.toInt ≤ 7)) : ¬ zOk a b := by
  rintro ⟨w, hw, rfl, -⟩
  rw [q_nI (by omega)] at h
  omega
theorem p_allows (a b : Int32) (s : zSt) : (zOk a b → f_rc_allows a b s = some (1, s)) ∧ (¬ zOk a b → f_rc_allows a b s = some (0, s)) := by
  by_cases ha : 0 ≤ a.toInt ∧ a.toInt ≤ 7
  · obtain ⟨w, hw, rfl⟩ := q_ix (x := a) (n := 7) ha
    rw [zOk_at (by omega)]
    have e0 : (0 : Int32).toInt = 0 := rfl
    have e7 : (7 : Int32).toInt = 7 := rfl
    simp only [f_rc_allows, p_isWithin, Option.bind_some, q01_0, e0, e7, ha, not_true, if_false, and_self, if_neg, not_false_eq_true]
    rw [zlt_at (by show w < 8; omega) (by decide), zlt_at (by show w < 8; omega) (by decide)]
    simp only [Option.bind_some, q01_0]
    rcases (show w = 0 ∨ w = 1 ∨ w = 2 ∨ w = 3 ∨ w = 4 ∨ w = 5 ∨ w = 6 ∨ w = 7 by omega) with rfl | rfl | rfl | rfl | rfl | rfl | rfl | rfl <;>
    exact ⟨fun h => if_neg (fun z => z h), fun h => if_pos h⟩
  · refine ⟨fun h => absurd h (zOk_out ha), fun _ => ?_⟩
    simp [f_rc_allows, p_isWithin, q01_0, ha]
theorem q_ne {a b : Nat} (ha : a < 2147483648) (hb : b < 2147483648) (h : a ≠ b) : ¬ nI a = nI b := fun e => h ((nI_eq ha hb).mp e)
theorem p_mayBe (a b : Int32) (s : zSt) : (zOk a b → f_m_mayBe a b s = some (1, s)) ∧ (¬ zOk a b → f_m_mayBe a b s = some (0, s)) := by
  by_cases ha : 0 ≤ a.toInt ∧ a.toInt ≤ 7
  · obtain ⟨w, hw, rfl⟩ := q_ix (x := a) (n := 7) ha
    rw [zOk_at (by omega)]
    have hn : ¬ ((nI w).toInt < 0 ∨ 7 < (nI w).toInt) := by omega
    unfold f_m_mayBe
    rw [if_neg hn]
    rcases (show w = 0 ∨ w = 1 ∨ w = 2 ∨ w = 3 ∨ w = 4 ∨ w = 5 ∨ w = 6 ∨ w = 7 by omega) with rfl | rfl | rfl | rfl | rfl | rfl | rfl | rfl
    · rw [if_pos (show nI 0 = (0 : Int32) from rfl)]; simp only [p_within, Option.bind_some, q01_bo, Int32.toInt_toInt64]
      exact ⟨fun h => congrArg (fun z => some (z, s)) (q01_t h), fun h => congrArg (fun z => some (z, s)) (q01_f h)⟩
    · rw [if_neg (by decide), if_pos (show nI 1 = (1 : Int32) from rfl)]; simp only [p_within, Option.bind_some, q01_bo, Int32.toInt_toInt64]
      exact ⟨fun h => congrArg (fun z => some (z, s)) (q01_t h), fun h => congrArg (fun z => some (z, s)) (q01_f h)⟩
    · rw [if_neg (by decide), if_neg (by decide), if_pos (show nI 2 = (2 : Int32) from rfl)]; simp only [p_within, Option.bind_some, q01_bo, Int32.toInt_toInt64]
      exact ⟨fun h => congrArg (fun z => some (z, s)) (q01_t h), fun h => congrArg (fun z => some (z, s)) (q01_f h)⟩
    · rw [if_neg (by decide), if_neg (by decide), if_neg (by decide), if_pos (show nI 3 = (3 : Int32) from rfl)]; simp only [p_within, Option.bind_some, q01_bo, Int32.toInt_toInt64]
      exact ⟨fun h => congrArg (fun z => some (z, s)) (q01_t h), fun h => congrArg (fun z => some (z, s)) (q01_f h)⟩
    · rw [if_neg (by decide), if_neg (by decide), if_neg (by decide), if_neg (by decide), if_pos (show nI 4 = (4 : Int32) from rfl)]; simp only [p_within, Option.bind_some, q01_bo, Int32.toInt_toInt64]
      exact ⟨fun h => congrArg (fun z => some (z, s)) (q01_t h), fun h => congrArg (fun z => some (z, s)) (q01_f h)⟩
    · rw [if_neg (by decide), if_neg (by decide), if_neg (by decide), if_neg (by decide), if_neg (by decide), if_pos (show nI 5 = (5 : Int32) from rfl)]; simp only [p_within, Option.bind_some, q01_bo, Int32.toInt_toInt64]
      exact ⟨fun h => congrArg (fun z => some (z, s)) (q01_t h), fun h => congrArg (fun z => some (z, s)) (q01_f h)⟩
    · rw [if_neg (by decide), if_neg (by decide), if_neg (by decide), if_neg (by decide), if_neg (by decide), if_neg (by decide), if_pos (show nI 6 = (6 : Int32) from rfl)]; simp only [p_within, Option.bind_some, q01_bo, Int32.toInt_toInt64]
      exact ⟨fun h => congrArg (fun z => some (z, s)) (q01_t h), fun h => congrArg (fun z => some (z, s)) (q01_f h)⟩
    · rw [if_neg (by decide), if_neg (by decide), if_neg (by decide), if_neg (by decide), if_neg (by decide), if_neg (by decide), if_neg (by decide), if_pos (show nI 7 = (7 : Int32) from rfl)]; simp only [p_within, Option.bind_some, q01_bo, Int32.toInt_toInt64]
      exact ⟨fun h => congrArg (fun z => some (z, s)) (q01_t h), fun h => congrArg (fun z => some (z, s)) (q01_f h)⟩
  · refine ⟨fun h => absurd h (zOk_out ha), fun _ => ?_⟩
    unfold f_m_mayBe
    rw [if_pos (by omega)]
/-- the rows of changes, each by one place to the front, from k on -/
def zsh1 (f : Nat → Int32) (k : Nat) : Nat → Int32 := fun j => if j + 1 < k ∧ j < 39 then f (j + 1) else f j
def zshM (t : zSt) (k : Nat) : zSt := (fun a => if a = 2 then zsh1 (t.1 2) k else if a = 3 then zsh1 (t.1 3) k else if a = 4 then zsh1 (t.1 4) k else t.1 a, t.2)
theorem zsh1_s (f : Nat → Int32) {k : Nat} (hk : 1 ≤ k) (hk2 : k < 40) : upd (zsh1 f k) (k - 1) (f k) = zsh1 f (k + 1) := by
  funext j
  by_cases e : j = k - 1
  · subst e
    rw [q_updS]
    show f k = if k - 1 + 1 < k + 1 ∧ k - 1 < 39 then f (k - 1 + 1) else f (k - 1)
    rw [if_pos (by omega)]
    congr 1; omega
  · rw [q_updN e]
    show (if j + 1 < k ∧ j < 39 then f (j + 1) else f j) = if j + 1 < k + 1 ∧ j < 39 then f (j + 1) else f j
    by_cases h : j + 1 < k ∧ j < 39
    · rw [if_pos h, if_pos (by omega)]
    · rw [if_neg h, if_neg (by omega)]
theorem zsh1_k (f : Nat → Int32) (k : Nat) : zsh1 f k k = f k := by
  show (if k + 1 < k ∧ k < 39 then f (k + 1) else f k) = f k
  rw [if_neg (by omega)]
theorem becomes_loop (v1 v2 v3 : Int32) (t : zSt) : ∀ (m k n : Nat), k + m = 40 → 1 ≤ k → m < n → f_m_becomes_26 n v1 v2 v3 (nI k) (zshM t k) = f_m_becomes_97 v1 v2 v3 (zw (zshM t 40) 0 5 ((zshM t 40).1 0 5 - 1)) := by
  intro m
  induction m with
  | zero =>
    intro k n hk h1 hn
    obtain ⟨n, rfl⟩ : ∃ i, n = i + 1 := ⟨n - 1, by omega⟩
    have e : k = 40 := by omega
    subst e
    unfold f_m_becomes_26
    rw [if_pos (by decide)]
  | succ m ih =>
    intro k n hk h1 hn
    obtain ⟨n, rfl⟩ : ∃ i, n = i + 1 := ⟨n - 1, by omega⟩
    have hc : ¬ (40 : Int32) ≤ nI k := nI_ge (b := 40) (by omega) (by omega)
    have e1 : nI k - 1 = nI (k - 1) := pk_sub (a := k) (b := 1) h1
    have hst : zw (zw (zw (zshM t k) 2 (k - 1) (t.1 2 k)) 3 (k - 1) (t.1 3 k)) 4 (k - 1) (t.1 4 k) = zshM t (k + 1) := by
      show (_, _) = (_, _)
      congr 1
      funext a
      by_cases a2 : a = 2
      · subst a2; exact zsh1_s _ h1 (by omega)
      · by_cases a3 : a = 3
        · subst a3; exact zsh1_s _ h1 (by omega)
        · by_cases a4 : a = 4
          · subst a4; exact zsh1_s _ h1 (by omega)
          · simp only [zw_1, zshM, a2, a3, a4, if_false]
    unfold f_m_becomes_26
    rw [if_neg hc, zld_at (show k < 40 by omega) (by omega)]
    simp only [Option.bind_some, e1]
    rw [zst_at (show k - 1 < 40 by omega) (by omega)]
    simp only [Option.bind_some]
    rw [zld_at (show k < 40 by omega) (by omega)]
    simp only [Option.bind_some]
    rw [zst_at (show k - 1 < 40 by omega) (by omega)]
    simp only [Option.bind_some]
    rw [zld_at (show k < 40 by omega) (by omega)]
    simp only [Option.bind_some]
    rw [zst_at (show k - 1 < 40 by omega) (by omega)]
    simp only [Option.bind_some, nI_1]
    have w2 : (zshM t k).1 2 k = t.1 2 k := zsh1_k _ _
    have w3 : (zw (zshM t k) 2 (k - 1) ((zshM t k).1 2 k)).1 3 k = t.1 3 k := zsh1_k _ _
    have w4 : (zw (zw (zshM t k) 2 (k - 1) ((zshM t k).1 2 k)) 3 (k - 1) ((zw (zshM t k) 2 (k - 1) ((zshM t k).1 2 k)).1 3 k)).1 4 k = t.1 4 k := zsh1_k _ _
    rw [w4, w3, w2, hst]
    exact ih (k + 1) n (by omega) (by omega) (by omega)
theorem zshM_1 (t : zSt) : zshM t 1 = t := by
  show (_, t.2) = t
  have h : ∀ f : Nat → Int32, zsh1 f 1 = f := fun f => by
    funext j
    show (if j + 1 < 1 ∧ j < 39 then f (j + 1) else f j) = f j
    rw [if_neg (by omega)]
  simp only [h]
  have : (fun a => if a = 2 then t.1 2 else if a = 3 then t.1 3 else if a = 4 then t.1 4 else t.1 a) = t.1 := by
    funext a
    by_cases a2 : a = 2
    · subst a2; simp
    · by_cases a3 : a = 3
      · subst a3; simp
      · by_cases a4 : a = 4
        · subst a4; simp
        · simp [a2, a3, a4]
  rw [this]
theorem zcp_lit (s : zSt) (k0 n0 k1 n1 : Nat) (sp dp n : Int32) (h : ¬ sp < 0 ∧ ¬ dp < 0 ∧ ¬ n < 0 ∧ sp.toNatClampNeg + n.toNatClampNeg ≤ n0 ∧ dp.toNatClampNeg + n.toNatClampNeg ≤ n1) : zcp s k0 n0 k1 n1 sp dp n = some (zcps s k0 k1 sp.toNatClampNeg dp.toNatClampNeg n.toNatClampNeg) := if_pos h
theorem forget_at (s : zSt) : f_rc_forgetOldest s = some (zw (zcps (zcps (zcps s 3 3 1 0 39) 4 4 1 0 39) 5 5 1 0 39) 1 4 (s.1 1 4 - 1)) := by
  unfold f_rc_forgetOldest
  rw [zcp_lit _ _ _ _ _ _ _ _ (by decide)]
  simp only [Option.bind_some]
  rw [zcp_lit _ _ _ _ _ _ _ _ (by decide)]
  simp only [Option.bind_some]
  rw [zcp_lit _ _ _ _ _ _ _ _ (by decide)]
  rfl
theorem cpy_shift (f : Nat → Int32) {j : Nat} (hj : j < 39) : va_cpy f f 1 0 39 j = f (j + 1) := by
  show (if 0 ≤ j ∧ j < 0 + 39 then f (1 + (j - 0)) else f j) = f (j + 1)
  rw [if_pos (by omega)]; congr 1; omega
theorem zsh1_at (f : Nat → Int32) {j : Nat} (hj : j < 39) : zsh1 f 40 j = f (j + 1) := by
  show (if j + 1 < 40 ∧ j < 39 then f (j + 1) else f j) = f (j + 1)
  rw [if_pos (by omega)]
