/-! LAWS 1: the class's stack machine -/
/-- the stack cell holds the list, its top first -/
def zStk (f : Nat → Int32) : List Int32 → Prop
  | [] => True
  | x :: S => f S.length = x ∧ zStk f S
theorem zStk_up {f : Nat → Int32} {v : Int32} : ∀ (S : List Int32) (d : Nat), S.length ≤ d → zStk f S → zStk (upd f d v) S := by
  intro S
  induction S with
  | nil => intro d _ _; trivial
  | cons x S ih =>
    intro d hd h
    have hd' : S.length + 1 ≤ d := hd
    exact ⟨by rw [q_updN (by omega)]; exact h.1, ih d (by omega) h.2⟩
theorem zStk_push {f : Nat → Int32} {v : Int32} {S : List Int32} {d : Nat} (hd : S.length = d) (h : zStk f S) : zStk (upd f d v) (v :: S) :=
  ⟨by rw [hd, q_updS], zStk_up S d (by omega) h⟩
def zcO (s : zSt) (o : Nat) (f : Nat → Int32) : zSt := (fun a => if a = o + 2 then f else s.1 a, s.2)
theorem zcO_w (s : zSt) (o : Nat) (f : Nat → Int32) (j : Nat) (v : Int32) : zw (zcO s o f) (o + 2) j v = zcO s o (upd f j v) := by
  show (_, s.2) = (_, s.2)
  congr 1
  funext a
  by_cases h : a = o + 2
  · subst h
    show (if o + 2 = o + 2 then upd (if o + 2 = o + 2 then f else s.1 (o + 2)) j v else _) = if o + 2 = o + 2 then upd f j v else s.1 (o + 2)
    rw [if_pos rfl, if_pos rfl, if_pos rfl]
  · simp only [zw_1, zcO, if_neg h]
theorem zcO_0 (s : zSt) (o : Nat) : zcO s o (s.1 (o + 2)) = s := by
  have : (fun a => if a = o + 2 then s.1 (o + 2) else s.1 a) = s.1 := by
    funext a
    by_cases h : a = o + 2
    · subst h; rw [if_pos rfl]
    · rw [if_neg h]
  show (_, s.2) = s
  rw [this]
theorem zcO_n (s : zSt) (o : Nat) (f : Nat → Int32) {a : Nat} (h : a ≠ o + 2) : (zcO s o f).1 a = s.1 a := by
  show (if a = o + 2 then f else s.1 a) = s.1 a
  rw [if_neg h]
theorem zcO_s (s : zSt) (o : Nat) (f : Nat → Int32) : (zcO s o f).1 (o + 2) = f := by
  show (if o + 2 = o + 2 then f else s.1 (o + 2)) = f
  rw [if_pos rfl]
theorem p_joined (x a b : Int32) (s : zSt) : f_lw_joined x a b s = some (vBin x a b, s) := by
  have hor : (if a = 0 then (if b = 0 then some ((0 : Int32), s) else some (1, s)) else some (1, s)) = some ((if a = 0 then (if b = 0 then (0 : Int32) else 1) else 1), s) := by
    by_cases h1 : a = 0
    · rw [if_pos h1, if_pos h1]
      by_cases h2 : b = 0
      · rw [if_pos h2, if_pos h2]
      · rw [if_neg h2, if_neg h2]
    · rw [if_neg h1, if_neg h1]
  have no : ∀ k : Nat, (k < 37 ∨ 62 < k) → k < 2147483648 → (x = nI k → x.toInt < 37 ∨ 62 < x.toInt) := by
    intro k hk h2 e
    rw [e, q_nI h2]
    omega
  unfold f_lw_joined
  by_cases hr : x.toInt < 37 ∨ 62 < x.toInt
  · rw [if_pos hr, hor]
    have ne : ∀ k : Nat, 37 ≤ k → k ≤ 62 → ¬ x = nI k := by
      intro k h1 h2 e
      rw [e, q_nI (by omega)] at hr
      omega
    unfold vBin
    rw [if_neg (show ¬ x = (43 : Int32) from ne 43 (by omega) (by omega)), if_neg (show ¬ x = (45 : Int32) from ne 45 (by omega) (by omega)), if_neg (show ¬ x = (42 : Int32) from ne 42 (by omega) (by omega)), if_neg (show ¬ x = (47 : Int32) from ne 47 (by omega) (by omega)), if_neg (show ¬ x = (37 : Int32) from ne 37 (by omega) (by omega)), if_neg (show ¬ x = (60 : Int32) from ne 60 (by omega) (by omega)), if_neg (show ¬ x = (61 : Int32) from ne 61 (by omega) (by omega)), if_neg (show ¬ x = (62 : Int32) from ne 62 (by omega) (by omega)), if_neg (show ¬ x = (38 : Int32) from ne 38 (by omega) (by omega))]
  · rw [if_neg hr]
    obtain ⟨k, hk, rfl⟩ := q_ix (x := x) (n := 62) (by omega)
    rw [q_nI (by omega)] at hr
    have hk' : k = 37 ∨ k = 38 ∨ k = 39 ∨ k = 40 ∨ k = 41 ∨ k = 42 ∨ k = 43 ∨ k = 44 ∨ k = 45 ∨ k = 46 ∨ k = 47 ∨ k = 48 ∨ k = 49 ∨ k = 50 ∨ k = 51 ∨ k = 52 ∨ k = 53 ∨ k = 54 ∨ k = 55 ∨ k = 56 ∨ k = 57 ∨ k = 58 ∨ k = 59 ∨ k = 60 ∨ k = 61 ∨ k = 62 := by omega
    clear no hr hk
    rcases hk' with rfl | rfl | rfl | rfl | rfl | rfl | rfl | rfl | rfl | rfl | rfl | rfl | rfl | rfl | rfl | rfl | rfl | rfl | rfl | rfl | rfl | rfl | rfl | rfl | rfl | rfl
    · show (if b = 0 then some ((0 : Int32), s) else (zrv a b).bind fun x1 => some (x1, s)) = some ((if b = 0 then 0 else zrem a b), s)
      by_cases h : b = 0
      · rw [if_pos h, if_pos h]
      · unfold zrv; rw [if_neg h, if_neg h, if_neg h]; rfl
    · show (if a = 0 then some ((0 : Int32), s) else if b = 0 then some (0, s) else some (1, s)) = some ((if a = 0 then 0 else if b = 0 then 0 else 1), s)
      by_cases h : a = 0
      · rw [if_pos h, if_pos h]
      · rw [if_neg h, if_neg h]
        by_cases h2 : b = 0
        · rw [if_pos h2, if_pos h2]
        · rw [if_neg h2, if_neg h2]
    · exact hor
    · exact hor
    · exact hor
    · rfl
    · rfl
    · exact hor
    · rfl
    · exact hor
    · show (if b = 0 then some ((0 : Int32), s) else (zdv a b).bind fun x1 => some (x1, s)) = some ((if b = 0 then 0 else a / b), s)
      by_cases h : b = 0
      · rw [if_pos h, if_pos h]
      · unfold zdv; rw [if_neg h, if_neg h, if_neg h]; rfl
    · exact hor
    · exact hor
    · exact hor
    · exact hor
    · exact hor
    · exact hor
    · exact hor
    · exact hor
    · exact hor
    · exact hor
    · exact hor
    · exact hor
    · show (if b ≤ a then some ((0 : Int32), s) else some (1, s)) = some ((if a < b then 1 else 0), s)
      by_cases h : b ≤ a
      · rw [if_pos h, if_neg (by rw [q_lt]; rw [q_le] at h; omega)]
      · rw [if_neg h, if_pos (by rw [q_lt]; rw [q_le] at h; omega)]
    · show (if a = b then some ((1 : Int32), s) else some (0, s)) = some ((if a = b then 1 else 0), s)
      by_cases h : a = b
      · rw [if_pos h, if_pos h]
      · rw [if_neg h, if_neg h]
    · show (if a ≤ b then some ((0 : Int32), s) else some (1, s)) = some ((if b < a then 1 else 0), s)
      by_cases h : a ≤ b
      · rw [if_pos h, if_neg (by rw [q_lt]; rw [q_le] at h; omega)]
      · rw [if_neg h, if_pos (by rw [q_lt]; rw [q_le] at h; omega)]
