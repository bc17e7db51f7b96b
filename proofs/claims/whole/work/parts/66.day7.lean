/-! DAYS 7: day, the copying of what is told -/
def zc14 (t : zSt) (i : Nat) : zSt := (fun a => if a = 14 then (fun k => if k < i then t.1 12 k else t.1 14 k) else t.1 a, t.2)
theorem zc14_0 (t : zSt) : zc14 t 0 = t := by
  have : (fun a => if a = 14 then (fun k => if k < 0 then t.1 12 k else t.1 14 k) else t.1 a) = t.1 := by
    funext a
    by_cases h : a = 14
    · subst h
      funext k
      rw [if_pos rfl, if_neg (by omega)]
    · rw [if_neg h]
  show (_, t.2) = t
  rw [this]
theorem zc14_s (t : zSt) (i : Nat) : zw (zc14 t i) 14 i (t.1 12 i) = zc14 t (i + 1) := by
  show (_, t.2) = (_, t.2)
  congr 1
  funext a
  by_cases h : a = 14
  · subst h
    funext k
    show upd (fun k => if k < i then t.1 12 k else t.1 14 k) i (t.1 12 i) k = if k < i + 1 then t.1 12 k else t.1 14 k
    by_cases e : k = i
    · subst e; rw [q_updS, if_pos (by omega)]
    · rw [q_updN e]
      by_cases e2 : k < i
      · rw [if_pos e2, if_pos (by omega)]
      · rw [if_neg e2, if_neg (by omega)]
  · simp only [zc14, if_neg h]
theorem told_copy (t : zSt) (r : Int32) : ∀ (m i F : Nat), i + m = 32 → m < F → f_m_day_119 F r (nI i) (zc14 t i) = some (r, zc14 t 32) := by
  intro m
  induction m with
  | zero =>
    intro i F hi hF
    obtain ⟨F, rfl⟩ : ∃ x, F = x + 1 := ⟨F - 1, by omega⟩
    have e : i = 32 := by omega
    subst e
    unfold f_m_day_119
    rw [if_pos (by decide)]
  | succ m ih =>
    intro i F hi hF
    obtain ⟨F, rfl⟩ : ∃ x, F = x + 1 := ⟨F - 1, by omega⟩
    unfold f_m_day_119
    rw [if_neg (show ¬ (32 : Int32) ≤ nI i from nI_ge (b := 32) (by omega) (by omega)), zld_at (show i < 32 by omega) (by omega), Option.bind_some, zst_at (show i < 32 by omega) (by omega), Option.bind_some, show (zc14 t i).1 12 i = t.1 12 i from rfl, zc14_s, nI_1]
    exact ih (i + 1) F (by omega) (by omega)
/-- what the reference's table of the day told holds -/
def zTl (t : zSt) (r : Int32) : zSt :=
  let a := zw (zw t 0 27 1) 0 30 (t.1 1 3)
  let b := zw (zw a 13 0 r) 13 1 (r * t.1 1 3)
  let c := zw (zw (zw (zw b 13 2 (t.1 0 25)) 13 3 (t.1 0 26)) 13 4 (t.1 0 22)) 13 5 (t.1 0 24)
  let d := zw c 13 6 (t.1 0 24 * (3 * t.1 1 0 + t.1 1 1))
  zw d 13 7 (r * t.1 1 3 - t.1 0 24 * (3 * t.1 1 0 + t.1 1 1))
theorem m_day {seed r : Int32} {t t2 : zSt} (h : f_m_dayGoes seed t = some (r, t2)) : f_m_day seed t = some (r, zc14 (zTl t2 r) 32) := by
  have L3 : ∀ (x : zSt), zld x 1 8 3 = some (x.1 1 3) := fun x => zld_at (j := 3) (by omega) (by omega)
  have D : ∀ (x : zSt) (j : Nat), j < 8 → zld x 13 8 (nI j) = some (x.1 13 j) := fun x j hj => zld_at hj (by omega)
  have S : ∀ (x : zSt) (j : Nat) (v : Int32), j < 8 → zst x 13 8 (nI j) v = some (zw x 13 j v) := fun x j v hj => zst_at hj (by omega)
  have S0 : ∀ (x : zSt) (v : Int32), zst x 13 8 0 v = some (zw x 13 0 v) := fun x v => S x 0 v (by omega)
  have S1 : ∀ (x : zSt) (v : Int32), zst x 13 8 1 v = some (zw x 13 1 v) := fun x v => S x 1 v (by omega)
  have S2 : ∀ (x : zSt) (v : Int32), zst x 13 8 2 v = some (zw x 13 2 v) := fun x v => S x 2 v (by omega)
  have S3 : ∀ (x : zSt) (v : Int32), zst x 13 8 3 v = some (zw x 13 3 v) := fun x v => S x 3 v (by omega)
  have S4 : ∀ (x : zSt) (v : Int32), zst x 13 8 4 v = some (zw x 13 4 v) := fun x v => S x 4 v (by omega)
  have S5 : ∀ (x : zSt) (v : Int32), zst x 13 8 5 v = some (zw x 13 5 v) := fun x v => S x 5 v (by omega)
  have S6 : ∀ (x : zSt) (v : Int32), zst x 13 8 6 v = some (zw x 13 6 v) := fun x v => S x 6 v (by omega)
  have S7 : ∀ (x : zSt) (v : Int32), zst x 13 8 7 v = some (zw x 13 7 v) := fun x v => S x 7 v (by omega)
  have D1 : ∀ (x : zSt), zld x 13 8 1 = some (x.1 13 1) := fun x => D x 1 (by omega)
  have D6 : ∀ (x : zSt), zld x 13 8 6 = some (x.1 13 6) := fun x => D x 6 (by omega)
  unfold f_m_day
  rw [h, Option.bind_some, L3, Option.bind_some, S0, Option.bind_some, S1, Option.bind_some, S2, Option.bind_some, S3, Option.bind_some, S4, Option.bind_some, S5, Option.bind_some, p_mJug, Option.bind_some, S6, Option.bind_some, D1, Option.bind_some, D6, Option.bind_some, S7, Option.bind_some]
  have hc := told_copy (zTl t2 r) r 32 0 zFu (by omega) (by have := zFu_big; omega)
  rw [zc14_0, show nI 0 = (0 : Int32) from rfl] at hc
  rw [← hc]
  generalize zFu = F
  rfl
