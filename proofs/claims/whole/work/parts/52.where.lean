/-! OPS 22: where, the look ahead -/
def nx (i j : Nat) : Bool := i == 0 || j == 0 || i == j
def mx (g : Nat → Nat) (i : Nat) : Nat → Nat
  | 0 => 0
  | J + 1 => if nx i J = true then max (mx g i J) (g J) else mx g i J
def fwN (fl : Nat → Nat) (q j : Nat) : Nat := if j = 0 then 0 else fl (32 * (j - 1) + q)
def wW (fl : Nat → Nat) (P last : Nat) : Nat → Nat → Nat
  | 0, _ => 0
  | k + 1, i => mx (fun j => fwN fl (last - k) j + wW fl P last k j) i (P + 1)
theorem mx_le {g : Nat → Nat} {i B : Nat} : ∀ J, (∀ j, j < J → g j ≤ B) → mx g i J ≤ B := by
  intro J
  induction J with
  | zero => intro _; exact Nat.zero_le _
  | succ J ih =>
    intro h
    have h1 := ih (fun j hj => h j (by omega))
    have h2 := h J (by omega)
    unfold mx
    by_cases n : nx i J = true
    · rw [if_pos n]; exact Nat.max_le.mpr ⟨h1, h2⟩
    · rw [if_neg n]; exact h1
theorem mx_cg {g g' : Nat → Nat} {i : Nat} : ∀ J, (∀ j, j < J → g j = g' j) → mx g i J = mx g' i J := by
  intro J
  induction J with
  | zero => intro _; rfl
  | succ J ih =>
    intro h
    unfold mx
    rw [ih (fun j hj => h j (by omega)), h J (by omega)]
theorem fw_le {fl : Nat → Nat} (hf : ∀ j, j < 128 → fl j ≤ 9) {q j : Nat} (hq : q < 32) (hj : j ≤ 4) : fwN fl q j ≤ 9 := by
  unfold fwN
  by_cases h : j = 0
  · rw [if_pos h]; omega
  · rw [if_neg h]; exact hf _ (by omega)
theorem wW_le {fl : Nat → Nat} (hf : ∀ j, j < 128 → fl j ≤ 9) {P last : Nat} (hP : P ≤ 4) (hl : last < 32) : ∀ k i, wW fl P last k i ≤ 9 * k := by
  intro k
  induction k with
  | zero => intro i; exact Nat.le_refl _
  | succ k ih =>
    intro i
    show mx _ i (P + 1) ≤ _
    refine mx_le _ (fun j hj => ?_)
    have h1 := ih j
    have h2 := fw_le hf (show last - k < 32 by omega) (show j ≤ 4 by omega)
    show fwN fl (last - k) j + wW fl P last k j ≤ _
    omega
def zc12 (s : zSt) (f : Nat → Int32) : zSt := (fun a => if a = 12 then f else s.1 a, s.2)
def zc15 (s : zSt) (f : Nat → Int32) : zSt := (fun a => if a = 15 then f else s.1 a, s.2)
theorem zc12_0 (s : zSt) : zc12 s (s.1 12) = s := by
  have : (fun a => if a = 12 then s.1 12 else s.1 a) = s.1 := by
    funext a
    by_cases h : a = 12
    · subst h; rw [if_pos rfl]
    · rw [if_neg h]
  show (_, s.2) = s
  rw [this]
theorem zc15_0 (s : zSt) : zc15 s (s.1 15) = s := by
  have : (fun a => if a = 15 then s.1 15 else s.1 a) = s.1 := by
    funext a
    by_cases h : a = 15
    · subst h; rw [if_pos rfl]
    · rw [if_neg h]
  show (_, s.2) = s
  rw [this]
theorem zc12_w (s : zSt) (f : Nat → Int32) (j : Nat) (v : Int32) : zw (zc12 s f) 12 j v = zc12 s (upd f j v) := by
  show (_, s.2) = (_, s.2)
  congr 1
  funext a
  by_cases h : a = 12
  · subst h; rfl
  · simp only [zc12, if_neg h]
theorem zc15_w (s : zSt) (f : Nat → Int32) (j : Nat) (v : Int32) : zw (zc15 s f) 15 j v = zc15 s (upd f j v) := by
  show (_, s.2) = (_, s.2)
  congr 1
  funext a
  by_cases h : a = 15
  · subst h; rfl
  · simp only [zc15, if_neg h]
theorem q_ixp (a J : Nat) : nI a + (nI J - 1) + 1 = nI (a + J) := by
  rw [Int32.add_assoc, Int32.sub_add_cancel, nI_add]
theorem q_p1 (J : Nat) : (nI J - 1) + 1 = nI (J + 1) - 1 := by
  rw [Int32.sub_add_cancel, nI_pred]
theorem q_m1 (J : Nat) : (nI (J + 1) - 1) + (-1) = nI J - 1 := by
  rw [nI_pred, Int32.sub_eq_add_neg]
theorem q_m1I {J : Nat} (h : J < 1000) : (nI J - 1 : Int32).toInt = (J : Int) - 1 := pk_sub_toInt (a := J) (b := 1) (by omega) (by omega)
theorem q_maxN {a b : Nat} (ha : a < 2147483648) (hb : b < 2147483648) : zmax (nI a) (nI b) = nI (max a b) := by
  unfold zmax
  by_cases h : a < b
  · rw [if_pos (nI_lt h hb), Nat.max_eq_right (by omega)]
  · rw [if_neg (nI_nlt (by omega) ha), Nat.max_eq_left (by omega)]
theorem q_isN {i : Nat} (hi : i < 1000) : (nI i - 1 = (-1 : Int32)) ↔ i = 0 := by
  rw [q_eq, q_m1I hi]
  show ((i : Int) - 1 = -1) ↔ _
  omega
theorem p_next {i j : Nat} (hi : i < 1000) (hj : j < 1000) (s : zSt) : f_st_isNext (nI i - 1) (nI j - 1) s = some (q01 (nx i j = true), s) := by
  have e : (nI i - 1 = nI j - 1) ↔ i = j := by rw [q_eq, q_m1I hi, q_m1I hj]; omega
  unfold f_st_isNext
  by_cases h1 : i = 0
  · rw [if_pos ((q_isN hi).mpr h1), q01_t (by simp [nx, h1])]
  · rw [if_neg (fun z => h1 ((q_isN hi).mp z))]
    by_cases h2 : j = 0
    · rw [if_pos ((q_isN hj).mpr h2), q01_t (by simp [nx, h2])]
    · rw [if_neg (fun z => h2 ((q_isN hj).mp z))]
      by_cases h3 : i = j
      · rw [if_pos (e.mpr h3), q01_t (by simp [nx, h3])]
      · rw [if_neg (fun z => h3 (e.mp z)), q01_f (by simp [nx, h1, h2, h3])]
theorem p_follow {i j : Nat} (hi : i < 1000) (hj : j < 1000) (s : zSt) : f_m_mayFollow (nI i - 1) (nI j - 1) s = some (q01 (nx i j = true), s) := by
  have e : (nI i - 1 = nI j - 1) ↔ i = j := by rw [q_eq, q_m1I hi, q_m1I hj]; omega
  have n : ∀ {a : Nat}, a < 1000 → ((nI a - 1 < (0 : Int32)) ↔ a = 0) := by
    intro a ha
    rw [q_lt, q_m1I ha, l0]; omega
  unfold f_m_mayFollow
  by_cases h1 : i = 0
  · rw [if_pos ((n hi).mpr h1), q01_t (by simp [nx, h1])]
  · rw [if_neg (fun z => h1 ((n hi).mp z))]
    by_cases h2 : j = 0
    · rw [if_pos ((n hj).mpr h2), q01_t (by simp [nx, h2])]
    · rw [if_neg (fun z => h2 ((n hj).mp z))]
      by_cases h3 : i = j
      · rw [if_pos (e.mpr h3), q01_t (by simp [nx, h3])]
      · rw [if_neg (fun z => h3 (e.mp z)), q01_f (by simp [nx, h1, h2, h3])]
theorem q_pe {P J : Nat} (hP : P ≤ 4) (hJ : J ≤ P + 1) : (nI P ≤ nI J - 1) ↔ J = P + 1 := by
  rw [q_le, q_m1I (by omega), q_nI (by omega)]; omega
theorem mostG {s : zSt} {f : Nat → Int32} {g : Nat → Nat} {P q i : Nat} (hP : P ≤ 4) (hq : q < 32) (hi : i ≤ 4) (e : s.1 6 3 = nI P) (hf : ∀ j, j ≤ P → f (q * 5 + j) = nI (g j)) (hg : ∀ j, j ≤ P → g j ≤ 1000) : ∀ (m J F : Nat), J + m = P + 1 → m < F →
    f_st_mostFrom_5 F (nI i - 1) (nI q) (nI (mx g i J)) (nI J - 1) (zc12 s f) = some (nI (mx g i (P + 1)), zc12 s f) := by
  intro m
  induction m with
  | zero =>
    intro J F hJ hF
    obtain ⟨F, rfl⟩ : ∃ x, F = x + 1 := ⟨F - 1, by omega⟩
    have eJ : J = P + 1 := by omega
    subst eJ
    unfold f_st_mostFrom_5
    rw [show (zc12 s f).1 6 3 = nI P from e, if_pos ((q_pe hP (Nat.le_refl _)).mpr rfl)]
  | succ m ih =>
    intro J F hJ hF
    obtain ⟨F, rfl⟩ : ∃ x, F = x + 1 := ⟨F - 1, by omega⟩
    have hb : mx g i J ≤ 1000 := mx_le J (fun j hj => hg j (by omega))
    have hb2 := hg J (by omega)
    unfold f_st_mostFrom_5
    rw [show (zc12 s f).1 6 3 = nI P from e, if_neg (fun z => by have := (q_pe hP (by omega)).mp z; omega), p_next (by omega) (by omega), Option.bind_some]
    dsimp only
    by_cases n : nx i J = true
    · rw [q01_t n, if_neg q_neg10', show (5 : Int32) = nI 5 from rfl, pk_mul, q_ixp, zld_at (show q * 5 + J < 160 by omega) (by omega), Option.bind_some, show (zc12 s f).1 12 (q * 5 + J) = f (q * 5 + J) from rfl, hf J (by omega), q_maxN (by omega) (by omega), q_p1]
      have e2 : max (mx g i J) (g J) = mx g i (J + 1) := by
        show _ = if nx i J = true then max (mx g i J) (g J) else mx g i J
        rw [if_pos n]
      rw [e2]
      exact ih (J + 1) F (by omega) (by omega)
    · rw [q01_f n, if_pos rfl, q_p1]
      have e2 : mx g i J = mx g i (J + 1) := by
        show _ = if nx i J = true then max (mx g i J) (g J) else mx g i J
        rw [if_neg n]
      rw [e2]
      exact ih (J + 1) F (by omega) (by omega)
theorem p_most {s : zSt} {f : Nat → Int32} {g : Nat → Nat} {P q i : Nat} (hP : P ≤ 4) (hq : q < 32) (hi : i ≤ 4) (e : s.1 6 3 = nI P) (hf : ∀ j, j ≤ P → f (q * 5 + j) = nI (g j)) (hg : ∀ j, j ≤ P → g j ≤ 1000) :
    f_st_mostFrom (nI i - 1) (nI q) (zc12 s f) = some (nI (mx g i (P + 1)), zc12 s f) := by
  have := mostG hP hq hi e hf hg (P + 1) 0 zFu (by omega) (by have := zFu_big; omega)
  rw [show mx g i 0 = 0 from rfl, show nI 0 - 1 = (-1 : Int32) from by decide, show nI 0 = (0 : Int32) from rfl] at this
  exact this
