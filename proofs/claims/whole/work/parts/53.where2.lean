/-! OPS 23: where, both tables -/
def wA (fl : Nat → Nat) (P last k j : Nat) : Nat := fwN fl (last - k) j + wW fl P last k j
theorem wA_le {fl : Nat → Nat} (hf : ∀ j, j < 128 → fl j ≤ 9) {P last : Nat} (hP : P ≤ 4) (hl : last < 32) {k j : Nat} (hk : k ≤ 32) (hj : j ≤ 4) : wA fl P last k j ≤ 1000 := by
  have h1 := wW_le hf hP hl k j
  have h2 := fw_le hf (show last - k < 32 by omega) hj
  unfold wA
  omega
theorem wW_s (fl : Nat → Nat) (P last k i : Nat) : wW fl P last (k + 1) i = mx (wA fl P last k) i (P + 1) := rfl
theorem p_fl {s : zSt} {f : Nat → Int32} {fl : Nat → Nat} {P q J : Nat} (hP : P ≤ 4) (hq : q < 32) (hJ : J ≤ P) (e : s.1 6 3 = nI P) (hfl : ∀ j, j < 128 → s.1 9 j = nI (fl j)) :
    f_st_flowAt (nI J - 1) (nI q) (zc12 s f) = some (nI (fwN fl q J), zc12 s f) := by
  by_cases h : J = 0
  · subst h
    unfold f_st_flowAt
    rw [p_gPlace hP _ (zc12 s f) e, Option.bind_some, q01_f (by rw [q_m1I (by omega)]; omega), if_pos rfl]
    rfl
  · obtain ⟨j, rfl⟩ : ∃ j, J = j + 1 := ⟨J - 1, by omega⟩
    rw [nI_pred, p_flowAt hP (show (zc12 s f).1 6 3 = nI P from e) (by omega) hq]
    have : (zc12 s f).1 9 (32 * j + q) = nI (fwN fl q (j + 1)) := by
      show s.1 9 (32 * j + q) = _
      rw [hfl _ (by omega)]
      rfl
    rw [this]
theorem ahead_in {s : zSt} {fl : Nat → Nat} {P last k : Nat} (hP : P ≤ 4) (hl : last < 32) (hk : k ≤ last) (e : s.1 6 3 = nI P) (hfl : ∀ j, j < 128 → s.1 9 j = nI (fl j)) (hf9 : ∀ j, j < 128 → fl j ≤ 9) (K : Int32 → Int32 → Int32 → zSt → Option zSt) (v1 : Int32) : ∀ (m J F : Nat) (f : Nat → Int32), J + m = P + 1 → m < F →
    (∀ j, j < J → f ((last - k) * 5 + j) = nI (wA fl P last k j)) → (0 < k → ∀ j, j ≤ P → f ((last - (k - 1)) * 5 + j) = nI (wA fl P last (k - 1) j)) →
    ∃ f', f_st_lookAhead_10 K F v1 (nI last) (nI (last - k)) (nI J - 1) (zc12 s f) = K v1 (nI last) (nI (last - k) + (-1)) (zc12 s f') ∧ (∀ j, j ≤ P → f' ((last - k) * 5 + j) = nI (wA fl P last k j)) ∧ (∀ x, (last - k) * 5 + 5 ≤ x → f' x = f x) := by
  intro m
  induction m with
  | zero =>
    intro J F f hJ hF h1 h2
    obtain ⟨F, rfl⟩ : ∃ x, F = x + 1 := ⟨F - 1, by omega⟩
    have eJ : J = P + 1 := by omega
    subst eJ
    refine ⟨f, ?_, fun j hj => h1 j (by omega), fun x hx => rfl⟩
    unfold f_st_lookAhead_10
    rw [show (zc12 s f).1 6 3 = nI P from e, if_pos ((q_pe hP (Nat.le_refl _)).mpr rfl)]
  | succ m ih =>
    intro J F f hJ hF h1 h2
    obtain ⟨F, rfl⟩ : ∃ x, F = x + 1 := ⟨F - 1, by omega⟩
    have h37 : ∀ w : Nat, w = wW fl P last k J → f_st_lookAhead_37 K (f_st_lookAhead_10 K F) v1 (nI last) (nI (last - k)) (nI J - 1) (nI w) (zc12 s f) = f_st_lookAhead_10 K F v1 (nI last) (nI (last - k)) (nI (J + 1) - 1) (zc12 s (upd f ((last - k) * 5 + J) (nI (wA fl P last k J)))) := by
      intro w hw
      unfold f_st_lookAhead_37
      rw [p_fl hP (show last - k < 32 by omega) (show J ≤ P by omega) e hfl, Option.bind_some]
      dsimp only
      rw [show (5 : Int32) = nI 5 from rfl, pk_mul, q_ixp, nI_add, zst_at (show (last - k) * 5 + J < 160 by omega) (by omega), Option.bind_some, zc12_w, q_p1, hw]
      rfl
    have hstep : f_st_lookAhead_10 K (F + 1) v1 (nI last) (nI (last - k)) (nI J - 1) (zc12 s f) = f_st_lookAhead_10 K F v1 (nI last) (nI (last - k)) (nI (J + 1) - 1) (zc12 s (upd f ((last - k) * 5 + J) (nI (wA fl P last k J)))) := by
      conv => lhs; unfold f_st_lookAhead_10
      rw [show (zc12 s f).1 6 3 = nI P from e, if_neg (fun z => by have := (q_pe hP (by omega)).mp z; omega)]
      by_cases hk0 : k = 0
      · rw [if_pos (by rw [hk0]; rfl)]
        have := h37 0 (by rw [hk0]; rfl)
        rw [show nI 0 = (0 : Int32) from rfl] at this
        exact this
      · rw [if_neg (q_ne (by omega) (by omega) (by omega)), nI_1, show last - k + 1 = last - (k - 1) by omega, p_most (g := wA fl P last (k - 1)) hP (show last - (k - 1) < 32 by omega) (show J ≤ 4 by omega) e (h2 (by omega)) (fun j hj => wA_le hf9 hP hl (by omega) (by omega)), Option.bind_some]
        exact h37 _ (by rw [← wW_s]; rw [show k - 1 + 1 = k by omega])
    obtain ⟨f', i1, i2, i3⟩ := ih (J + 1) F (upd f ((last - k) * 5 + J) (nI (wA fl P last k J))) (by omega) (by omega) (fun j hj => by
      by_cases ej : j = J
      · subst ej; rw [q_updS]
      · rw [q_updN (by omega)]; exact h1 j (by omega)) (fun hk0 j hj => by rw [q_updN (by omega)]; exact h2 hk0 j hj)
    refine ⟨f', ?_, i2, fun x hx => by rw [i3 x hx, q_updN (by omega)]⟩
    rw [hstep]
    exact i1
theorem ahead_out {s : zSt} {fl : Nat → Nat} {P last first : Nat} (hP : P ≤ 4) (hl : last < 32) (hfi : first ≤ last) (e : s.1 6 3 = nI P) (hfl : ∀ j, j < 128 → s.1 9 j = nI (fl j)) (hf9 : ∀ j, j < 128 → fl j ≤ 9) : ∀ (m k F : Nat) (f : Nat → Int32), k + m = last + 1 - first → m < F →
    (∀ k', k' < k → ∀ j, j ≤ P → f ((last - k') * 5 + j) = nI (wA fl P last k' j)) →
    ∃ f', f_st_lookAhead_2 F (nI first) (nI last) (nI (last + 1 - k) - 1) (zc12 s f) = some (zc12 s f') ∧ (∀ k', k' < last + 1 - first → ∀ j, j ≤ P → f' ((last - k') * 5 + j) = nI (wA fl P last k' j)) := by
  intro m
  induction m with
  | zero =>
    intro k F f hk hF h1
    obtain ⟨F, rfl⟩ : ∃ x, F = x + 1 := ⟨F - 1, by omega⟩
    refine ⟨f, ?_, fun k' hk' => h1 k' (by omega)⟩
    unfold f_st_lookAhead_2
    rw [if_pos (by rw [q_lt, q_m1I (by omega), q_nI (by omega)]; omega)]
  | succ m ih =>
    intro k F f hk hF h1
    obtain ⟨F, rfl⟩ : ∃ x, F = x + 1 := ⟨F - 1, by omega⟩
    have er : nI (last + 1 - k) - 1 = nI (last - k) := by
      rw [show last + 1 - k = last - k + 1 by omega, nI_pred]
    obtain ⟨f1, i1, i2, i3⟩ := ahead_in hP hl (show k ≤ last by omega) e hfl hf9 (f_st_lookAhead_2 F) (nI first) (P + 1) 0 zFu f (by omega) (by have := zFu_big; omega) (fun j hj => absurd hj (by omega)) (fun hk0 j hj => h1 (k - 1) (by omega) j hj)
    obtain ⟨f2, j1, j2⟩ := ih (k + 1) F f1 (by omega) (by omega) (fun k' hk' j hj => by
      by_cases ek : k' = k
      · subst ek; exact i2 j hj
      · rw [i3 _ (by omega)]; exact h1 k' (by omega) j hj)
    refine ⟨f2, ?_, j2⟩
    unfold f_st_lookAhead_2
    rw [if_neg (by rw [q_lt, q_m1I (by omega), q_nI (by omega)]; omega), er]
    rw [show nI 0 - 1 = (-1 : Int32) from by decide] at i1
    rw [i1]
    rw [show last + 1 - (k + 1) = last - k by omega, Int32.sub_eq_add_neg] at j1
    exact j1
theorem p_by {t : zSt} {f : Nat → Int32} {fl : Nat → Nat} {q J w : Nat} (hq : q < 32) (hJ : J ≤ 4) (hfl : ∀ j, j < 128 → t.1 7 j = nI (fl j)) (hf : f (5 * (q + 1) + J) = nI w) :
    f_m_passesBy (nI q) (nI J - 1) (zc15 t f) = some (nI (fwN fl q J + w), zc15 t f) := by
  have ha : f_m_passesAt (nI q) (nI J - 1) (zc15 t f) = some (nI (fwN fl q J), zc15 t f) := by
    unfold f_m_passesAt
    by_cases h : J = 0
    · subst h
      rw [if_neg (by decide)]
      rfl
    · obtain ⟨j, rfl⟩ : ∃ j, J = j + 1 := ⟨J - 1, by omega⟩
      rw [nI_pred, if_pos (nI_pos' (by omega)), show (32 : Int32) = nI 32 from rfl, pk_mul, nI_add, zld_at (show 32 * j + q < 128 by omega) (by omega), Option.bind_some, show (zc15 t f).1 7 (32 * j + q) = t.1 7 (32 * j + q) from rfl, hfl _ (by omega)]
      rfl
  unfold f_m_passesBy
  rw [ha, Option.bind_some]
  dsimp only
  rw [nI_1, show (5 : Int32) = nI 5 from rfl, pk_mul, q_ixp, zld_at (show 5 * (q + 1) + J < 165 by omega) (by omega), Option.bind_some, show (zc15 t f).1 15 (5 * (q + 1) + J) = f (5 * (q + 1) + J) from rfl, hf, nI_add]
theorem by_in {t : zSt} {f : Nat → Int32} {g : Nat → Nat} {P q i : Nat} (hP : P ≤ 4) (hq : q < 32) (hi : i ≤ P) (e : t.1 0 8 = nI P) (hg : ∀ j, j ≤ P → g j ≤ 1000) (hby : ∀ j, j ≤ P → f_m_passesBy (nI q) (nI j - 1) (zc15 t f) = some (nI (g j), zc15 t f)) (k85 : Int32 → Int32 → Int32 → zSt → Option (Int32 × zSt)) (k97 : Int32 → Int32 → Int32 → Int32 → zSt → Option (Int32 × zSt)) (v1 v2 : Int32) : ∀ (m J F : Nat), J + m = P + 1 → m < F →
    f_m_where_112 k85 k97 F v1 v2 (nI q) (nI i - 1) (nI (mx g i J)) (nI J - 1) (zc15 t f) = k97 v1 v2 (nI q) (nI (i + 1) - 1) (zc15 t (upd f (5 * q + i) (nI (mx g i (P + 1))))) := by
  intro m
  induction m with
  | zero =>
    intro J F hJ hF
    obtain ⟨F, rfl⟩ : ∃ x, F = x + 1 := ⟨F - 1, by omega⟩
    have eJ : J = P + 1 := by omega
    subst eJ
    unfold f_m_where_112
    rw [show (zc15 t f).1 0 8 = nI P from e, if_pos ((q_pe hP (Nat.le_refl _)).mpr rfl), show (5 : Int32) = nI 5 from rfl, pk_mul, q_ixp, zst_at (show 5 * q + i < 165 by omega) (by omega), Option.bind_some, zc15_w, q_p1]
  | succ m ih =>
    intro J F hJ hF
    obtain ⟨F, rfl⟩ : ∃ x, F = x + 1 := ⟨F - 1, by omega⟩
    have hb : mx g i J ≤ 1000 := mx_le J (fun j hj => hg j (by omega))
    have hb2 := hg J (by omega)
    have hi2 := ih (J + 1) F (by omega) (by omega)
    have e2 : mx g i (J + 1) = if nx i J = true then max (mx g i J) (g J) else mx g i J := rfl
    unfold f_m_where_112
    rw [show (zc15 t f).1 0 8 = nI P from e, if_neg (fun z => by have := (q_pe hP (by omega)).mp z; omega), p_follow (by omega) (by omega), Option.bind_some]
    dsimp only
    by_cases n : nx i J = true
    · rw [if_pos n] at e2
      rw [q01_t n, if_neg q_neg10', hby J (by omega), Option.bind_some, q_p1]
      dsimp only
      by_cases c : g J ≤ mx g i J
      · rw [if_pos (nI_le c (by omega))]
        rw [e2, Nat.max_eq_left c] at hi2
        exact hi2
      · rw [if_neg (nI_ge (by omega) (by omega))]
        rw [e2, Nat.max_eq_right (by omega)] at hi2
        exact hi2
    · rw [if_neg n] at e2
      rw [q01_f n, if_pos rfl, if_pos (nI_pos' (by omega)), q_p1]
      rw [e2] at hi2
      exact hi2
