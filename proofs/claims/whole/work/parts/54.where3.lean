/-! OPS 24: where, the whole -/
theorem mrow {t : zSt} {fl : Nat → Nat} {P last k : Nat} (hP : P ≤ 4) (hl : last < 32) (hk : k ≤ last) (e : t.1 0 8 = nI P) (hfl : ∀ j, j < 128 → t.1 7 j = nI (fl j)) (hf9 : ∀ j, j < 128 → fl j ≤ 9) (k85 : Int32 → Int32 → Int32 → zSt → Option (Int32 × zSt)) (v1 v2 : Int32) : ∀ (m i F : Nat) (f : Nat → Int32), i + m = P + 1 → m < F →
    (∀ j, j ≤ P → f (5 * (last - k + 1) + j) = nI (wW fl P last k j)) → (∀ j, j < i → f (5 * (last - k) + j) = nI (wW fl P last (k + 1) j)) →
    ∃ f', f_m_where_97 k85 F v1 v2 (nI (last - k)) (nI i - 1) (zc15 t f) = k85 v1 v2 (nI (last - k) + (-1)) (zc15 t f') ∧ (∀ j, j ≤ P → f' (5 * (last - k) + j) = nI (wW fl P last (k + 1) j)) ∧ (∀ x, 5 * (last - k) + 5 ≤ x → f' x = f x) := by
  intro m
  induction m with
  | zero =>
    intro i F f hi hF h1 h2
    obtain ⟨F, rfl⟩ : ∃ x, F = x + 1 := ⟨F - 1, by omega⟩
    have ei : i = P + 1 := by omega
    subst ei
    refine ⟨f, ?_, fun j hj => h2 j (by omega), fun x hx => rfl⟩
    unfold f_m_where_97
    rw [show (zc15 t f).1 0 8 = nI P from e, if_pos ((q_pe hP (Nat.le_refl _)).mpr rfl)]
  | succ m ih =>
    intro i F f hi hF h1 h2
    obtain ⟨F, rfl⟩ : ∃ x, F = x + 1 := ⟨F - 1, by omega⟩
    have hin := by_in (g := wA fl P last k) (f := f) hP (show last - k < 32 by omega) (show i ≤ P by omega) e (fun j hj => wA_le hf9 hP hl (by omega) (by omega)) (fun j hj => p_by (by omega) (by omega) hfl (h1 j hj)) k85 (f_m_where_97 k85 F) v1 v2 (P + 1) 0 zFu (by omega) (by have := zFu_big; omega)
    obtain ⟨f', i1, i2, i3⟩ := ih (i + 1) F (upd f (5 * (last - k) + i) (nI (wW fl P last (k + 1) i))) (by omega) (by omega) (fun j hj => by rw [q_updN (by omega)]; exact h1 j hj) (fun j hj => by
      by_cases ej : j = i
      · subst ej; rw [q_updS]
      · rw [q_updN (by omega)]; exact h2 j (by omega))
    refine ⟨f', ?_, i2, fun x hx => by rw [i3 x hx, q_updN (by omega)]⟩
    unfold f_m_where_97
    rw [show (zc15 t f).1 0 8 = nI P from e, if_neg (fun z => by have := (q_pe hP (by omega)).mp z; omega)]
    rw [show mx (wA fl P last k) i 0 = 0 from rfl, show nI 0 - 1 = (-1 : Int32) from by decide, show nI 0 = (0 : Int32) from rfl] at hin
    rw [hin]
    exact i1
theorem mrows {t : zSt} {fl : Nat → Nat} {P last first : Nat} (hP : P ≤ 4) (hl : last < 32) (hfi : first ≤ last) (e : t.1 0 8 = nI P) (hfl : ∀ j, j < 128 → t.1 7 j = nI (fl j)) (hf9 : ∀ j, j < 128 → fl j ≤ 9) {v1 : Int32} (hv : v1 / 100 = nI first) (v2 : Int32) : ∀ (m k F : Nat) (f : Nat → Int32), k + m = last + 1 - first → m < F →
    (∀ k', k' ≤ k → ∀ j, j ≤ P → f (5 * (last + 1 - k') + j) = nI (wW fl P last k' j)) →
    ∃ f', f_m_where_85 F v1 v2 (nI (last + 1 - k) - 1) (zc15 t f) = (if v2 = -1 then some (nI (wW fl P last (last + 1 - first) 0), zc15 t f') else f_m_where_221 zFu v2 (-1) (nI first) (zc15 t f')) ∧ (∀ k', k' ≤ last + 1 - first → ∀ j, j ≤ P → f' (5 * (last + 1 - k') + j) = nI (wW fl P last k' j)) := by
  intro m
  induction m with
  | zero =>
    intro k F f hk hF h1
    obtain ⟨F, rfl⟩ : ∃ x, F = x + 1 := ⟨F - 1, by omega⟩
    have ek : k = last + 1 - first := by omega
    subst ek
    refine ⟨f, ?_, h1⟩
    have h0 := h1 (last + 1 - first) (Nat.le_refl _) 0 (by omega)
    rw [show 5 * (last + 1 - (last + 1 - first)) + 0 = 5 * first by omega] at h0
    unfold f_m_where_85
    rw [hv, if_pos (by rw [q_lt, q_m1I (by omega), q_nI (by omega)]; omega)]
    by_cases c : v2 = -1
    · rw [if_pos c, if_pos c, show (5 : Int32) = nI 5 from rfl, pk_mul, zld_at (show 5 * first < 165 by omega) (by omega), Option.bind_some, show (zc15 t f).1 15 (5 * first) = f (5 * first) from rfl, h0]
    · rw [if_neg c, if_neg c]
  | succ m ih =>
    intro k F f hk hF h1
    obtain ⟨F, rfl⟩ : ∃ x, F = x + 1 := ⟨F - 1, by omega⟩
    have er : nI (last + 1 - k) - 1 = nI (last - k) := by
      rw [show last + 1 - k = last - k + 1 by omega, nI_pred]
    obtain ⟨f1, i1, i2, i3⟩ := mrow hP hl (show k ≤ last by omega) e hfl hf9 (f_m_where_85 F) v1 v2 (P + 1) 0 zFu f (by omega) (by have := zFu_big; omega) (fun j hj => by rw [show last - k + 1 = last + 1 - k by omega]; exact h1 k (Nat.le_refl _) j hj) (fun j hj => absurd hj (by omega))
    obtain ⟨f2, j1, j2⟩ := ih (k + 1) F f1 (by omega) (by omega) (fun k' hk' j hj => by
      by_cases ek : k' = k + 1
      · subst ek
        rw [show last + 1 - (k + 1) = last - k by omega]
        exact i2 j hj
      · rw [i3 _ (by omega)]; exact h1 k' (by omega) j hj)
    refine ⟨f2, ?_, j2⟩
    unfold f_m_where_85
    rw [hv, if_neg (by rw [q_lt, q_m1I (by omega), q_nI (by omega)]; omega), er]
    rw [show nI 0 - 1 = (-1 : Int32) from by decide] at i1
    rw [i1]
    rw [show last + 1 - (k + 1) = last - k by omega, Int32.sub_eq_add_neg] at j1
    exact j1
theorem mzero {t : zSt} {P last : Nat} (hP : P ≤ 4) (hl : last < 32) (e : t.1 0 8 = nI P) (v1 v2 : Int32) : ∀ (m J F : Nat) (f : Nat → Int32), J + m = P + 1 → m < F → (∀ j, j < J → f (5 * (last + 1) + j) = 0) →
    ∃ f', f_m_where_51 F v1 v2 (nI last) (nI J - 1) (zc15 t f) = f_m_where_85 zFu v1 v2 (nI last) (zc15 t f') ∧ (∀ j, j ≤ P → f' (5 * (last + 1) + j) = 0) := by
  intro m
  induction m with
  | zero =>
    intro J F f hJ hF h1
    obtain ⟨F, rfl⟩ : ∃ x, F = x + 1 := ⟨F - 1, by omega⟩
    have eJ : J = P + 1 := by omega
    subst eJ
    refine ⟨f, ?_, fun j hj => h1 j (by omega)⟩
    unfold f_m_where_51
    rw [show (zc15 t f).1 0 8 = nI P from e, if_pos ((q_pe hP (Nat.le_refl _)).mpr rfl)]
  | succ m ih =>
    intro J F f hJ hF h1
    obtain ⟨F, rfl⟩ : ∃ x, F = x + 1 := ⟨F - 1, by omega⟩
    obtain ⟨f', i1, i2⟩ := ih (J + 1) F (upd f (5 * (last + 1) + J) 0) (by omega) (by omega) (fun j hj => by
      by_cases ej : j = J
      · subst ej; rw [q_updS]
      · rw [q_updN (by omega)]; exact h1 j (by omega))
    refine ⟨f', ?_, i2⟩
    unfold f_m_where_51
    rw [show (zc15 t f).1 0 8 = nI P from e, if_neg (fun z => by have := (q_pe hP (by omega)).mp z; omega), nI_1, show (5 : Int32) = nI 5 from rfl, pk_mul, q_ixp, zst_at (show 5 * (last + 1) + J < 165 by omega) (by omega), Option.bind_some, zc15_w, q_p1]
    exact i1
theorem mx_ge {g : Nat → Nat} {i : Nat} : ∀ J j, j < J → nx i j = true → g j ≤ mx g i J := by
  intro J
  induction J with
  | zero => intro j hj; omega
  | succ J ih =>
    intro j hj hn
    unfold mx
    by_cases n : nx i J = true
    · rw [if_pos n]
      by_cases e : j = J
      · subst e; exact Nat.le_max_right _ _
      · exact Nat.le_trans (ih j (by omega) hn) (Nat.le_max_left _ _)
    · rw [if_neg n]
      by_cases e : j = J
      · subst e; exact absurd hn n
      · exact ih j (by omega) hn
theorem mx_at {g : Nat → Nat} {i : Nat} : ∀ J, mx g i J = 0 ∨ ∃ j, j < J ∧ nx i j = true ∧ g j = mx g i J := by
  intro J
  induction J with
  | zero => exact Or.inl rfl
  | succ J ih =>
    unfold mx
    by_cases n : nx i J = true
    · rw [if_pos n]
      by_cases c : mx g i J ≤ g J
      · exact Or.inr ⟨J, by omega, n, (Nat.max_eq_right c).symm⟩
      · rw [Nat.max_eq_left (by omega)]
        rcases ih with h | ⟨j, h1, h2, h3⟩
        · exact Or.inl h
        · exact Or.inr ⟨j, by omega, h2, h3⟩
    · rw [if_neg n]
      rcases ih with h | ⟨j, h1, h2, h3⟩
      · exact Or.inl h
      · exact Or.inr ⟨j, by omega, h2, h3⟩
theorem mx_has {g : Nat → Nat} {i : Nat} (P : Nat) : ∃ j, 0 ≤ j ∧ j ≤ P ∧ nx i j = true ∧ g j = mx g i (P + 1) := by
  rcases mx_at (g := g) (i := i) (P + 1) with h | ⟨j, h1, h2, h3⟩
  · have h0 : nx i 0 = true := by simp [nx]
    have := mx_ge (g := g) (P + 1) 0 (by omega) h0
    exact ⟨0, by omega, by omega, h0, by omega⟩
  · exact ⟨j, by omega, by omega, h2, h3⟩
theorem first_step {s t : zSt} {f f2 : Nat → Int32} {g : Nat → Nat} {P q i M : Nat} (hP : P ≤ 4) (hq : q < 32) (hi : i ≤ P) (e : s.1 6 3 = nI P) (hf : ∀ j, j ≤ P → f (q * 5 + j) = nI (g j)) (hg : ∀ j, j ≤ P → g j ≤ 1000) (hby : ∀ j, j ≤ P → f_m_passesBy (nI q) (nI j - 1) (zc15 t f2) = some (nI (g j), zc15 t f2)) (hM : f2 (5 * q + i) = nI M) (hM1 : M ≤ 1000) (K : Int32 → Int32 → Int32 → zSt → Option (Int32 × zSt)) (v2 : Int32) : ∀ (m J F F' : Nat), J + m = P + 1 → m < F → m < F' → (∃ j, J ≤ j ∧ j ≤ P ∧ nx i j = true ∧ g j = M) →
    ∃ i', i' ≤ P ∧ f_st_firstOfMost_10 F (nI i - 1) (nI q) (nI M) (nI J - 1) (zc12 s f) = some (nI i' - 1, zc12 s f) ∧ f_m_where_230 K F' v2 (nI i - 1) (nI q) (nI J - 1) (zc15 t f2) = K v2 (nI i' - 1) (nI (q + 1)) (zc15 t f2) := by
  intro m
  induction m with
  | zero =>
    intro J F F' hJ hF hF' ⟨j, h1, h2, h3⟩
    omega
  | succ m ih =>
    intro J F F' hJ hF hF' ⟨j, h1, h2, h3, h4⟩
    obtain ⟨F, rfl⟩ : ∃ x, F = x + 1 := ⟨F - 1, by omega⟩
    obtain ⟨F', rfl⟩ : ∃ x, F' = x + 1 := ⟨F' - 1, by omega⟩
    have hgJ := hg J (by omega)
    unfold f_st_firstOfMost_10 f_m_where_230
    rw [show (zc12 s f).1 6 3 = nI P from e, if_neg (fun z => by have := (q_pe hP (by omega)).mp z; omega), p_next (by omega) (by omega), Option.bind_some, p_follow (by omega) (by omega), Option.bind_some]
    dsimp only
    by_cases n : nx i J = true
    · rw [q01_t n, if_neg q_neg10', if_neg q_neg10', show (5 : Int32) = nI 5 from rfl, pk_mul, q_ixp, zld_at (show q * 5 + J < 160 by omega) (by omega), Option.bind_some, show (zc12 s f).1 12 (q * 5 + J) = f (q * 5 + J) from rfl, hf J (by omega), hby J (by omega), Option.bind_some]
      dsimp only
      rw [pk_mul, q_ixp, zld_at (show 5 * q + i < 165 by omega) (by omega), Option.bind_some, show (zc15 t f2).1 15 (5 * q + i) = f2 (5 * q + i) from rfl, hM, nI_1, q_p1]
      by_cases c : g J = M
      · rw [if_pos (by rw [c]), if_pos (by rw [c])]
        exact ⟨J, by omega, rfl, rfl⟩
      · rw [if_neg (q_ne (by omega) (by omega) c), if_neg (q_ne (by omega) (by omega) c)]
        refine ih (J + 1) F F' (by omega) (by omega) (by omega) ⟨j, ?_, h2, h3, h4⟩
        by_cases ej : j = J
        · subst ej; exact absurd h4 c
        · omega
    · rw [q01_f n, if_pos rfl, if_pos rfl, q_p1]
      refine ih (J + 1) F F' (by omega) (by omega) (by omega) ⟨j, ?_, h2, h3, h4⟩
      by_cases ej : j = J
      · subst ej; exact absurd h3 n
      · omega
theorem trace_back {s t : zSt} {f f2 : Nat → Int32} {fl : Nat → Nat} {P last first wanted : Nat} (hP : P ≤ 4) (hl : last < 32) (hw : wanted ≤ last) (e : s.1 6 3 = nI P) (hfl : ∀ j, j < 128 → t.1 7 j = nI (fl j)) (hf9 : ∀ j, j < 128 → fl j ≤ 9)
    (hG : ∀ k', k' < last + 1 - first → ∀ j, j ≤ P → f ((last - k') * 5 + j) = nI (wA fl P last k' j)) (hM : ∀ k', k' ≤ last + 1 - first → ∀ j, j ≤ P → f2 (5 * (last + 1 - k') + j) = nI (wW fl P last k' j)) : ∀ (m q F F' i : Nat), q + m = wanted + 1 → first ≤ q → i ≤ P → m < F → m < F' →
    ∃ i', i' ≤ P ∧ f_st_placeIn_5 F (nI wanted) (nI i - 1) (nI q) (zc12 s f) = some (nI i' - 1, zc12 s f) ∧ f_m_where_221 F' (nI wanted) (nI i - 1) (nI q) (zc15 t f2) = some (nI i' - 1, zc15 t f2) := by
  intro m
  induction m with
  | zero =>
    intro q F F' i hq h1 hi hF hF'
    obtain ⟨F, rfl⟩ : ∃ x, F = x + 1 := ⟨F - 1, by omega⟩
    obtain ⟨F', rfl⟩ : ∃ x, F' = x + 1 := ⟨F' - 1, by omega⟩
    refine ⟨i, hi, ?_, ?_⟩
    · unfold f_st_placeIn_5
      rw [if_pos (nI_lt (by omega) (by omega))]
    · unfold f_m_where_221
      rw [if_pos (nI_lt (by omega) (by omega))]
  | succ m ih =>
    intro q F F' i hq h1 hi hF hF'
    obtain ⟨F, rfl⟩ : ∃ x, F = x + 1 := ⟨F - 1, by omega⟩
    obtain ⟨F', rfl⟩ : ∃ x, F' = x + 1 := ⟨F' - 1, by omega⟩
    have eq : last - (last - q) = q := by omega
    have hfq : ∀ j, j ≤ P → f (q * 5 + j) = nI (wA fl P last (last - q) j) := fun j hj => by
      have := hG (last - q) (by omega) j hj
      rw [eq] at this
      exact this
    have hA : ∀ j, j ≤ P → wA fl P last (last - q) j ≤ 1000 := fun j hj => wA_le hf9 hP hl (by omega) (by omega)
    have hby : ∀ j, j ≤ P → f_m_passesBy (nI q) (nI j - 1) (zc15 t f2) = some (nI (wA fl P last (last - q) j), zc15 t f2) := fun j hj => by
      have hr := hM (last - q) (by omega) j hj
      rw [show last + 1 - (last - q) = q + 1 by omega] at hr
      rw [p_by (by omega) (by omega) hfl hr]
      unfold wA
      rw [eq]
    have hMq : f2 (5 * q + i) = nI (mx (wA fl P last (last - q)) i (P + 1)) := by
      have hr := hM (last - q + 1) (by omega) i hi
      rw [show last + 1 - (last - q + 1) = q by omega, wW_s] at hr
      exact hr
    have hz := zFu_big
    obtain ⟨i', j1, j2, j3⟩ := first_step hP (show q < 32 by omega) hi e hfq hA hby hMq (mx_le _ (fun j hj => hA j (by omega))) (f_m_where_221 F') (nI wanted) (P + 1) 0 zFu zFu (by omega) (by omega) (by omega) (mx_has P)
    rw [show nI 0 - 1 = (-1 : Int32) from by decide] at j2 j3
    obtain ⟨i2, u1, u2, u3⟩ := ih (q + 1) F F' i' (by omega) (by omega) j1 (by omega) (by omega)
    refine ⟨i2, u1, ?_, ?_⟩
    · unfold f_st_placeIn_5
      rw [if_neg (nI_nlt (by omega) (by omega))]
      unfold f_st_firstOfMost
      rw [p_most hP (by omega) (by omega) e hfq hA, Option.bind_some]
      dsimp only
      rw [j2, Option.bind_some, nI_1]
      exact u2
    · unfold f_m_where_221
      rw [if_neg (nI_nlt (by omega) (by omega)), j3]
      exact u3
theorem op_where {s t : zSt} (h : yR s t) (a b : Int32) : yOp (f_g_where a b) (f_m_where a b) s t := by
  obtain ⟨h1, ⟨g1, g2, g3, g4, P, hP, e1, e2⟩, h3⟩ := id h
  by_cases ha : zSp a
  · have hpos : ¬ a.toInt < 0 := fun z => zSp_neg z ha
    obtain ⟨n, hn, rfl⟩ := q_pos hpos
    have hsp := (zSp_of hn).mp ha
    have eQ : nI n / 100 = nI (n / 100) := q_d100 n hn
    have eL : zrem (nI n) 100 = nI (n % 100) := q_100 n hn
    have hG0 : (b = -1 ∨ ((n / 100 : Nat) : Int) ≤ b.toInt ∧ b.toInt ≤ ((n % 100 : Nat) : Int)) → f_g_where (nI n) b s = f_g_where_30 (nI n) b s ∧ f_m_where (nI n) b t = f_m_where_33 (nI n) b t := by
      intro hb
      unfold f_g_where f_m_where
      rw [(p_gSpan (nI n) s).1 ha, Option.bind_some, if_neg q_neg10', (p_mSpan (nI n) t).1 ha, Option.bind_some, if_neg q_neg10']
      dsimp only
      by_cases c : b = -1
      · rw [if_pos c, if_pos c]
        exact ⟨rfl, rfl⟩
      · have hb2 : ((n / 100 : Nat) : Int) ≤ b.toInt ∧ b.toInt ≤ ((n % 100 : Nat) : Int) := by
          rcases hb with z | z
          · exact absurd z c
          · exact z
        rw [if_neg c, if_neg c, p_isWithin, Option.bind_some, p_within, Option.bind_some, Int32.toInt_toInt64, Int32.toInt_toInt64, Int32.toInt_toInt64, eQ, eL, q_nI (show n / 100 < 2147483648 by omega), q_nI (show n % 100 < 2147483648 by omega), q01_t hb2, if_neg q_neg10', if_neg q_neg10']
        exact ⟨rfl, rfl⟩
    by_cases hb : b = -1 ∨ ((n / 100 : Nat) : Int) ≤ b.toInt ∧ b.toInt ≤ ((n % 100 : Nat) : Int)
    · obtain ⟨hG, hM⟩ := hG0 hb
      unfold f_g_where_30 at hG
      unfold f_m_where_33 at hM
      by_cases hp0 : P = 0
      · subst hp0
        rw [e1, if_pos (by rfl)] at hG
        rw [e2, if_pos (by rfl)] at hM
        exact yOp_same (-5) hG hM h
      · have hz := zFu_big
        let fl : Nat → Nat := fun j => (s.1 9 j).toInt.toNat
        have hf9 : ∀ j, j < 128 → fl j ≤ 9 := fun j hj => by
          have := g4 j hj
          rw [← g3 j hj] at this
          show (s.1 9 j).toInt.toNat ≤ 9
          omega
        have hfs : ∀ j, j < 128 → s.1 9 j = nI (fl j) := fun j hj => by
          have := g4 j hj
          rw [← g3 j hj] at this
          rw [q_eq, q_nI (by show (s.1 9 j).toInt.toNat < 2147483648; omega)]
          show (s.1 9 j).toInt = (((s.1 9 j).toInt.toNat : Nat) : Int)
          omega
        have hft : ∀ j, j < 128 → t.1 7 j = nI (fl j) := fun j hj => by rw [← g3 j hj]; exact hfs j hj
        rw [e1, if_neg (nI_ne0 (by omega) (by omega)), eQ, eL] at hG
        rw [e2, if_neg (nI_ne0 (by omega) (by omega)), eL] at hM
        obtain ⟨f, i1, i2⟩ := ahead_out (first := n / 100) hP (show n % 100 < 32 by omega) hsp.2 e1 hfs hf9 (n % 100 + 1 - n / 100) 0 zFu (s.1 12) (by omega) (by omega) (fun k' hk' => absurd hk' (by omega))
        rw [zc12_0, Nat.sub_zero, nI_pred] at i1
        obtain ⟨f1, m1, m2⟩ := mzero hP (show n % 100 < 32 by omega) e2 (nI n) b (P + 1) 0 zFu (t.1 15) (by omega) (by omega) (fun j hj => absurd hj (by omega))
        rw [zc15_0, show nI 0 - 1 = (-1 : Int32) from by decide] at m1
        obtain ⟨f2, n1, n2⟩ := mrows (first := n / 100) hP (show n % 100 < 32 by omega) hsp.2 e2 hft hf9 eQ b (n % 100 + 1 - n / 100) 0 zFu f1 (by omega) (by omega) (fun k' hk' j hj => by
          have ek : k' = 0 := by omega
          subst ek
          rw [Nat.sub_zero]
          exact m2 j hj)
        rw [Nat.sub_zero, nI_pred] at n1
        rw [m1, n1] at hM
        unfold f_st_lookAhead at hG
        rw [i1, Option.bind_some] at hG
        have hfin : yR (zc12 s f) (zc15 t f2) := h
        by_cases c : b = -1
        · rw [if_pos c] at hG hM
          have hm := p_most (f := f) (g := wA fl P (n % 100) (n % 100 - n / 100)) (q := n / 100) (i := 0) hP (by omega) (by omega) e1 (fun j hj => by
            have := i2 (n % 100 - n / 100) (by omega) j hj
            rw [show n % 100 - (n % 100 - n / 100) = n / 100 by omega] at this
            exact this) (fun j hj => wA_le hf9 hP (by omega) (by omega) (by omega))
          rw [show nI 0 - 1 = (-1 : Int32) from by decide] at hm
          rw [hm, Option.bind_some] at hG
          refine ⟨_, _, _, hG, ?_, hfin⟩
          rw [hM, show n % 100 + 1 - n / 100 = n % 100 - n / 100 + 1 by omega, wW_s]
        · rw [if_neg c] at hG hM
          have hb2 : ((n / 100 : Nat) : Int) ≤ b.toInt ∧ b.toInt ≤ ((n % 100 : Nat) : Int) := by
            rcases hb with z | z
            · exact absurd z c
            · exact z
          obtain ⟨w, hw, rfl⟩ := q_ix (x := b) (n := n % 100) ⟨by omega, hb2.2⟩
          rw [q_nI (by omega)] at hb2
          obtain ⟨i', r1, r2, r3⟩ := trace_back (first := n / 100) (f := f) (f2 := f2) (t := t) hP (show n % 100 < 32 by omega) hw e1 hft hf9 i2 n2 (w + 1 - n / 100) (n / 100) zFu zFu 0 (by omega) (Nat.le_refl _) (by omega) (by omega) (by omega)
          rw [show nI 0 - 1 = (-1 : Int32) from by decide] at r2 r3
          unfold f_st_placeIn at hG
          rw [r2, Option.bind_some] at hG
          rw [r3] at hM
          exact ⟨_, _, _, hG, hM, hfin⟩
    · have c : ¬ b = -1 := fun z => hb (Or.inl z)
      have hb2 : ¬ (((n / 100 : Nat) : Int) ≤ b.toInt ∧ b.toInt ≤ ((n % 100 : Nat) : Int)) := fun z => hb (Or.inr z)
      refine yOp_same (-2000000000) ?_ ?_ h
      · unfold f_g_where
        rw [(p_gSpan (nI n) s).1 ha, Option.bind_some, if_neg q_neg10']
        dsimp only
        rw [if_neg c, p_isWithin, Option.bind_some, eQ, eL, q_nI (show n / 100 < 2147483648 by omega), q_nI (show n % 100 < 2147483648 by omega), q01_f hb2, if_pos rfl]
      · unfold f_m_where
        rw [(p_mSpan (nI n) t).1 ha, Option.bind_some, if_neg q_neg10']
        dsimp only
        rw [if_neg c, p_within, Option.bind_some, Int32.toInt_toInt64, Int32.toInt_toInt64, Int32.toInt_toInt64, eQ, eL, q_nI (show n / 100 < 2147483648 by omega), q_nI (show n % 100 < 2147483648 by omega), q01_f hb2, if_pos rfl]
  · refine yOp_same (-2000000000) ?_ ?_ h
    · unfold f_g_where
      rw [(p_gSpan a s).2 ha, Option.bind_some, if_pos rfl]
    · unfold f_m_where
      rw [(p_mSpan a t).2 ha, Option.bind_some, if_pos rfl]
