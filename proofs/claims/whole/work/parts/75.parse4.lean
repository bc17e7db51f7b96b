/-! THE PARSER 4: names, numbers, one operand -/
def zNml : List Int32 := [108, 115, 103, 97, 104, 116, 112, 98, 113]
theorem name_of {c : Nat} (hc : c < 256) : (∃ j, j < 9 ∧ zNml.getD j 0 = nI c ∧ (∀ i, i < j → ¬ zNml.getD i 0 = nI c) ∧ ∀ t, f_m_nameOf (nI c) t = some (nI j, t)) ∨ ((∀ i, i < 9 → ¬ zNml.getD i 0 = nI c) ∧ ∀ t, f_m_nameOf (nI c) t = some (-1, t)) := by
  by_cases h : c < 97 ∨ 116 < c
  · refine Or.inr ⟨fun i hi e => ?_, fun t => ?_⟩
    · have : ∃ w, 97 ≤ w ∧ w ≤ 116 ∧ zNml.getD i 0 = nI w := by
        have hi' : i = 0 ∨ i = 1 ∨ i = 2 ∨ i = 3 ∨ i = 4 ∨ i = 5 ∨ i = 6 ∨ i = 7 ∨ i = 8 := by omega
        rcases hi' with rfl | rfl | rfl | rfl | rfl | rfl | rfl | rfl | rfl
        · exact ⟨108, by omega, by omega, rfl⟩
        · exact ⟨115, by omega, by omega, rfl⟩
        · exact ⟨103, by omega, by omega, rfl⟩
        · exact ⟨97, by omega, by omega, rfl⟩
        · exact ⟨104, by omega, by omega, rfl⟩
        · exact ⟨116, by omega, by omega, rfl⟩
        · exact ⟨112, by omega, by omega, rfl⟩
        · exact ⟨98, by omega, by omega, rfl⟩
        · exact ⟨113, by omega, by omega, rfl⟩
      obtain ⟨w, w1, w2, w3⟩ := this
      rw [w3] at e
      have := (nI_eq (a := w) (b := c) (by omega) (by omega)).mp e
      omega
    · unfold f_m_nameOf
      rw [if_pos (by rw [q_nI (by omega)]; omega)]
  · have hc' : c = 97 ∨ c = 98 ∨ c = 99 ∨ c = 100 ∨ c = 101 ∨ c = 102 ∨ c = 103 ∨ c = 104 ∨ c = 105 ∨ c = 106 ∨ c = 107 ∨ c = 108 ∨ c = 109 ∨ c = 110 ∨ c = 111 ∨ c = 112 ∨ c = 113 ∨ c = 114 ∨ c = 115 ∨ c = 116 := by omega
    have lt9 : ∀ P : Nat → Prop, P 0 → P 1 → P 2 → P 3 → P 4 → P 5 → P 6 → P 7 → P 8 → ∀ i, i < 9 → P i := by
      intro P p0 p1 p2 p3 p4 p5 p6 p7 p8 i hi
      match i, hi with
      | 0, _ => exact p0
      | 1, _ => exact p1
      | 2, _ => exact p2
      | 3, _ => exact p3
      | 4, _ => exact p4
      | 5, _ => exact p5
      | 6, _ => exact p6
      | 7, _ => exact p7
      | 8, _ => exact p8
    clear hc h
    rcases hc' with rfl | rfl | rfl | rfl | rfl | rfl | rfl | rfl | rfl | rfl | rfl | rfl | rfl | rfl | rfl | rfl | rfl | rfl | rfl | rfl
    · exact Or.inl ⟨3, by omega, rfl, by decide, fun t => rfl⟩
    · exact Or.inl ⟨7, by omega, rfl, by decide, fun t => rfl⟩
    · exact Or.inr ⟨by decide, fun t => rfl⟩
    · exact Or.inr ⟨by decide, fun t => rfl⟩
    · exact Or.inr ⟨by decide, fun t => rfl⟩
    · exact Or.inr ⟨by decide, fun t => rfl⟩
    · exact Or.inl ⟨2, by omega, rfl, by decide, fun t => rfl⟩
    · exact Or.inl ⟨4, by omega, rfl, by decide, fun t => rfl⟩
    · exact Or.inr ⟨by decide, fun t => rfl⟩
    · exact Or.inr ⟨by decide, fun t => rfl⟩
    · exact Or.inr ⟨by decide, fun t => rfl⟩
    · exact Or.inl ⟨0, by omega, rfl, by decide, fun t => rfl⟩
    · exact Or.inr ⟨by decide, fun t => rfl⟩
    · exact Or.inr ⟨by decide, fun t => rfl⟩
    · exact Or.inr ⟨by decide, fun t => rfl⟩
    · exact Or.inl ⟨6, by omega, rfl, by decide, fun t => rfl⟩
    · exact Or.inl ⟨8, by omega, rfl, by decide, fun t => rfl⟩
    · exact Or.inr ⟨by decide, fun t => rfl⟩
    · exact Or.inl ⟨1, by omega, rfl, by decide, fun t => rfl⟩
    · exact Or.inl ⟨5, by omega, rfl, by decide, fun t => rfl⟩
theorem name_step (F : Nat) (x : Int32) {i : Nat} (hi : i < 9) (s : zSt) : f_tp_readName_2 (F + 1) x (nI i) s = if zNml.getD i 0 = x then (f_tp_step ((-1) - nI i) (zw s 13 4 (s.1 13 4 + 1))).bind fun x2 => (zbo x2.1).bind fun v => some (v, x2.2) else f_tp_readName_2 F x (nI (i + 1)) s := by
  have hl : zlt [108, 115, 103, 97, 104, 116, 112, 98, 113] (nI i) = some (zNml.getD i 0) := zlt_at (t := zNml) (j := i) hi (by decide)
  conv => lhs; unfold f_tp_readName_2
  rw [if_neg (show ¬ (9 : Int32) ≤ nI i from nI_ge (b := 9) (by omega) (by omega)), hl, Option.bind_some, nI_1]
theorem name_none {x : Int32} (h : ∀ i, i < 9 → ¬ zNml.getD i 0 = x) (s : zSt) : ∀ (m i F : Nat), i + m = 9 → m < F → f_tp_readName_2 F x (nI i) s = some (0, s) := by
  intro m
  induction m with
  | zero =>
    intro i F hi hF
    obtain ⟨F, rfl⟩ : ∃ x, F = x + 1 := ⟨F - 1, by omega⟩
    have e : i = 9 := by omega
    subst e
    unfold f_tp_readName_2
    rw [if_pos (by decide)]
  | succ m ih =>
    intro i F hi hF
    obtain ⟨F, rfl⟩ : ∃ x, F = x + 1 := ⟨F - 1, by omega⟩
    rw [name_step F x (by omega) s, if_neg (h i (by omega))]
    exact ih (i + 1) F (by omega) (by omega)
theorem name_hit {x : Int32} {j : Nat} (hj : j < 9) (e : zNml.getD j 0 = x) (h : ∀ i, i < j → ¬ zNml.getD i 0 = x) (s : zSt) : ∀ (m i F : Nat), i + m = j → m < F → f_tp_readName_2 F x (nI i) s = (f_tp_step ((-1) - nI j) (zw s 13 4 (s.1 13 4 + 1))).bind fun x2 => (zbo x2.1).bind fun v => some (v, x2.2) := by
  intro m
  induction m with
  | zero =>
    intro i F hi hF
    obtain ⟨F, rfl⟩ : ∃ x, F = x + 1 := ⟨F - 1, by omega⟩
    have ei : i = j := by omega
    subst ei
    rw [name_step F x hj s, if_pos e]
  | succ m ih =>
    intro i F hi hF
    obtain ⟨F, rfl⟩ : ∃ x, F = x + 1 := ⟨F - 1, by omega⟩
    rw [name_step F x (by omega) s, if_neg (h i (by omega))]
    exact ih (i + 1) F (by omega) (by omega)
theorem p_isDigit (x : Int32) (s : zSt) : f_tp_isDigit x s = some (q01 (48 ≤ x.toInt ∧ x.toInt ≤ 57), s) := by
  have e48 : (48 : Int32).toInt = 48 := rfl
  have e57 : (57 : Int32).toInt = 57 := rfl
  unfold f_tp_isDigit
  simp only [q_lt, e48, e57]
  by_cases h1 : x.toInt < 48
  · rw [if_pos h1, q01_f (by omega)]
  · rw [if_neg h1]
    by_cases h2 : 57 < x.toInt
    · rw [if_pos h2, q01_f (by omega)]
    · rw [if_neg h2, q01_t (by omega)]
def dg (x : Int32) : Prop := 48 ≤ x.toInt ∧ x.toInt ≤ 57
theorem dg_sc {N : Nat} {tx : Nat → Int32} {p : Nat} : dg (zsc N tx p) ↔ dg (zsm N tx p) := by
  unfold zsc zsm
  by_cases h : p < N
  · rw [if_pos h, if_pos h]
  · rw [if_neg h, if_neg h]
    constructor
    · intro e; exact absurd e (by unfold dg; decide)
    · intro e; exact absurd e (by unfold dg; decide)
theorem dg_lt {N : Nat} {tx : Nat → Int32} {p : Nat} (h : dg (zsm N tx p)) : p < N := by
  unfold zsm at h
  by_cases hp : p < N
  · exact hp
  · rw [if_neg hp] at h
    exact absurd h (by unfold dg; decide)
theorem zsc_eq {N : Nat} {tx : Nat → Int32} {p : Nat} (hp : p < N) : zsc N tx p = zsm N tx p := by unfold zsc zsm; rw [if_pos hp, if_pos hp]
/-- the number's digits -/
theorem num_end {d0 d5 : zSt → Option (Int32 × zSt)} {N : Nat} {tx : Nat → Int32} {o F' : Nat} {a i : Nat} {t : zSt} {p : Nat} (ht : zMt N tx t p o) (h : 4 ≤ i ∨ (0 < i ∧ ¬ dg (zsm N tx p))) (hi : i < 100) : f_m_one_176 d0 d5 (F' + 1) (nI a) (nI i) t = some (nI a, t) := by
  have e48 : (48 : Int32).toInt = 48 := rfl
  have e57 : (57 : Int32).toInt = 57 := rfl
  have n0 : 0 < i → ¬ nI i = (0 : Int32) := fun h e => absurd ((nI_eq (a := i) (b := 0) (by omega) (by omega)).mp e) (by omega)
  unfold f_m_one_176
  by_cases c : 4 ≤ i
  · rw [if_pos (show (4 : Int32) ≤ nI i from nI_le (a := 4) c (by omega)), if_neg (n0 (by omega))]
  · obtain ⟨h1, h2⟩ := h.resolve_left c
    rw [if_neg (show ¬ (4 : Int32) ≤ nI i from nI_ge (b := 4) (by omega) (by omega)), p_byte ht.1, Option.bind_some]
    dsimp only
    by_cases c1 : zsm N tx p < 48
    · rw [if_pos c1, if_neg (n0 h1)]
    · rw [if_neg c1, p_byte ht.1, Option.bind_some]
      dsimp only
      rw [if_pos (show 57 < zsm N tx p by rw [q_lt, e57]; rw [q_lt, e48] at c1; unfold dg at h2; omega), if_neg (n0 h1)]
theorem num_loop {d0 d5 : zSt → Option (Int32 × zSt)} {N : Nat} {tx : Nat → Int32} {o : Nat} : ∀ (m i a p k : Nat) (s : zSt) (F F' : Nat), i + m = 4 → m < F → m < F' → a < 10 ^ i → zPt N tx s p k → k < 121 → (0 < i ∨ dg (zsm N tx p)) →
    ∃ s' p' b, f_tp_readNumber_4 F (nI a) (nI i) s = some (1, s') ∧ zPt N tx s' p' (k + 1) ∧ zPf s s' k ∧ p ≤ p' ∧ (i = 0 → p < p') ∧ s'.1 15 k = nI b ∧ b < 10000 ∧ ∀ t, zMt N tx t p o → ∃ t', f_m_one_176 d0 d5 F' (nI a) (nI i) t = some (nI b, t') ∧ zMf t t' ∧ zMt N tx t' p' o := by
  intro m
  induction m with
  | zero =>
    intro i a p k s F F' hi hF hF' ha hs hk hd
    obtain ⟨F, rfl⟩ : ∃ x, F = x + 1 := ⟨F - 1, by omega⟩
    obtain ⟨F', rfl⟩ : ∃ x, F' = x + 1 := ⟨F' - 1, by omega⟩
    have ei : i = 4 := by omega
    subst ei
    obtain ⟨s', z1, z2, z3, z4⟩ := p_step hs hk (nI a)
    refine ⟨s', p, a, ?_, z2, z3, Nat.le_refl _, fun h => absurd h (by omega), z4, ha, fun t ht => ⟨t, num_end ht (Or.inl (Nat.le_refl _)) (by omega), zMf_r t, ht⟩⟩
    unfold f_tp_readNumber_4
    rw [if_pos (by decide), z1, Option.bind_some, zbo_1, Option.bind_some]
  | succ m ih =>
    intro i a p k s F F' hi hF hF' ha hs hk hd
    obtain ⟨F, rfl⟩ : ∃ x, F = x + 1 := ⟨F - 1, by omega⟩
    obtain ⟨F', rfl⟩ : ∃ x, F' = x + 1 := ⟨F' - 1, by omega⟩
    have n4 : ¬ (4 : Int32) ≤ nI i := nI_ge (b := 4) (by omega) (by omega)
    have ha4 : a < 10000 := Nat.lt_of_lt_of_le ha (by
      have : (10 : Nat) ^ i ≤ 10 ^ 4 := Nat.pow_le_pow_right (by omega) (by omega)
      omega)
    have hG0 : f_tp_readNumber_4 (F + 1) (nI a) (nI i) s = if q01 (48 ≤ (zsc N tx p).toInt ∧ (zsc N tx p).toInt ≤ 57) = 0 then (f_tp_step (nI a) s).bind fun x4 => (zbo x4.1).bind fun v => some (v, x4.2) else f_tp_readNumber_4 F (((nI a * 10) + zsc N tx p) - 48) (nI i + 1) (zw s 13 4 (s.1 13 4 + 1)) := by
      conv => lhs; unfold f_tp_readNumber_4
      rw [if_neg n4, tp_nx hs, Option.bind_some]
      dsimp only
      rw [p_isDigit, Option.bind_some]
      dsimp only
      rw [tp_nx hs, Option.bind_some]
    by_cases c : dg (zsm N tx p)
    · have hp : p < N := dg_lt c
      have c' : 48 ≤ (zsc N tx p).toInt ∧ (zsc N tx p).toInt ≤ 57 := dg_sc.mpr c
      obtain ⟨a1, a2⟩ := adv_s hs hp
      obtain ⟨e, he, ee⟩ : ∃ e, e ≤ 9 ∧ zsm N tx p = nI (48 + e) := by
        obtain ⟨w, hw, ew⟩ := q_ix (x := zsm N tx p) (n := 57) (by unfold dg at c; omega)
        unfold dg at c
        rw [ew, q_nI (by omega)] at c
        exact ⟨w - 48, by omega, by rw [ew, show 48 + (w - 48) = w by omega]⟩
      have v1 : ((nI a * 10) + zsc N tx p) - 48 = nI (a * 10 + e) := by
        rw [zsc_eq hp, ee, show (10 : Int32) = nI 10 from rfl, pk_mul, nI_add, show (48 : Int32) = nI 48 from rfl, pk_sub (by omega), show a * 10 + (48 + e) - 48 = a * 10 + e by omega]
      have v2 : ((10 * nI a) + zsm N tx p) - 48 = nI (a * 10 + e) := by
        rw [ee, show (10 : Int32) = nI 10 from rfl, pk_mul, nI_add, show (48 : Int32) = nI 48 from rfl, pk_sub (by omega), show 10 * a + (48 + e) - 48 = a * 10 + e by omega]
      obtain ⟨s', p', b, g1, g2, g3, g4, g5, g6, g7, g8⟩ := ih (i + 1) (a * 10 + e) (p + 1) k _ F F' (by omega) (by omega) (by omega) (by rw [Nat.pow_succ]; omega) a1 hk (Or.inl (by omega))
      refine ⟨s', p', b, ?_, g2, zPf_t (a2 k) g3 (Nat.le_refl _), by omega, fun _ => by omega, g6, g7, fun t ht => ?_⟩
      · rw [hG0, q01_t c', if_neg q_neg10', v1, nI_1]
        exact g1
      · obtain ⟨b1, b2⟩ := adv_t ht hp
        obtain ⟨t', f1, f2, f3⟩ := g8 _ b1
        refine ⟨t', ?_, zMf_t b2 f2, f3⟩
        have e48 : (48 : Int32).toInt = 48 := rfl
        have e57 : (57 : Int32).toInt = 57 := rfl
        conv => lhs; unfold f_m_one_176
        rw [if_neg n4, p_byte ht.1, Option.bind_some]
        dsimp only
        rw [if_neg (show ¬ zsm N tx p < 48 by rw [q_lt, e48]; unfold dg at c; omega), p_byte ht.1, Option.bind_some]
        dsimp only
        rw [if_neg (show ¬ 57 < zsm N tx p by rw [q_lt, e57]; unfold dg at c; omega), p_byte ht.1, Option.bind_some]
        dsimp only
        rw [v2, nI_1]
        exact f1
    · have hi0 : 0 < i := hd.resolve_right c
      have c' : ¬ (48 ≤ (zsc N tx p).toInt ∧ (zsc N tx p).toInt ≤ 57) := fun h => c (dg_sc.mp h)
      obtain ⟨s', z1, z2, z3, z4⟩ := p_step hs hk (nI a)
      refine ⟨s', p, a, ?_, z2, z3, Nat.le_refl _, fun h => absurd h (by omega), z4, ha4, fun t ht => ⟨t, num_end ht (Or.inr ⟨hi0, c⟩) (by omega), zMf_r t, ht⟩⟩
      rw [hG0, q01_f c', if_pos rfl, z1, Option.bind_some, zbo_1, Option.bind_some]
