/-! OPS 13: share -/
theorem zdvl_at {a b : Nat} (ha : a < 2 ^ 63) (h0 : 0 < b) (hb : b < 2 ^ 63) : zdvl (lN a) (lN b) = some (lN (a / b)) := by
  unfold zdvl
  rw [if_neg (by rw [n64_inj, y_lI hb, k0]; omega), pk_lDiv ha h0 hb]
theorem share_fin {A : Int64} {b : Nat} (hA : A.toInt.natAbs < 2 ^ 62) (hb : 1 ≤ b) (hb2 : b < 2 ^ 62) {p : Int32} (hp : 0 ≤ p.toInt ∧ p.toInt ≤ 1) (s t : zSt) :
    ∃ r, (if p = 0 then (f_su_divisor A (lN b) s).bind fun x6 => (zdvl A x6.1).bind fun x7 => some ((x7 : Int64).toInt32, x6.2) else (f_su_divisor A (lN b) s).bind fun x8 => (zdvl (lN b) x8.1).bind fun x9 => some ((x9 : Int64).toInt32, x8.2)) = some (r, s) ∧
      (f_m_partOf A (lN b) p t).bind (fun x5 => some ((x5.1 : Int64).toInt32, x5.2)) = some (r, t) ∧ (A = 0 → r = p) := by
  obtain ⟨e1, e2⟩ := div_common hA hb hb2 s t
  have hg : 0 < Nat.gcd b A.toInt.natAbs := Nat.gcd_pos_of_pos_left _ hb
  have hg2 : Nat.gcd b A.toInt.natAbs ≤ b := Nat.gcd_le_left _ hb
  have nz : ¬ lN (Nat.gcd b A.toInt.natAbs) = 0 := by rw [n64_inj, y_lI (by omega), k0]; omega
  obtain ⟨p, hp1, rfl⟩ := q_ix (x := p) (n := 1) hp
  rw [e1]
  rw [Option.bind_some, Option.bind_some]
  by_cases hz : A = 0
  · have em : f_m_partOf A (lN b) (nI p) t = some ((nI p : Int32).toInt64, t) := by
      unfold f_m_partOf
      rw [if_pos ((q_cmp_0 _).mpr hz)]
    have eg : Nat.gcd b A.toInt.natAbs = b := by
      rw [hz, k0]
      exact Nat.gcd_zero_right b
    rw [em, eg, Option.bind_some, hz, show (0 : Int64) = lN 0 from rfl, zdvl_at (by omega) (by omega) (by omega), zdvl_at (by omega) (by omega) (by omega), Nat.zero_div, Nat.div_self (by omega)]
    match p, hp1 with
    | 0, _ => exact ⟨0, rfl, rfl, fun _ => rfl⟩
    | 1, _ => exact ⟨1, rfl, rfl, fun _ => rfl⟩
  · have em : f_m_partOf A (lN b) (nI p) t = if nI p = 0 then (zdvl A (lN (Nat.gcd b A.toInt.natAbs))).bind fun x2 => some (x2, t) else (zdvl (lN b) (lN (Nat.gcd b A.toInt.natAbs))).bind fun x3 => some (x3, t) := by
      unfold f_m_partOf
      rw [if_neg (fun z => hz ((q_cmp_0 _).mp z)), e2, Option.bind_some]
    unfold zdvl at em ⊢
    rw [if_neg nz, if_neg nz] at em
    rw [if_neg nz, if_neg nz]
    match p, hp1 with
    | 0, _ =>
      rw [if_pos (by rfl)] at em
      rw [if_pos (by rfl)]
      rw [em]
      exact ⟨_, rfl, rfl, fun z => absurd z hz⟩
    | 1, _ =>
      rw [if_neg (by decide)] at em
      rw [if_neg (by decide)]
      rw [em]
      exact ⟨_, rfl, rfl, fun z => absurd z hz⟩
theorem adds_eq {s t : zSt} (g : ∀ j, j < 8 → s.1 30 j = t.1 17 j) {w : Nat} (hw : w < 3) : ∃ r, f_th_addedInAllOrders (nI w) s = some (r, s) ∧ f_m_addsOf (nI w) t = some (r, t) := by
  have ek : ∀ x1 x2 x3 x4 x5 x6 x7 : Int32, ((((((2 * x1) + x2) - x3) + x4) - x5) + (2 * (x6 - x7))) = (((2 * x1) + (((x2 - x3) + x4) - x5)) + (2 * (x6 - x7))) := by
    intro x1 x2 x3 x4 x5 x6 x7
    simp only [Int32.sub_eq_add_neg, Int32.add_assoc]
  have e1 := g 1 (by omega)
  have e2 := g 2 (by omega)
  have e3 := g 3 (by omega)
  have e4 := g 4 (by omega)
  have e5 := g 5 (by omega)
  have e6 := g 6 (by omega)
  have e7 := g 7 (by omega)
  unfold f_th_addedInAllOrders f_m_addsOf
  match w, hw with
  | 0, _ =>
    rw [show ((1 : Int32) <<< (nI 0 &&& 31)) = nI 1 from by decide, show ((1 : Int32) <<< ((zrem (nI 0 + 1) 3) &&& 31)) = nI 2 from by decide, show ((1 : Int32) <<< ((zrem (nI 0 + 2) 3) &&& 31)) = nI 4 from by decide, show nI 1 ||| nI 2 = nI 3 from by decide, show nI 1 ||| nI 4 = nI 5 from by decide, show nI 2 ||| nI 4 = nI 6 from by decide, show (7 : Int32) = nI 7 from rfl]
    simp only [zld_at (show 1 < 8 by omega) (show 8 < 2147483648 by omega), zld_at (show 2 < 8 by omega) (show 8 < 2147483648 by omega), zld_at (show 3 < 8 by omega) (show 8 < 2147483648 by omega), zld_at (show 4 < 8 by omega) (show 8 < 2147483648 by omega), zld_at (show 5 < 8 by omega) (show 8 < 2147483648 by omega), zld_at (show 6 < 8 by omega) (show 8 < 2147483648 by omega), zld_at (show 7 < 8 by omega) (show 8 < 2147483648 by omega), Option.bind_some, e1, e2, e3, e4, e5, e6, e7, ek]
    exact ⟨_, rfl, rfl⟩
  | 1, _ =>
    rw [show ((1 : Int32) <<< (nI 1 &&& 31)) = nI 2 from by decide, show ((1 : Int32) <<< ((zrem (nI 1 + 1) 3) &&& 31)) = nI 4 from by decide, show ((1 : Int32) <<< ((zrem (nI 1 + 2) 3) &&& 31)) = nI 1 from by decide, show nI 2 ||| nI 4 = nI 6 from by decide, show nI 2 ||| nI 1 = nI 3 from by decide, show nI 4 ||| nI 1 = nI 5 from by decide, show (7 : Int32) = nI 7 from rfl]
    simp only [zld_at (show 1 < 8 by omega) (show 8 < 2147483648 by omega), zld_at (show 2 < 8 by omega) (show 8 < 2147483648 by omega), zld_at (show 3 < 8 by omega) (show 8 < 2147483648 by omega), zld_at (show 4 < 8 by omega) (show 8 < 2147483648 by omega), zld_at (show 5 < 8 by omega) (show 8 < 2147483648 by omega), zld_at (show 6 < 8 by omega) (show 8 < 2147483648 by omega), zld_at (show 7 < 8 by omega) (show 8 < 2147483648 by omega), Option.bind_some, e1, e2, e3, e4, e5, e6, e7, ek]
    exact ⟨_, rfl, rfl⟩
  | 2, _ =>
    rw [show ((1 : Int32) <<< (nI 2 &&& 31)) = nI 4 from by decide, show ((1 : Int32) <<< ((zrem (nI 2 + 1) 3) &&& 31)) = nI 1 from by decide, show ((1 : Int32) <<< ((zrem (nI 2 + 2) 3) &&& 31)) = nI 2 from by decide, show nI 4 ||| nI 1 = nI 5 from by decide, show nI 4 ||| nI 2 = nI 6 from by decide, show nI 1 ||| nI 2 = nI 3 from by decide, show (7 : Int32) = nI 7 from rfl]
    simp only [zld_at (show 1 < 8 by omega) (show 8 < 2147483648 by omega), zld_at (show 2 < 8 by omega) (show 8 < 2147483648 by omega), zld_at (show 3 < 8 by omega) (show 8 < 2147483648 by omega), zld_at (show 4 < 8 by omega) (show 8 < 2147483648 by omega), zld_at (show 5 < 8 by omega) (show 8 < 2147483648 by omega), zld_at (show 6 < 8 by omega) (show 8 < 2147483648 by omega), zld_at (show 7 < 8 by omega) (show 8 < 2147483648 by omega), Option.bind_some, e1, e2, e3, e4, e5, e6, e7, ek]
    exact ⟨_, rfl, rfl⟩
theorem q_abs32 (x : Int32) : (x.toInt64).toInt.natAbs < 2 ^ 62 := by
  rw [Int32.toInt_toInt64]
  have := q_rng x
  omega
theorem op_share {s t : zSt} (h : yR s t) (a b c : Int32) : yOp (f_g_share a b c) (f_m_share a b c) s t := by
  obtain ⟨-, -, -, -, -, -, -, ⟨g1, g2, g3, g4, g5⟩, -⟩ := id h
  by_cases ha : 0 ≤ a.toInt ∧ a.toInt ≤ 2
  · by_cases hb : 0 ≤ b.toInt ∧ b.toInt ≤ 2
    · by_cases hc : 0 ≤ c.toInt ∧ c.toInt ≤ 1
      · have hG : f_g_share a b c s = (f_th_above a b s).bind fun x4 => (f_th_below b x4.2).bind fun x5 => if c = 0 then (f_su_divisor (x4.1 : Int32).toInt64 (x5.1 : Int32).toInt64 x5.2).bind fun x6 => (zdvl (x4.1 : Int32).toInt64 x6.1).bind fun x7 => some ((x7 : Int64).toInt32, x6.2) else (f_su_divisor (x4.1 : Int32).toInt64 (x5.1 : Int32).toInt64 x5.2).bind fun x8 => (zdvl (x5.1 : Int32).toInt64 x8.1).bind fun x9 => some ((x9 : Int64).toInt32, x8.2) := by
          unfold f_g_share
          rw [p_isWithin, Option.bind_some, l0, l2, q01_t ha, if_neg q_neg10', p_isWithin, Option.bind_some, l0, l2, q01_t hb, if_neg q_neg10', p_isWithin, Option.bind_some, l0, l1, q01_t hc, if_neg q_neg10']
        have hM : f_m_share a b c t = if b = 0 then (zld t 17 8 7).bind fun x4 => (f_m_partOf (x4 : Int32).toInt64 (3) c t).bind fun x5 => some ((x5.1 : Int64).toInt32, x5.2) else if b = 2 then (f_m_addsOf a t).bind fun x6 => (f_m_partOf (x6.1 : Int32).toInt64 (6) c x6.2).bind fun x7 => some ((x7.1 : Int64).toInt32, x7.2) else (zld t 18 3 0).bind fun x8 => (zld t 18 3 1).bind fun x9 => (zld t 18 3 2).bind fun x10 => if ((x8 + x9) + x10) = 0 then some (((c : Int32).toInt64 : Int64).toInt32, t) else (zld t 17 8 7).bind fun x11 => (zld t 18 3 a).bind fun x12 => (f_m_partOf ((x11 : Int32).toInt64 * (x12 : Int32).toInt64) (((x8 + x9) + x10) : Int32).toInt64 c t).bind fun x13 => some ((x13.1 : Int64).toInt32, x13.2) := by
          unfold f_m_share
          rw [p_within, Option.bind_some, Int32.toInt_toInt64, k0, k2, q01_t ha, if_neg q_neg10', p_within, Option.bind_some, Int32.toInt_toInt64, k0, k2, q01_t hb, if_neg q_neg10', p_within, Option.bind_some, Int32.toInt_toInt64, k0, k1, q01_t hc, if_neg q_neg10']
        obtain ⟨w, hw, rfl⟩ := q_ix (x := a) (n := 2) ha
        obtain ⟨k, hk, rfl⟩ := q_ix (x := b) (n := 2) hb
        have z7s : zld s 30 8 7 = some (t.1 17 7) := by
          rw [show (7 : Int32) = nI 7 from rfl, zld_at (show 7 < 8 by omega) (by omega), g1 7 (by omega)]
        have z7t : zld t 17 8 7 = some (t.1 17 7) := by
          rw [show (7 : Int32) = nI 7 from rfl, zld_at (show 7 < 8 by omega) (by omega)]
        match k, hk with
        | 0, _ =>
          obtain ⟨r, r1, r2, -⟩ := share_fin (A := (t.1 17 7 : Int32).toInt64) (b := 3) (q_abs32 _) (by omega) (by omega) hc s t
          refine yOp_same r ?_ ?_ h
          · rw [hG]
            unfold f_th_above f_th_below
            rw [if_pos (by rfl), z7s, Option.bind_some, Option.bind_some, if_pos (by rfl), Option.bind_some]
            exact r1
          · rw [hM, if_pos (by rfl), z7t, Option.bind_some]
            exact r2
        | 2, _ =>
          obtain ⟨q, q1, q2⟩ := adds_eq g1 (w := w) (by omega)
          obtain ⟨r, r1, r2, -⟩ := share_fin (A := (q : Int32).toInt64) (b := 6) (q_abs32 _) (by omega) (by omega) hc s t
          refine yOp_same r ?_ ?_ h
          · rw [hG]
            unfold f_th_above f_th_below
            rw [if_neg (by decide), if_neg (by decide), q1, Option.bind_some, Option.bind_some, if_neg (by decide), if_neg (by decide), Option.bind_some]
            exact r1
          · rw [hM, if_neg (by decide), if_pos (by rfl), q2, Option.bind_some]
            exact r2
        | 1, _ =>
          obtain ⟨u0, v0, e0⟩ := q_ix (x := s.1 31 0) (n := 600) (by rw [g4 0 (by omega)]; exact g5 0 (by omega))
          obtain ⟨u1, v1, e1⟩ := q_ix (x := s.1 31 1) (n := 600) (by rw [g4 1 (by omega)]; exact g5 1 (by omega))
          obtain ⟨u2, v2, e2⟩ := q_ix (x := s.1 31 2) (n := 600) (by rw [g4 2 (by omega)]; exact g5 2 (by omega))
          obtain ⟨uw, vw, ew⟩ := q_ix (x := s.1 31 w) (n := 600) (by rw [g4 w (by omega)]; exact g5 w (by omega))
          obtain ⟨u7, v7, e7⟩ := q_ix (x := t.1 17 7) (n := 999) (g2 7 (by omega))
          have hprod : u7 * uw ≤ 999 * 600 := Nat.mul_le_mul v7 vw
          have hG2 : f_g_share (nI w) (nI 1) c s = if c = 0 then (f_su_divisor (nI (u7 * uw) : Int32).toInt64 (zmax 1 (nI (u0 + u1 + u2)) : Int32).toInt64 s).bind fun x6 => (zdvl (nI (u7 * uw) : Int32).toInt64 x6.1).bind fun x7 => some ((x7 : Int64).toInt32, x6.2) else (f_su_divisor (nI (u7 * uw) : Int32).toInt64 (zmax 1 (nI (u0 + u1 + u2)) : Int32).toInt64 s).bind fun x8 => (zdvl (zmax 1 (nI (u0 + u1 + u2)) : Int32).toInt64 x8.1).bind fun x9 => some ((x9 : Int64).toInt32, x8.2) := by
            rw [hG]
            unfold f_th_above f_th_below
            rw [if_neg (by decide), if_pos (by rfl), z7s, Option.bind_some, zld_at (show w < 3 by omega) (by omega), Option.bind_some, Option.bind_some, if_neg (by decide), if_pos (by rfl)]
            dsimp only
            rw [show zld s 31 3 0 = some (s.1 31 0) from zld_at (j := 0) (by omega) (by omega), Option.bind_some, show zld s 31 3 1 = some (s.1 31 1) from zld_at (j := 1) (by omega) (by omega), Option.bind_some, show zld s 31 3 2 = some (s.1 31 2) from zld_at (j := 2) (by omega) (by omega), Option.bind_some, Option.bind_some, e0, e1, e2, ew, e7, pk_mul, nI_add, nI_add]
          have hM2 : f_m_share (nI w) (nI 1) c t = if nI (u0 + u1 + u2) = 0 then some (((c : Int32).toInt64 : Int64).toInt32, t) else (f_m_partOf ((nI u7 : Int32).toInt64 * (nI uw : Int32).toInt64) (nI (u0 + u1 + u2) : Int32).toInt64 c t).bind fun x13 => some ((x13.1 : Int64).toInt32, x13.2) := by
            rw [hM, if_neg (by decide), if_neg (by decide), show zld t 18 3 0 = some (t.1 18 0) from zld_at (j := 0) (by omega) (by omega), Option.bind_some, show zld t 18 3 1 = some (t.1 18 1) from zld_at (j := 1) (by omega) (by omega), Option.bind_some, show zld t 18 3 2 = some (t.1 18 2) from zld_at (j := 2) (by omega) (by omega), Option.bind_some, z7t, Option.bind_some, zld_at (show w < 3 by omega) (by omega), Option.bind_some, ← g4 0 (by omega), ← g4 1 (by omega), ← g4 2 (by omega), ← g4 w (by omega), e0, e1, e2, ew, e7, nI_add, nI_add]
          have eA : (nI u7 : Int32).toInt64 * (nI uw : Int32).toInt64 = lN (u7 * uw) := by
            rw [nI_l (by omega), nI_l (by omega), lN_mul]
          have eA2 : (nI (u7 * uw) : Int32).toInt64 = lN (u7 * uw) := nI_l (by omega)
          have hab : (lN (u7 * uw)).toInt.natAbs < 2 ^ 62 := by rw [y_lI (by omega)]; omega
          by_cases hs : u0 + u1 + u2 = 0
          · have huw : uw = 0 := by
              have : s.1 31 w = nI 0 := by
                match w, hw with
                | 0, _ => rw [e0]; congr 1; omega
                | 1, _ => rw [e1]; congr 1; omega
                | 2, _ => rw [e2]; congr 1; omega
              exact (nI_eq (by omega) (by omega)).mp (ew.symm.trans this)
            rw [hs] at hG2 hM2
            rw [if_pos (by rfl)] at hM2
            rw [huw, Nat.mul_zero] at hG2
            obtain ⟨r, r1, r2, r3⟩ := share_fin (A := lN 0) (b := 1) (by decide) (by omega) (by omega) hc s t
            refine yOp_same r ?_ ?_ h
            · rw [hG2]; exact r1
            · rw [hM2, r3 rfl]
              simp
          · have em : zmax 1 (nI (u0 + u1 + u2)) = nI (u0 + u1 + u2) := by
              unfold zmax
              by_cases z : (1 : Int32) < nI (u0 + u1 + u2)
              · rw [if_pos z]
              · rw [if_neg z]
                have : u0 + u1 + u2 = 1 := by
                  rw [q_lt, q_nI (by omega), l1] at z
                  omega
                rw [this]
                rfl
            rw [em, eA2, nI_l (by omega)] at hG2
            rw [if_neg (show ¬ nI (u0 + u1 + u2) = (0 : Int32) from q_ne (b := 0) (by omega) (by omega) hs), eA, nI_l (by omega)] at hM2
            obtain ⟨r, r1, r2, -⟩ := share_fin (A := lN (u7 * uw)) (b := u0 + u1 + u2) hab (by omega) (by omega) hc s t
            exact yOp_same r (by rw [hG2]; exact r1) (by rw [hM2]; exact r2) h
      · refine yOp_same (-2000000000) ?_ ?_ h
        · unfold f_g_share
          rw [p_isWithin, Option.bind_some, l0, l2, q01_t ha, if_neg q_neg10', p_isWithin, Option.bind_some, l0, l2, q01_t hb, if_neg q_neg10', p_isWithin, Option.bind_some, l0, l1, q01_f hc, if_pos rfl]
        · unfold f_m_share
          rw [p_within, Option.bind_some, Int32.toInt_toInt64, k0, k2, q01_t ha, if_neg q_neg10', p_within, Option.bind_some, Int32.toInt_toInt64, k0, k2, q01_t hb, if_neg q_neg10', p_within, Option.bind_some, Int32.toInt_toInt64, k0, k1, q01_f hc, if_pos rfl]
    · refine yOp_same (-2000000000) ?_ ?_ h
      · unfold f_g_share
        rw [p_isWithin, Option.bind_some, l0, l2, q01_t ha, if_neg q_neg10', p_isWithin, Option.bind_some, l0, l2, q01_f hb, if_pos rfl]
      · unfold f_m_share
        rw [p_within, Option.bind_some, Int32.toInt_toInt64, k0, k2, q01_t ha, if_neg q_neg10', p_within, Option.bind_some, Int32.toInt_toInt64, k0, k2, q01_f hb, if_pos rfl]
  · refine yOp_same (-2000000000) ?_ ?_ h
    · unfold f_g_share
      rw [p_isWithin, Option.bind_some, l0, l2, q01_f ha, if_pos rfl]
    · unfold f_m_share
      rw [p_within, Option.bind_some, Int32.toInt_toInt64, k0, k2, q01_f ha, if_pos rfl]
