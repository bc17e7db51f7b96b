/-! LAW 2: law -/
theorem vRun_st {nm st st' : Nat → Int32} : ∀ (m i : Nat) (S : List Int32), (∀ j, i ≤ j → j < i + m → st j = st' j) → vRun nm st m i S = vRun nm st' m i S := by
  intro m
  induction m with
  | zero => intro i S _; rfl
  | succ m ih =>
    intro i S h
    rw [vRun_s, vRun_s, h i (Nat.le_refl _) (by omega), show (fun S => vRun nm st m (i + 1) S) = (fun S => vRun nm st' m (i + 1) S) from funext (fun S => ih (i + 1) S (fun j j1 j2 => h j (by omega) (by omega)))]
def zBc (s : zSt) (o k : Nat) : zSt := zw (zcps (zw s o 2 (nI k)) 15 (o + 1) 0 0 k) o 3 1
theorem p_becomes {s : zSt} {o k : Nat} (hk : k ≤ 121) (h : s.1 13 3 = nI k) : f_lw_become o s = some (zBc s o k) := by
  have hz : zmin (nI k) 121 = nI k := by
    unfold zmin
    rw [if_neg (show ¬ (121 : Int32) < nI k from nI_nlt (a := 121) (b := k) hk (by omega))]
  have hc : zcp (zw s o 2 (nI k)) 15 121 (o + 1) 121 0 0 (nI k) = some (zcps (zw s o 2 (nI k)) 15 (o + 1) 0 0 k) := zcp_at _ (a := 0) (b := 0) (by omega) (by omega) (by omega) (by omega)
  unfold f_lw_become
  rw [h, hz, Option.bind_some, zw_v, hc, Option.bind_some, Option.bind_some]
  rfl
theorem g_becomes {s : zSt} {w k : Nat} (hw : w < 2) (hk : k ≤ 121) (h : s.1 13 3 = nI k) : f_ls_become (nI w) s = some (zBc s (17 + 3 * w) k) := by
  unfold f_ls_become
  rcases (show w = 0 ∨ w = 1 by omega) with rfl | rfl
  · rw [if_pos (show nI 0 = (0 : Int32) from rfl), p_becomes hk h, Option.bind_some]
  · rw [if_neg (by decide), p_becomes hk h, Option.bind_some]
theorem zBc_n {s : zSt} {o k a : Nat} (h1 : a ≠ o) (h2 : a ≠ o + 1) : (zBc s o k).1 a = s.1 a := by
  unfold zBc
  rw [zw_e h1]
  show (if a = o + 1 then _ else (zw s o 2 (nI k)).1 a) = s.1 a
  rw [if_neg h2, zw_e h1]
theorem zBc_2 {s : zSt} {o k : Nat} : (zBc s o k).1 o 2 = nI k := by
  unfold zBc
  rw [zw_o, if_neg (by omega)]
  show (if o = o + 1 then _ else (zw s o 2 (nI k)).1 o) 2 = nI k
  rw [if_neg (by omega), zw_o, if_pos rfl]
theorem zBc_3 {s : zSt} {o k : Nat} : (zBc s o k).1 o 3 = 1 := by
  unfold zBc
  rw [zw_o, if_pos rfl]
theorem zBc_s {s : zSt} {o k j : Nat} (ho : o ≠ 15) (hj : j < k) : (zBc s o k).1 (o + 1) j = s.1 15 j := by
  unfold zBc
  rw [zw_e (by omega)]
  show (if o + 1 = o + 1 then va_cpy ((zw s o 2 (nI k)).1 15) ((zw s o 2 (nI k)).1 (o + 1)) 0 0 k else (zw s o 2 (nI k)).1 (o + 1)) j = s.1 15 j
  rw [if_pos rfl]
  show (if 0 ≤ j ∧ j < 0 + k then (zw s o 2 (nI k)).1 15 (0 + (j - 0)) else _) = s.1 15 j
  rw [if_pos (by omega), zw_e (show 15 ≠ o by omega), show 0 + (j - 0) = j by omega]
theorem op_law {s t : zSt} (h : yR s t) (a : Int32) : yOp (f_g_law a) (f_m_law a) s t := by
  have hzF := zFu_big
  obtain ⟨-, -, -, ⟨N, hN, n1, n2, n3⟩, L0, L1, -⟩ := id h
  unfold yOp f_g_law f_m_law
  rw [p_isWithin, Option.bind_some, p_within, Option.bind_some, Int32.toInt_toInt64, l0, l1, k0, k1]
  by_cases c : 0 ≤ a.toInt ∧ a.toInt ≤ 1
  · rw [q01_t c, if_neg q_neg10', if_neg q_neg10']
    dsimp only
    obtain ⟨w, hw', rfl⟩ := q_ix (n := 1) c
    have hw : w < 2 := by omega
    obtain ⟨r, s1, k, e1, e2, e3, e4, e5, e6⟩ := read_all hN n1 (fun j hj => by
      obtain ⟨m1, c, m2, m3⟩ := n3 j hj
      exact ⟨c, m2, m1.trans m3⟩)
    have tape : yBa N (s.1 14) (-1) t := Or.inl ⟨rfl, fun j hj => ((n3 j hj).1).symm⟩
    rw [e1, Option.bind_some, n2]
    dsimp only
    rcases e6 with ⟨rfl, e7⟩ | ⟨p, p1, rfl, e7⟩
    · obtain ⟨t2, f1, f2, f3⟩ := e7 t (-1) tape
      rw [if_neg (by decide), g_becomes hw e5 e4, Option.bind_some, f1, Option.bind_some]
      dsimp only
      have F17 : (zw t2 0 11 0).1 0 17 = -1 := by rw [zw_o, if_neg (by omega)]; exact f3
      have F11 : t2.1 0 11 = nI N := by rw [f2.2.2 11 (by omega)]; exact n2
      have hcp := law_copy hw hN (zw t2 0 11 0) N 0 zFu (by omega) (by omega)
      rw [zc9_0, show nI 0 = (0 : Int32) from rfl] at hcp
      rw [F17, if_pos (by decide), F11, hcp]
      unfold f_g_law_35 f_tp_clear
      rw [Option.bind_some, if_neg (by decide)]
      refine ⟨1, _, _, rfl, rfl, ?_⟩
      have T9 : ∀ j, (zw (zc9 (zw t2 0 11 0) w N) 10 w (nI N)).1 9 j = if 120 * w ≤ j ∧ j < 120 * w + N then t.1 8 (j - 120 * w) else t.1 9 j := by
        intro j
        rw [zw_e (by omega)]
        show (if 120 * w ≤ j ∧ j < 120 * w + N then (zw t2 0 11 0).1 8 (j - 120 * w) else (zw t2 0 11 0).1 9 j) = _
        rw [zw_e (by omega), zw_e (by omega), f2.2.1 8 (by omega), f2.2.1 9 (by omega)]
      have T10 : ∀ j, (zw (zc9 (zw t2 0 11 0) w N) 10 w (nI N)).1 10 j = if j = w then nI N else t.1 10 j := by
        intro j
        rw [zw_o]
        show (if j = w then nI N else (zw t2 0 11 0).1 10 j) = _
        rw [zw_e (by omega), f2.2.1 10 (by omega)]
      have TA : ∀ b, b ≠ 0 → b ≠ 9 → b ≠ 10 → (zw (zc9 (zw t2 0 11 0) w N) 10 w (nI N)).1 b = t.1 b := by
        intro b b1 b2 b3
        rw [zw_e b3]
        show (if b = 9 then _ else (zw t2 0 11 0).1 b) = _
        rw [if_neg b2, zw_e b1, f2.2.1 b b1]
      have T0 : ∀ j, (zw (zc9 (zw t2 0 11 0) w N) 10 w (nI N)).1 0 j = if j = 11 then 0 else t2.1 0 j := by
        intro j
        rw [zw_e (by omega)]
        show (zw t2 0 11 0).1 0 j = _
        rw [zw_o]
      have SA : ∀ b, b ≠ 13 → b ≠ 15 → b ≠ 17 + 3 * w → b ≠ 18 + 3 * w → (zw (zBc s1 (17 + 3 * w) k) 13 1 0).1 b = s.1 b := by
        intro b b1 b2 b3 b4
        rw [zw_e b1, zBc_n b3 (by omega), e3 b b1 b2]
      have SO : ∀ b, b = 17 + 3 * w ∨ b = 18 + 3 * w → (zw (zBc s1 (17 + 3 * w) k) 13 1 0).1 b = (zBc s1 (17 + 3 * w) k).1 b := fun b hb => by rw [zw_e (by omega)]
      have new : yRL1 w ((zw (zBc s1 (17 + 3 * w) k) 13 1 0).1 (17 + 3 * w) 2) ((zw (zBc s1 (17 + 3 * w) k) 13 1 0).1 (17 + 3 * w) 3) ((zw (zBc s1 (17 + 3 * w) k) 13 1 0).1 (18 + 3 * w)) ((zw (zc9 (zw t2 0 11 0) w N) 10 w (nI N)).1 10 w) ((zw (zc9 (zw t2 0 11 0) w N) 10 w (nI N)).1 9) := by
        rw [SO _ (Or.inl rfl), SO _ (Or.inr rfl), zBc_2, zBc_3, T10, if_pos rfl]
        refine Or.inr ⟨rfl, N, k, hN, rfl, e5, rfl, fun u hu => ?_⟩
        obtain ⟨u', g1, g2, g3⟩ := e7 u (nI (120 * w)) (Or.inr ⟨w, hw, rfl, fun j hj => by
          rw [hu j hj, T9, if_pos (by omega), show 120 * w + j - 120 * w = j by omega]
          exact ((n3 j hj).1).symm⟩)
        refine ⟨u', ?_, g2.2.1, g2.1, fun j hj => g2.2.2 j hj⟩
        rw [g1, vRun_st (st := (zBc s1 (17 + 3 * w) k).1 (18 + 3 * w)) (st' := s1.1 15) k 0 [] (fun j _ hj => by
          have := zBc_s (s := s1) (o := 17 + 3 * w) (k := k) (j := j) (by omega) (by omega)
          rw [show 17 + 3 * w + 1 = 18 + 3 * w by omega] at this
          exact this)]
      refine yR_law h hw (show s1.2 = s.2 from e2) f2.1 SA (by rw [zw_o, if_pos rfl]) TA (fun j j1 j2 => by rw [T0, if_neg j1, f2.2.2 j j2]) (by rw [T0, if_pos rfl]) ?_ ?_
      · rcases (show w = 0 ∨ w = 1 by omega) with rfl | rfl
        · exact new
        · rw [SA 17 (by omega) (by omega) (by omega) (by omega), SA 18 (by omega) (by omega) (by omega) (by omega), T10, if_neg (by omega)]
          exact yRL1_cg L0 (fun j hj => by rw [T9, if_neg (by omega)])
      · rcases (show w = 0 ∨ w = 1 by omega) with rfl | rfl
        · rw [SA 20 (by omega) (by omega) (by omega) (by omega), SA 21 (by omega) (by omega) (by omega) (by omega), T10, if_neg (by omega)]
          exact yRL1_cg L1 (fun j hj => by rw [T9, if_neg (by omega)])
        · exact new
    · obtain ⟨v, t2, f1, f2, f3⟩ := e7 t (-1) tape
      have hp : (0 : Int32) ≤ nI p := nI_pos' (by omega)
      rw [if_pos hp, f1, Option.bind_some]
      dsimp only
      have F17 : (zw t2 0 11 0).1 0 17 = nI p := by rw [zw_o, if_neg (by omega)]; exact f3
      rw [F17, if_neg (show ¬ nI p < 0 from nI_pos (by omega))]
      unfold f_g_law_35 f_tp_clear
      rw [Option.bind_some, if_pos hp]
      refine ⟨-100 - nI p, _, _, rfl, rfl, ?_⟩
      have SA : ∀ b, b ≠ 13 → b ≠ 15 → (zw s1 13 1 0).1 b = s.1 b := fun b b1 b2 => by rw [zw_e b1, e3 b b1 b2]
      have TA : ∀ b, b ≠ 0 → (zw t2 0 11 0).1 b = t.1 b := fun b b1 => by rw [zw_e b1, f2.2.1 b b1]
      refine yR_law h hw e2 f2.1 (fun b b1 b2 _ _ => SA b b1 b2) (by rw [zw_o, if_pos rfl]) (fun b b1 _ _ => TA b b1) (fun j j1 j2 => by rw [zw_o, if_neg j1, f2.2.2 j j2]) (by rw [zw_o, if_pos rfl]) ?_ ?_
      · rw [SA 17 (by omega) (by omega), SA 18 (by omega) (by omega), TA 10 (by omega), TA 9 (by omega)]; exact L0
      · rw [SA 20 (by omega) (by omega), SA 21 (by omega) (by omega), TA 10 (by omega), TA 9 (by omega)]; exact L1
  · rw [q01_f c, if_pos rfl, if_pos rfl]
    exact ⟨-1, s, t, rfl, rfl, h⟩
