/-! OPS 10: shift, heats -/
/-- the reference's row carried: the first i longs from place b on -/
def zca (t : zSt) (b i : Nat) : zSt := (t.1, fun a => if a = 29 then (fun k => if k < i then t.2 28 (b + k) else t.2 29 k) else t.2 a)
theorem zca_0 (t : zSt) (b : Nat) : zca t b 0 = t := by
  have : (fun a => if a = 29 then (fun k => if k < 0 then t.2 28 (b + k) else t.2 29 k) else t.2 a) = t.2 := by
    funext a
    by_cases h : a = 29
    · subst h
      funext k
      rw [if_pos rfl, if_neg (by omega)]
    · rw [if_neg h]
  show (t.1, _) = t
  rw [this]
theorem zca_s (t : zSt) (b i : Nat) : zwl (zca t b i) 29 i (t.2 28 (b + i)) = zca t b (i + 1) := by
  show (t.1, _) = (t.1, _)
  congr 1
  funext a
  by_cases e : a = 29
  · subst e
    funext k
    simp only [if_true, zca, vp_updL]
    by_cases e2 : k = i
    · subst e2; rw [if_pos rfl, if_pos (by omega)]
    · rw [if_neg e2]
      by_cases e3 : k < i
      · rw [if_pos e3, if_pos (by omega)]
      · rw [if_neg e3, if_neg (by omega)]
  · simp only [zca, if_neg e]
/-- and laid down again from place c on -/
def zla2 (t : zSt) (c i : Nat) : zSt := (t.1, fun a => if a = 28 then (fun k => if c ≤ k ∧ k < c + i then t.2 29 (k - c) else t.2 28 k) else t.2 a)
theorem zla2_0 (t : zSt) (c : Nat) : zla2 t c 0 = t := by
  have : (fun a => if a = 28 then (fun k => if c ≤ k ∧ k < c + 0 then t.2 29 (k - c) else t.2 28 k) else t.2 a) = t.2 := by
    funext a
    by_cases h : a = 28
    · subst h
      funext k
      rw [if_pos rfl, if_neg (by omega)]
    · rw [if_neg h]
  show (t.1, _) = t
  rw [this]
theorem zla2_s (t : zSt) (c i : Nat) : zwl (zla2 t c i) 28 (c + i) (t.2 29 i) = zla2 t c (i + 1) := by
  show (t.1, _) = (t.1, _)
  congr 1
  funext a
  by_cases e : a = 28
  · subst e
    funext k
    simp only [if_true, zla2, vp_updL]
    by_cases e2 : k = c + i
    · subst e2; rw [if_pos rfl, if_pos (by omega), Nat.add_sub_cancel_left]
    · rw [if_neg e2]
      by_cases e3 : c ≤ k ∧ k < c + i
      · rw [if_pos e3, if_pos (by omega)]
      · rw [if_neg e3, if_neg (by omega)]
  · simp only [zla2, if_neg e]
theorem shift_l2 {j p N : Nat} (hN : 60 * j + p + N ≤ 360) (hN6 : N ≤ 60) (t : zSt) : ∀ (m i n : Nat), i + m = N → m < n → f_m_shift_150 n (nI j) (nI p) (nI N) (nI i) (zla2 t (60 * j + p) i) = some (nI N, zla2 t (60 * j + p) N) := by
  intro m
  induction m with
  | zero =>
    intro i n hi hn
    obtain ⟨n, rfl⟩ : ∃ x, n = x + 1 := ⟨n - 1, by omega⟩
    have e : i = N := by omega
    subst e
    unfold f_m_shift_150
    rw [if_pos (nI_le (Nat.le_refl _) (by omega))]
  | succ m ih =>
    intro i n hi hn
    obtain ⟨n, rfl⟩ : ∃ x, n = x + 1 := ⟨n - 1, by omega⟩
    unfold f_m_shift_150
    rw [if_neg (nI_ge (by omega) (by omega)), zldl_at (show i < 60 by omega) (by omega)]
    simp only [Option.bind_some]
    rw [show (60 : Int32) = nI 60 from rfl, pk_mul, nI_add, nI_add, zstl_at (show 60 * j + p + i < 360 by omega) (by omega)]
    simp only [Option.bind_some, nI_1]
    have e : (zla2 t (60 * j + p) i).2 29 i = t.2 29 i := rfl
    rw [e, zla2_s]
    exact ih (i + 1) n (by omega) (by omega)
theorem shift_l1 {j0 p0 j p N : Nat} (h0 : 60 * j0 + p0 + N ≤ 360) (hN : 60 * j + p + N ≤ 360) (hN6 : N ≤ 60) (t : zSt) : ∀ (m i n : Nat), i + m = N → m < n → f_m_shift_113 n (nI j0) (nI p0) (nI j) (nI p) (nI N) (nI i) (zca t (60 * j0 + p0) i) = some (nI N, zla2 (zca t (60 * j0 + p0) N) (60 * j + p) N) := by
  intro m
  induction m with
  | zero =>
    intro i n hi hn
    obtain ⟨n, rfl⟩ : ∃ x, n = x + 1 := ⟨n - 1, by omega⟩
    have e : i = N := by omega
    subst e
    unfold f_m_shift_113
    rw [if_pos (nI_le (Nat.le_refl _) (by omega))]
    have := shift_l2 (j := j) (p := p) hN hN6 (zca t (60 * j0 + p0) i) i 0 zFu (by omega) (by have := zFu_big; omega)
    rw [zla2_0] at this
    exact this
  | succ m ih =>
    intro i n hi hn
    obtain ⟨n, rfl⟩ : ∃ x, n = x + 1 := ⟨n - 1, by omega⟩
    unfold f_m_shift_113
    rw [if_neg (nI_ge (by omega) (by omega)), show (60 : Int32) = nI 60 from rfl, pk_mul, nI_add, nI_add, zldl_at (show 60 * j0 + p0 + i < 360 by omega) (by omega)]
    simp only [Option.bind_some]
    rw [zstl_at (show i < 60 by omega) (by omega)]
    simp only [Option.bind_some, nI_1]
    have e : (zca t (60 * j0 + p0) i).2 28 (60 * j0 + p0 + i) = t.2 28 (60 * j0 + p0 + i) := rfl
    rw [e, zca_s]
    exact ih (i + 1) n (by omega) (by omega)
theorem zcpl_lit (s : zSt) {k0 n0 k1 n1 a b c : Nat} (ha : a + c ≤ n0) (hb : b + c ≤ n1) (h0 : n0 < 1000) (h1 : n1 < 1000) : zcpl s k0 n0 k1 n1 (nI a) (nI b) (nI c) = some (zcpsl s k0 k1 a b c) := by
  unfold zcpl
  rw [nI_clamp (show a < 2147483648 by omega), nI_clamp (show b < 2147483648 by omega), nI_clamp (show c < 2147483648 by omega), if_pos ⟨nI_pos (by omega), nI_pos (by omega), nI_pos (by omega), ha, hb⟩]
/-- the class's and the reference's row are shifted alike -/
theorem shift_rel {s t : zSt} (h : yR s t) {j0 j1 a b c k n0 n1 : Nat} (hj0 : j0 < 6) (hj1 : j1 < 6) (ha : a + c ≤ n0) (hb : b + c ≤ n1) (hn0 : n0 ≤ 60) (hn1 : n1 ≤ 60)
    (g0 : ∀ q, q < 60 → s.2 (40 + 2 * j0 + 1) q = t.2 28 (60 * j0 + q)) (r0 : k = 0 → ∀ q, q < n0 → -128 ≤ (t.2 28 (60 * j0 + q)).toInt ∧ (t.2 28 (60 * j0 + q)).toInt < 128)
    (hk : k < 5) (e3 : t.1 26 j1 = nI (50 + k)) (e4 : s.1 (40 + 2 * j1) 0 = -1) (e5 : s.1 (40 + 2 * j1) 1 = nI k) (e6 : s.1 (40 + 2 * j1) 2 = nI n1) (e7 : t.1 27 j1 = nI n1)
    (g1 : ∀ q, q < 60 → s.2 (40 + 2 * j1 + 1) q = t.2 28 (60 * j1 + q)) (r1 : k = 0 → ∀ q, q < n1 → -128 ≤ (t.2 28 (60 * j1 + q)).toInt ∧ (t.2 28 (60 * j1 + q)).toInt < 128) :
    yR (zcpsl s (40 + 2 * j0 + 1) (40 + 2 * j1 + 1) a b c) (zla2 (zca t (60 * j0 + a) c) (60 * j1 + b) c) := by
  have hT : ∀ q, (zla2 (zca t (60 * j0 + a) c) (60 * j1 + b) c).2 28 q = if 60 * j1 + b ≤ q ∧ q < 60 * j1 + b + c then t.2 28 (60 * j0 + a + (q - (60 * j1 + b))) else t.2 28 q := by
    intro q
    show (if 60 * j1 + b ≤ q ∧ q < 60 * j1 + b + c then (if q - (60 * j1 + b) < c then t.2 28 (60 * j0 + a + (q - (60 * j1 + b))) else t.2 29 (q - (60 * j1 + b))) else t.2 28 q) = _
    by_cases z : 60 * j1 + b ≤ q ∧ q < 60 * j1 + b + c
    · rw [if_pos z, if_pos z, if_pos (by omega)]
    · rw [if_neg z, if_neg z]
  refine yR_set h hj1 (fun x hx => rfl) (fun x hx => ?_) (fun x h1 h2 => rfl) (fun d hd => ⟨rfl, rfl⟩) (fun q hq => ?_) ?_
  · simp only [zcpsl, if_neg hx]
  · rw [hT, if_neg (by omega)]
  · refine Or.inr (Or.inr ⟨k, n1, hk, hn1, e3, e4, e5, e6, e7, fun q hq => ?_, fun hk0 q hq => ?_⟩)
    · show (if 40 + 2 * j1 + 1 = 40 + 2 * j1 + 1 then va_cpy (s.2 (40 + 2 * j0 + 1)) (s.2 (40 + 2 * j1 + 1)) a b c else s.2 (40 + 2 * j1 + 1)) q = (zla2 (zca t (60 * j0 + a) c) (60 * j1 + b) c).2 28 (60 * j1 + q)
      rw [hT, if_pos rfl]
      unfold va_cpy
      by_cases z : b ≤ q ∧ q < b + c
      · rw [if_pos z, if_pos (by omega), g0 _ (by omega)]
        rw [show 60 * j0 + a + (60 * j1 + q - (60 * j1 + b)) = 60 * j0 + (a + (q - b)) by omega]
      · rw [if_neg z, if_neg (by omega), g1 _ hq]
    · show -128 ≤ ((zla2 (zca t (60 * j0 + a) c) (60 * j1 + b) c).2 28 (60 * j1 + q)).toInt ∧ ((zla2 (zca t (60 * j0 + a) c) (60 * j1 + b) c).2 28 (60 * j1 + q)).toInt < 128
      rw [hT]
      by_cases z : b ≤ q ∧ q < b + c
      · rw [if_pos (by omega), show 60 * j0 + a + (60 * j1 + q - (60 * j1 + b)) = 60 * j0 + (a + (q - b)) by omega]
        exact r0 hk0 _ (by omega)
      · rw [if_neg (by omega)]
        exact r1 hk0 q hq
theorem op_shift {s t : zSt} (h : yR s t) (a i b k c : Int32) : yOp (f_g_shift a i b k c) (f_m_shift a i b k c) s t := by
  by_cases ha : 0 ≤ a.toInt ∧ a.toInt < 6
  · by_cases hb : 0 ≤ b.toInt ∧ b.toInt < 6
    · obtain ⟨j0, hj0, rfl⟩ := q_ixl (n := 6) ha
      obtain ⟨j1, hj1, rfl⟩ := q_ixl (n := 6) hb
      have ha5 : 0 ≤ (nI j0).toInt ∧ (nI j0).toInt ≤ 5 := by omega
      have hb5 : 0 ≤ (nI j1).toInt ∧ (nI j1).toInt ≤ 5 := by omega
      have hcl0 : (nI j0).toNatClampNeg = j0 := nI_clamp (by omega)
      have hcl1 : (nI j1).toNatClampNeg = j1 := nI_clamp (by omega)
      have hG : f_g_shift (nI j0) i (nI j1) k c s = (f_sh_isEmpty (40 + 2 * j0) s).bind fun x7 => if x7.1 = 0 then (f_sh_isEmpty (40 + 2 * j1) x7.2).bind fun x8 => if x8.1 = 0 then (f_sh_isRowOf (40 + 2 * j0) (x8.2.1 (40 + 2 * j1) 1) x8.2).bind fun x9 => if x9.1 = 0 then some ((-12), x9.2) else (f_sh_hasPlaces (40 + 2 * j0) i c x9.2).bind fun x10 => if x10.1 = 0 then some ((-13), x10.2) else (f_sh_hasPlaces (40 + 2 * j1) k c x10.2).bind fun x11 => if x11.1 = 0 then some ((-13), x11.2) else (zcpl x11.2 ((40 + 2 * j0) + 1) 60 ((40 + 2 * j1) + 1) 60 i k c).bind fun s12 => some (c, s12) else some ((-11), x8.2) else some ((-11), x7.2) := by
        unfold f_g_shift
        rw [if_pos ha]
        simp only [Option.bind_some, hcl0]
        rw [if_pos hb]
        simp only [Option.bind_some, hcl1]
      have hM : f_m_shift (nI j0) i (nI j1) k c t = if t.1 26 j0 < 0 then some ((-11), t) else if 0 ≤ t.1 26 j1 then if t.1 26 j0 < 50 then some ((-12), t) else if t.1 26 j0 = t.1 26 j1 then (if c < 0 then some ((-13), t) else if i < 0 then some ((-13), t) else if k < 0 then some ((-13), t) else if (t.1 27 j0 - c) < i then some ((-13), t) else if k ≤ (t.1 27 j1 - c) then f_m_shift_113 zFu (nI j0) i (nI j1) k c 0 t else some ((-13), t)) else some ((-12), t) else some ((-11), t) := by
        unfold f_m_shift
        rw [p_mShelf]
        simp only [Option.bind_some]
        rw [q01_t ha5, if_neg (by decide : ¬ (1 : Int32) = 0), p_mShelf]
        simp only [Option.bind_some]
        rw [q01_t hb5, if_neg (by decide : ¬ (1 : Int32) = 0)]
        simp only [zld_at hj0 (show 6 < 2147483648 by omega), zld_at hj1 (show 6 < 2147483648 by omega), Option.bind_some]
      rcases yR_get h hj0 with ⟨h1, h2, h3, h4, h5⟩ | ⟨w, n, h1, h2, h3, h4, h5, h6, h7, h8⟩ | ⟨r, n0, h1, h2, h3, h4, h5, h6, h7, h8, h9⟩
      · refine yOp_same (-11) ?_ ?_ h
        · rw [hG, e_empty h2 h3]; rfl
        · rw [hM, h1, if_pos (by decide)]
      · rcases yR_get h hj1 with ⟨g1, g2, g3, g4, g5⟩ | ⟨w', n', g1, g2, g3, g4, g5, g6, g7, g8⟩ | ⟨r', n', g1, g2, g3, g4, g5, g6, g7, g8, g9⟩
        · refine yOp_same (-11) ?_ ?_ h
          · rw [hG, e_glass (by omega) h5]
            simp only [Option.bind_some, if_true]
            rw [e_empty g2 g3]; rfl
          · rw [hM, h4, if_neg (nI_pos (by omega)), g1, if_neg (by decide)]
        · refine yOp_same (-12) ?_ ?_ h
          · rw [hG, e_glass (by omega) h5]
            simp only [Option.bind_some, if_true]
            rw [e_glass (by omega) g5]
            simp only [Option.bind_some, if_true]
            rw [r_not h6]; rfl
          · rw [hM, h4, if_neg (nI_pos (by omega)), g4, if_pos (nI_pos' (by omega)), if_pos (show nI w < (50 : Int32) from nI_lt (b := 50) (by omega) (by omega))]
        · refine yOp_same (-12) ?_ ?_ h
          · rw [hG, e_glass (by omega) h5]
            simp only [Option.bind_some, if_true]
            rw [e_row (by omega) g4 g5]
            simp only [Option.bind_some, if_true]
            rw [r_not h6]; rfl
          · rw [hM, h4, if_neg (nI_pos (by omega)), g3, if_pos (nI_pos' (by omega)), if_pos (show nI w < (50 : Int32) from nI_lt (b := 50) (by omega) (by omega))]
      · have hn50 : ¬ nI (50 + r) < (50 : Int32) := nI_nlt (b := 50) (by omega) (by omega)
        rcases yR_get h hj1 with ⟨g1, g2, g3, g4, g5⟩ | ⟨w', n', g1, g2, g3, g4, g5, g6, g7, g8⟩ | ⟨r', n1, g1, g2, g3, g4, g5, g6, g7, g8, g9⟩
        · refine yOp_same (-11) ?_ ?_ h
          · rw [hG, e_row (by omega) h4 h5]
            simp only [Option.bind_some, if_true]
            rw [e_empty g2 g3]; rfl
          · rw [hM, h3, if_neg (nI_pos (by omega)), g1, if_neg (by decide)]
        · refine yOp_same (-12) ?_ ?_ h
          · rw [hG, e_row (by omega) h4 h5]
            simp only [Option.bind_some, if_true]
            rw [e_glass (by omega) g5]
            simp only [Option.bind_some, if_true]
            rw [r_is (by omega) h5, g6, q01_f (q_nm1 (by omega))]; rfl
          · rw [hM, h3, if_neg (nI_pos (by omega)), g4, if_pos (nI_pos' (by omega)), if_neg hn50, if_neg (q_ne (by omega) (by omega) (by omega))]
        · by_cases hrr : r = r'
          · subst hrr
            have hG2 : f_g_shift (nI j0) i (nI j1) k c s = if 0 ≤ i.toInt ∧ 0 ≤ c.toInt ∧ i.toInt + c.toInt ≤ (n0 : Int) then (if 0 ≤ k.toInt ∧ 0 ≤ c.toInt ∧ k.toInt + c.toInt ≤ (n1 : Int) then (zcpl s ((40 + 2 * j0) + 1) 60 ((40 + 2 * j1) + 1) 60 i k c).bind fun s12 => some (c, s12) else some (-13, s)) else some (-13, s) := by
              rw [hG, e_row (by omega) h4 h5]
              simp only [Option.bind_some, if_true]
              rw [e_row (by omega) g4 g5]
              simp only [Option.bind_some, if_true]
              rw [r_is (by omega) h5, g5, q01_t rfl]
              simp only [Option.bind_some]
              rw [if_neg (by decide : ¬ (1 : Int32) = 0), p_has h2 h6]
              simp only [Option.bind_some]
              by_cases c0 : 0 ≤ i.toInt ∧ 0 ≤ c.toInt ∧ i.toInt + c.toInt ≤ (n0 : Int)
              · rw [q01_t c0, if_neg (by decide : ¬ (1 : Int32) = 0), if_pos c0, p_has g2 g6]
                simp only [Option.bind_some]
                by_cases c1 : 0 ≤ k.toInt ∧ 0 ≤ c.toInt ∧ k.toInt + c.toInt ≤ (n1 : Int)
                · rw [q01_t c1, if_neg (by decide : ¬ (1 : Int32) = 0), if_pos c1]
                · rw [q01_f c1, if_pos rfl, if_neg c1]
              · rw [q01_f c0, if_pos rfl, if_neg c0]
            have ri := q_rng i
            have rk := q_rng k
            have rc := q_rng c
            by_cases c4 : c.toInt < 0
            · refine yOp_same (-13) ?_ ?_ h
              · rw [hG2, if_neg (by omega)]
              · rw [hM, h3, if_neg (nI_pos (by omega)), g3, if_pos (nI_pos' (by omega)), if_neg hn50, if_pos rfl, if_pos ((q_lt _ _).mpr c4)]
            · have cneg : ¬ c < 0 := fun z => c4 ((q_lt _ _).mp z)
              have e0 : (nI n0 - c).toInt = (n0 : Int) - c.toInt := by
                have := q_subI (a := nI n0) (b := c) (by rw [q_nI (by omega)]; omega) (by rw [q_nI (by omega)]; omega)
                rw [this, q_nI (by omega)]
              have e1 : (nI n1 - c).toInt = (n1 : Int) - c.toInt := by
                have := q_subI (a := nI n1) (b := c) (by rw [q_nI (by omega)]; omega) (by rw [q_nI (by omega)]; omega)
                rw [this, q_nI (by omega)]
              have hM2 : f_m_shift (nI j0) i (nI j1) k c t = if i < 0 then some ((-13), t) else if k < 0 then some ((-13), t) else if (nI n0 - c) < i then some ((-13), t) else if k ≤ (nI n1 - c) then f_m_shift_113 zFu (nI j0) i (nI j1) k c 0 t else some ((-13), t) := by
                rw [hM, h3, if_neg (nI_pos (by omega)), g3, if_pos (nI_pos' (by omega)), if_neg hn50, if_pos rfl, if_neg cneg, h7, g7]
              by_cases ci : i.toInt < 0
              · refine yOp_same (-13) ?_ ?_ h
                · rw [hG2, if_neg (by omega)]
                · rw [hM2, if_pos ((q_lt _ _).mpr ci)]
              · have ineg : ¬ i < 0 := fun z => ci ((q_lt _ _).mp z)
                by_cases ck : k.toInt < 0
                · refine yOp_same (-13) ?_ ?_ h
                  · rw [hG2]
                    by_cases c0 : 0 ≤ i.toInt ∧ 0 ≤ c.toInt ∧ i.toInt + c.toInt ≤ (n0 : Int)
                    · rw [if_pos c0, if_neg (by omega)]
                    · rw [if_neg c0]
                  · rw [hM2, if_neg ineg, if_pos ((q_lt _ _).mpr ck)]
                · have kneg : ¬ k < 0 := fun z => ck ((q_lt _ _).mp z)
                  by_cases c0 : i.toInt + c.toInt ≤ (n0 : Int)
                  · have d0 : ¬ nI n0 - c < i := by rw [q_lt, e0]; omega
                    by_cases c1 : k.toInt + c.toInt ≤ (n1 : Int)
                    · have d1 : k ≤ nI n1 - c := by rw [q_le, e1]; omega
                      obtain ⟨p, hp, rfl⟩ := q_pos ci
                      obtain ⟨q, hq, rfl⟩ := q_pos ck
                      obtain ⟨N, hN, rfl⟩ := q_pos c4
                      rw [q_nI hp, q_nI hN] at c0
                      rw [q_nI hq, q_nI hN] at c1
                      refine ⟨nI N, _, _, ?_, ?_, shift_rel h hj0 hj1 (a := p) (b := q) (c := N) (k := r) (n0 := n0) (n1 := n1) (by omega) (by omega) h2 g2 h8 h9 h1 g3 g4 g5 g6 g7 g8 g9⟩
                      · rw [hG2, q_nI hp, q_nI hq, q_nI hN, if_pos (by omega), if_pos (by omega), zcpl_lit s (by omega) (by omega) (by omega) (by omega)]
                        rfl
                      · rw [hM2, if_neg ineg, if_neg kneg, if_neg d0, if_pos d1]
                        have := shift_l1 (j0 := j0) (p0 := p) (j := j1) (p := q) (N := N) (by omega) (by omega) (by omega) t N 0 zFu (by omega) (by have := zFu_big; omega)
                        rw [zca_0] at this
                        exact this
                    · have d1 : ¬ k ≤ nI n1 - c := by rw [q_le, e1]; omega
                      refine yOp_same (-13) ?_ ?_ h
                      · rw [hG2, if_pos (by omega), if_neg (by omega)]
                      · rw [hM2, if_neg ineg, if_neg kneg, if_neg d0, if_neg d1]
                  · have d0 : nI n0 - c < i := by rw [q_lt, e0]; omega
                    refine yOp_same (-13) ?_ ?_ h
                    · rw [hG2, if_neg (by omega)]
                    · rw [hM2, if_neg ineg, if_neg kneg, if_pos d0]
          · refine yOp_same (-12) ?_ ?_ h
            · rw [hG, e_row (by omega) h4 h5]
              simp only [Option.bind_some, if_true]
              rw [e_row (by omega) g4 g5]
              simp only [Option.bind_some, if_true]
              rw [r_is (by omega) h5, g5, q01_f (q_ne (by omega) (by omega) hrr)]; rfl
            · rw [hM, h3, if_neg (nI_pos (by omega)), g3, if_pos (nI_pos' (by omega)), if_neg hn50, if_neg (q_ne (by omega) (by omega) (by omega))]
    · refine yOp_same (-1) ?_ ?_ h
      · unfold f_g_shift
        rw [if_pos ha]
        simp only [Option.bind_some]
        rw [if_neg hb]
      · unfold f_m_shift
        rw [p_mShelf]
        simp only [Option.bind_some]
        rw [q01_t (by omega), if_neg (by decide : ¬ (1 : Int32) = 0), p_mShelf]
        simp only [Option.bind_some]
        rw [q01_f (by omega), if_pos rfl]
  · refine yOp_same (-1) ?_ ?_ h
    · unfold f_g_shift
      rw [if_neg ha]
      by_cases hb : 0 ≤ b.toInt ∧ b.toInt < 6
      · rw [if_pos hb]; rfl
      · rw [if_neg hb]
    · unfold f_m_shift
      rw [p_mShelf]
      simp only [Option.bind_some]
      rw [q01_f (by omega), if_pos rfl]
