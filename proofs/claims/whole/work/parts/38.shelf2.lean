/-! OPS 8: keep, row, put, taken -/
theorem n64_inj {a b : Int64} : a = b ↔ a.toInt = b.toInt := Int64.toInt_inj.symm
theorem q_cmp_0 (x : Int64) : lg_cmp x 0 = 0 ↔ x = 0 := by
  unfold lg_cmp
  by_cases h : x > 0
  · rw [if_pos h]
    constructor
    · intro z; exact absurd z (by decide)
    · intro z; subst z; exact absurd h (by decide)
  · rw [if_neg h]
    by_cases h2 : x = 0
    · rw [if_pos h2]; exact ⟨fun _ => h2, fun _ => rfl⟩
    · rw [if_neg h2]
      constructor
      · intro z; exact absurd z (by decide)
      · intro z; exact absurd z h2
theorem yR_zw2 {s t : zSt} (h : yR s t) {j : Nat} (hj : j < 6) (b c l : Int32) (u v : Int32) (hn : yRH1 b c l (s.2 (40 + 2 * j + 1)) u v (fun k => t.2 28 (60 * j + k)) (t.1 0 41)) : yR (zw (zw (zw s (40 + 2 * j) 0 b) (40 + 2 * j) 1 c) (40 + 2 * j) 2 l) (zw (zw t 26 j u) 27 j v) := by
  refine yR_set h hj (fun a ha => ?_) (fun a ha => rfl) (fun a h1 h2 => ?_) (fun d hd => ?_) (fun k hk => rfl) ?_
  · simp only [zw_1, if_neg ha]
  · simp only [zw_1, if_neg h1, if_neg h2]
  · exact ⟨q_updN hd, q_updN hd⟩
  · have e0 : (zw (zw (zw s (40 + 2 * j) 0 b) (40 + 2 * j) 1 c) (40 + 2 * j) 2 l).1 (40 + 2 * j) 0 = b := by simp [zw_1, upd]
    have e1 : (zw (zw (zw s (40 + 2 * j) 0 b) (40 + 2 * j) 1 c) (40 + 2 * j) 2 l).1 (40 + 2 * j) 1 = c := by simp [zw_1, upd]
    have e2 : (zw (zw (zw s (40 + 2 * j) 0 b) (40 + 2 * j) 1 c) (40 + 2 * j) 2 l).1 (40 + 2 * j) 2 = l := by simp [zw_1, upd]
    have f1 : (zw (zw t 26 j u) 27 j v).1 26 j = u := q_updS _ _ _
    have f2 : (zw (zw t 26 j u) 27 j v).1 27 j = v := q_updS _ _ _
    show yRH1 _ _ _ _ _ _ _ _
    rw [e0, e1, e2, f1, f2]
    exact hn
theorem p_hasB {s : zSt} {n : Nat} (hn : n ≤ 50) (e : s.1 36 1 = nI n) (a : Int32) : f_gl_has a s = some (q01 (0 ≤ a.toInt ∧ a.toInt < (n : Int)), s) := by
  unfold f_gl_has
  have ei : (nI n - 1 : Int32).toInt = (n : Int) - 1 := pk_sub_toInt (a := n) (b := 1) (by omega) (by omega)
  simp only [p_isWithin, Option.bind_some, q01_bo, e, ei, l0]
  congr 2
  unfold q01
  by_cases hc : 0 ≤ a.toInt ∧ a.toInt < (n : Int)
  · rw [if_pos hc, if_pos (by omega)]
  · rw [if_neg hc, if_neg (by omega)]
theorem p_isB {t : zSt} {n : Nat} (hn : n ≤ 50) (e : t.1 0 41 = nI n) (a : Int32) : f_m_isBody a t = some (q01 (0 ≤ a.toInt ∧ a.toInt < (n : Int)), t) := by
  unfold f_m_isBody
  have ei : (nI n - 1 : Int32).toInt = (n : Int) - 1 := pk_sub_toInt (a := n) (b := 1) (by omega) (by omega)
  simp only [p_within, Option.bind_some, q01_bo, e, ei, k0, Int32.toInt_toInt64]
  congr 2
  unfold q01
  by_cases hc : 0 ≤ a.toInt ∧ a.toInt < (n : Int)
  · rw [if_pos hc, if_pos (by omega)]
  · rw [if_neg hc, if_neg (by omega)]
theorem op_keep {s t : zSt} (h : yR s t) (a b : Int32) : yOp (f_g_keep a b) (f_m_keep a b) s t := by
  obtain ⟨-, -, -, -, -, -, -, -, -, ⟨⟨n, hn, e1, e2, g⟩, gb⟩, -⟩ := id h
  by_cases ha : 0 ≤ a.toInt ∧ a.toInt < 6
  · obtain ⟨j, hj, rfl⟩ := q_ixl (n := 6) ha
    have ha5 : 0 ≤ (nI j).toInt ∧ (nI j).toInt ≤ 5 := by omega
    have hcl : (nI j).toNatClampNeg = j := nI_clamp (by omega)
    have hfin : (b = -1 ∨ (0 ≤ b.toInt ∧ b.toInt < (n : Int))) → yR (zw (zw (zw s (40 + 2 * j) 0 b) (40 + 2 * j) 1 (-1)) (40 + 2 * j) 2 0) (zw (zw t 26 j b) 27 j 0) := by
      intro hb
      refine yR_zw2 h hj b (-1) 0 b 0 ?_
      rcases hb with rfl | hb
      · exact Or.inl ⟨rfl, rfl, rfl, rfl, rfl⟩
      · obtain ⟨w, hw, rfl⟩ := q_ixl hb
        exact Or.inr (Or.inl ⟨w, n, hw, hn, e2, rfl, rfl, rfl, rfl, rfl⟩)
    have hG : f_sh_holdGlass (40 + 2 * j) b s = some (zw (zw (zw s (40 + 2 * j) 0 b) (40 + 2 * j) 1 (-1)) (40 + 2 * j) 2 0) := rfl
    have hM : f_m_keep_22 (nI j) b t = some (1, zw (zw t 26 j b) 27 j 0) := by
      unfold f_m_keep_22
      rw [zst_at hj (by omega)]
      simp only [Option.bind_some]
      rw [zst_at hj (by omega)]
      rfl
    by_cases hb : b = -1
    · refine ⟨1, _, _, ?_, ?_, hfin (Or.inl hb)⟩
      · unfold f_g_keep
        rw [if_pos ha]
        simp only [Option.bind_some, hcl]
        rw [if_pos hb, hG]; rfl
      · unfold f_m_keep
        rw [p_mShelf]
        simp only [Option.bind_some]
        rw [q01_t ha5, if_neg (by decide : ¬ (1 : Int32) = 0), if_pos hb, hM]
    · by_cases hc : 0 ≤ b.toInt ∧ b.toInt < (n : Int)
      · refine ⟨1, _, _, ?_, ?_, hfin (Or.inr hc)⟩
        · unfold f_g_keep
          rw [if_pos ha]
          simp only [Option.bind_some, hcl]
          rw [if_neg hb, p_hasB hn e1]
          simp only [Option.bind_some]
          rw [q01_t hc, if_neg (by decide : ¬ (1 : Int32) = 0), hG]; rfl
        · unfold f_m_keep
          rw [p_mShelf]
          simp only [Option.bind_some]
          rw [q01_t ha5, if_neg (by decide : ¬ (1 : Int32) = 0), if_neg hb, p_isB hn e2]
          simp only [Option.bind_some]
          rw [q01_t hc, if_neg (by decide : ¬ (1 : Int32) = 0), hM]
      · refine yOp_same (-1) ?_ ?_ h
        · unfold f_g_keep
          rw [if_pos ha]
          simp only [Option.bind_some, hcl]
          rw [if_neg hb, p_hasB hn e1]
          simp only [Option.bind_some]
          rw [q01_f hc, if_pos rfl]
        · unfold f_m_keep
          rw [p_mShelf]
          simp only [Option.bind_some]
          rw [q01_t ha5, if_neg (by decide : ¬ (1 : Int32) = 0), if_neg hb, p_isB hn e2]
          simp only [Option.bind_some]
          rw [q01_f hc, if_pos rfl]
  · refine yOp_same (-1) ?_ ?_ h
    · unfold f_g_keep
      rw [if_neg ha]
    · unfold f_m_keep
      rw [p_mShelf]
      simp only [Option.bind_some]
      rw [q01_f (by omega), if_pos rfl]
/-- the reference's row of longs set to 0 from a place on -/
def zz0 (t : zSt) (lo hi : Nat) : zSt := (t.1, fun a => if a = 28 then (fun k => if lo ≤ k ∧ k < hi then 0 else t.2 28 k) else t.2 a)
theorem zz0_0 (t : zSt) (lo : Nat) : zz0 t lo lo = t := by
  have : (fun a => if a = 28 then (fun k => if lo ≤ k ∧ k < lo then (0 : Int64) else t.2 28 k) else t.2 a) = t.2 := by
    funext a
    by_cases h : a = 28
    · subst h
      funext k
      simp only [if_true]
      rw [if_neg (by omega)]
    · rw [if_neg h]
  show (t.1, _) = t
  rw [this]
theorem zz0_s (t : zSt) (lo i : Nat) (h : lo ≤ i) : zwl (zz0 t lo i) 28 i 0 = zz0 t lo (i + 1) := by
  show (t.1, _) = (t.1, _)
  congr 1
  funext a
  by_cases e : a = 28
  · subst e
    funext k
    simp only [if_true, zz0, vp_updL]
    by_cases e2 : k = i
    · rw [if_pos e2, if_pos (by omega)]
    · rw [if_neg e2]
      by_cases e3 : lo ≤ k ∧ k < i
      · rw [if_pos e3, if_pos (by omega)]
      · rw [if_neg e3, if_neg (by omega)]
  · simp only [zz0, if_neg e]
theorem row_loop {j : Nat} (hj : j < 6) (t : zSt) : ∀ (m i n : Nat), i + m = 60 * j + 60 → 60 * j ≤ i → m < n → f_m_row_57 n (nI j) (nI i) (zz0 t (60 * j) i) = some (1, zz0 t (60 * j) (60 * j + 60)) := by
  have e60 : (60 * nI j) + 60 = nI (60 * j + 60) := by rw [show (60 : Int32) = nI 60 from rfl, pk_mul, nI_add]
  intro m
  induction m with
  | zero =>
    intro i n hi h0 hn
    obtain ⟨n, rfl⟩ : ∃ x, n = x + 1 := ⟨n - 1, by omega⟩
    have e : i = 60 * j + 60 := by omega
    subst e
    unfold f_m_row_57
    rw [e60, if_pos (nI_le (Nat.le_refl _) (by omega))]
  | succ m ih =>
    intro i n hi h0 hn
    obtain ⟨n, rfl⟩ : ∃ x, n = x + 1 := ⟨n - 1, by omega⟩
    unfold f_m_row_57
    rw [e60, if_neg (nI_ge (by omega) (by omega)), zstl_at (show i < 360 by omega) (by omega)]
    simp only [Option.bind_some, nI_1]
    rw [zz0_s t _ _ h0]
    exact ih (i + 1) n (by omega) (by omega) (by omega)
theorem op_row {s t : zSt} (h : yR s t) (a b c : Int32) : yOp (f_g_row a b c) (f_m_row a b c) s t := by
  by_cases ha : 0 ≤ a.toInt ∧ a.toInt < 6
  · obtain ⟨j, hj, rfl⟩ := q_ixl (n := 6) ha
    have ha5 : 0 ≤ (nI j).toInt ∧ (nI j).toInt ≤ 5 := by omega
    have hcl : (nI j).toNatClampNeg = j := nI_clamp (by omega)
    by_cases hb : 0 ≤ b.toInt ∧ b.toInt ≤ 4
    · by_cases hc : c ≤ 60
      · by_cases hc0 : 0 ≤ c
        · obtain ⟨k, hk, rfl⟩ := q_ix (x := b) (n := 4) hb
          have hcI : 0 ≤ c.toInt ∧ c.toInt ≤ 60 := ⟨by have := (q_le _ _).mp hc0; exact this, by have := (q_le _ _).mp hc; exact this⟩
          obtain ⟨n, hn, rfl⟩ := q_ix (x := c) (n := 60) hcI
          have hz := zFu_big
          have hl := row_loop hj (zw (zw t 26 j (nI (50 + k))) 27 j (nI n)) 60 (60 * j) zFu (by omega) (by omega) (by omega)
          rw [zz0_0] at hl
          have emin : zmin (nI n) 60 = nI n := by
            rw [show (60 : Int32) = nI 60 from rfl, q_min (by omega) (by omega), if_neg (by omega)]
          refine ⟨1, zfillL (zw (zw (zw s (40 + 2 * j) 0 (-1)) (40 + 2 * j) 1 (nI k)) (40 + 2 * j) 2 (nI n)) (40 + 2 * j + 1) 60 0, zz0 (zw (zw t 26 j (nI (50 + k))) 27 j (nI n)) (60 * j) (60 * j + 60), ?_, ?_, ?_⟩
          · unfold f_g_row
            rw [if_pos ha]
            simp only [Option.bind_some, hcl, p_isWithin, l0, l4]
            rw [q01_t hb, if_neg (by decide : ¬ (1 : Int32) = 0), if_pos hc, if_pos hc0]
            unfold f_sh_holdRow
            rw [emin]
            rfl
          · unfold f_m_row
            rw [p_mShelf]
            simp only [Option.bind_some]
            rw [q01_t ha5, if_neg (by decide : ¬ (1 : Int32) = 0), p_within, Int32.toInt_toInt64, k0, k4]
            simp only [Option.bind_some]
            rw [q01_t hb, if_neg (by decide : ¬ (1 : Int32) = 0), if_pos hc, if_pos hc0, show (50 : Int32) = nI 50 from rfl, nI_add, zst_at hj (by omega)]
            simp only [Option.bind_some]
            rw [zst_at hj (by omega)]
            simp only [Option.bind_some]
            rw [show (60 : Int32) = nI 60 from rfl, pk_mul]
            exact hl
          · refine yR_set h hj (fun x hx => ?_) (fun x hx => ?_) (fun x h1 h2 => ?_) (fun d hd => ?_) (fun q hq => ?_) ?_
            · simp only [zfillL, zw_1, if_neg hx]
            · simp only [zfillL, zw_2, if_neg hx]
            · simp only [zz0, zw_1, if_neg h1, if_neg h2]
            · exact ⟨q_updN hd, q_updN hd⟩
            · show (if 60 * j ≤ q ∧ q < 60 * j + 60 then 0 else t.2 28 q) = t.2 28 q
              rw [if_neg (by omega)]
            · have e0 : (zw (zw (zw s (40 + 2 * j) 0 (-1)) (40 + 2 * j) 1 (nI k)) (40 + 2 * j) 2 (nI n)).1 (40 + 2 * j) 0 = -1 := by simp [zw_1, upd]
              have e1 : (zw (zw (zw s (40 + 2 * j) 0 (-1)) (40 + 2 * j) 1 (nI k)) (40 + 2 * j) 2 (nI n)).1 (40 + 2 * j) 1 = nI k := by simp [zw_1, upd]
              have e2 : (zw (zw (zw s (40 + 2 * j) 0 (-1)) (40 + 2 * j) 1 (nI k)) (40 + 2 * j) 2 (nI n)).1 (40 + 2 * j) 2 = nI n := by simp [zw_1, upd]
              refine Or.inr (Or.inr ⟨k, n, by omega, by omega, q_updS _ _ _, e0, e1, e2, q_updS _ _ _, fun q hq => ?_, fun _ q hq => ?_⟩)
              · show (zfillL (zw (zw (zw s (40 + 2 * j) 0 (-1)) (40 + 2 * j) 1 (nI k)) (40 + 2 * j) 2 (nI n)) (40 + 2 * j + 1) 60 0).2 (40 + 2 * j + 1) q = if 60 * j ≤ 60 * j + q ∧ 60 * j + q < 60 * j + 60 then 0 else t.2 28 (60 * j + q)
                rw [if_pos (by omega)]
                simp only [zfillL, if_true]
                rw [if_pos hq]
              · show -128 ≤ (if 60 * j ≤ 60 * j + q ∧ 60 * j + q < 60 * j + 60 then (0 : Int64) else t.2 28 (60 * j + q)).toInt ∧ (if 60 * j ≤ 60 * j + q ∧ 60 * j + q < 60 * j + 60 then (0 : Int64) else t.2 28 (60 * j + q)).toInt < 128
                rw [if_pos (by omega)]
                decide
        · refine yOp_same (-14) ?_ ?_ h
          · unfold f_g_row
            rw [if_pos ha]
            simp only [Option.bind_some, hcl, p_isWithin, l0, l4]
            rw [q01_t hb, if_neg (by decide : ¬ (1 : Int32) = 0), if_pos hc, if_neg hc0]
          · unfold f_m_row
            rw [p_mShelf]
            simp only [Option.bind_some]
            rw [q01_t ha5, if_neg (by decide : ¬ (1 : Int32) = 0), p_within, Int32.toInt_toInt64, k0, k4]
            simp only [Option.bind_some]
            rw [q01_t hb, if_neg (by decide : ¬ (1 : Int32) = 0), if_pos hc, if_neg hc0]
      · refine yOp_same (-1) ?_ ?_ h
        · unfold f_g_row
          rw [if_pos ha]
          simp only [Option.bind_some, hcl, p_isWithin, l0, l4]
          rw [q01_t hb, if_neg (by decide : ¬ (1 : Int32) = 0), if_neg hc]
        · unfold f_m_row
          rw [p_mShelf]
          simp only [Option.bind_some]
          rw [q01_t ha5, if_neg (by decide : ¬ (1 : Int32) = 0), p_within, Int32.toInt_toInt64, k0, k4]
          simp only [Option.bind_some]
          rw [q01_t hb, if_neg (by decide : ¬ (1 : Int32) = 0), if_neg hc]
    · refine yOp_same (-1) ?_ ?_ h
      · unfold f_g_row
        rw [if_pos ha]
        simp only [Option.bind_some, hcl, p_isWithin, l0, l4]
        rw [q01_f hb, if_pos rfl]
      · unfold f_m_row
        rw [p_mShelf]
        simp only [Option.bind_some]
        rw [q01_t ha5, if_neg (by decide : ¬ (1 : Int32) = 0), p_within, Int32.toInt_toInt64, k0, k4]
        simp only [Option.bind_some]
        rw [q01_f hb, if_pos rfl]
  · refine yOp_same (-1) ?_ ?_ h
    · unfold f_g_row
      rw [if_neg ha]
    · unfold f_m_row
      rw [p_mShelf]
      simp only [Option.bind_some]
      rw [q01_f (by omega), if_pos rfl]
