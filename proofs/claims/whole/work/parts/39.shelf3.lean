/-! OPS 9: put, taken -/
theorem zV_byte (v : Int64) : -128 ≤ ((((v : Int64).toInt32).toInt8.toInt32 : Int32).toInt64).toInt ∧ ((((v : Int64).toInt32).toInt8.toInt32 : Int32).toInt64).toInt < 128 := by
  rw [Int32.toInt_toInt64, Int8.toInt_toInt32]
  exact ⟨Int8.le_toInt _, Int8.toInt_lt _⟩
theorem write_at {s : zSt} {o k m : Nat} (hk : k < 5) (hm : m < 60) (e : s.1 o 1 = nI k) (v : Int64) : ∃ V, f_sh_write o (nI m) v s = some (zwl s (o + 1) m V) ∧ (∀ t : zSt, f_m_asSort (nI k) v t = some (V, t)) ∧ (k = 0 → -128 ≤ V.toInt ∧ V.toInt < 128) := by
  unfold f_sh_write f_m_asSort
  simp only [zstl_at hm (show 60 < 2147483648 by omega), Option.bind_some, e]
  match k, hk with
  | 0, _ =>
    refine ⟨((((v : Int64).toInt32).toInt8.toInt32 : Int32).toInt64), ?_, fun t => ?_, fun _ => zV_byte v⟩
    · rw [if_neg (by decide), if_pos (by decide)]
    · rw [if_pos (by decide)]
  | 1, _ =>
    refine ⟨((((v : Int64).toInt32).toInt16.toInt32 : Int32).toInt64), ?_, fun t => ?_, fun z => absurd z (by decide)⟩
    · rw [if_neg (by decide), if_neg (by decide), if_pos (by decide)]
    · rw [if_neg (by decide), if_pos (by decide)]
  | 2, _ =>
    refine ⟨((v : Int64).toInt32 : Int32).toInt64, ?_, fun t => ?_, fun z => absurd z (by decide)⟩
    · rw [if_neg (by decide), if_neg (by decide), if_neg (by decide), if_pos (by decide)]
    · rw [if_neg (by decide), if_neg (by decide), if_pos (by decide)]
  | 3, _ =>
    refine ⟨v, ?_, fun t => ?_, fun z => absurd z (by decide)⟩
    · rw [if_neg (by decide), if_neg (by decide), if_neg (by decide), if_neg (by decide), if_pos (by decide)]
    · rw [if_neg (by decide), if_neg (by decide), if_neg (by decide), if_neg (by decide)]
  | 4, _ =>
    by_cases z : lg_cmp v 0 = 0
    · refine ⟨0, ?_, fun t => ?_, fun z => absurd z (by decide)⟩
      · rw [if_pos (by decide), if_pos z]
      · rw [if_neg (by decide), if_neg (by decide), if_neg (by decide), if_pos (by decide), if_pos z]
    · refine ⟨1, ?_, fun t => ?_, fun z => absurd z (by decide)⟩
      · rw [if_pos (by decide), if_neg z]
      · rw [if_neg (by decide), if_neg (by decide), if_neg (by decide), if_pos (by decide), if_neg z]
theorem q_updLS (f : Nat → Int64) (k : Nat) (x : Int64) : vp_updL f k x k = x := by simp [vp_updL]
theorem q_updLN {f : Nat → Int64} {k j : Nat} {x : Int64} (h : j ≠ k) : vp_updL f k x j = f j := by simp [vp_updL, h]
theorem op_put {s t : zSt} (h : yR s t) (a i : Int32) (v : Int64) : yOp (f_g_put a i v) (f_m_put a i v) s t := by
  by_cases ha : 0 ≤ a.toInt ∧ a.toInt < 6
  · obtain ⟨j, hj, rfl⟩ := q_ixl (n := 6) ha
    have hcl : (nI j).toNatClampNeg = j := nI_clamp (by omega)
    rcases p_refuse hj (yR_get h hj) i with ⟨r, hr, e1, e2⟩ | ⟨k, n, m, hk, hn, hm, rfl, e1, e2, e3, e4, e5, e6, e7, e8, e9⟩
    · refine yOp_same r ?_ ?_ h
      · unfold f_g_put
        rw [if_pos ha]
        simp only [Option.bind_some, hcl, e1]
        rw [if_neg hr]
      · unfold f_m_put
        rw [e2]
        simp only [Option.bind_some]
        rw [if_neg hr, if_neg hr]
    · obtain ⟨V, w1, w2, w3⟩ := write_at (m := m) hk (by omega) e5 v
      refine ⟨1, zwl s (40 + 2 * j + 1) m V, zwl t 28 (60 * j + m) V, ?_, ?_, ?_⟩
      · unfold f_g_put
        rw [if_pos ha]
        simp only [Option.bind_some, hcl, e1, if_true, w1]
      · unfold f_m_put
        rw [e2]
        simp only [Option.bind_some, if_true]
        rw [zld_at hj (by omega), e3]
        simp only [Option.bind_some]
        rw [show nI (50 + k) - 50 = nI k from (pk_sub (a := 50 + k) (b := 50) (by omega)).trans (by rw [Nat.add_sub_cancel_left]), w2]
        simp only [Option.bind_some]
        rw [show (60 : Int32) = nI 60 from rfl, pk_mul, nI_add, zstl_at (show 60 * j + m < 360 by omega) (by omega)]
        rfl
      · refine yR_set h hj (fun x hx => rfl) (fun x hx => ?_) (fun x h1 h2 => rfl) (fun d hd => ⟨rfl, rfl⟩) (fun q hq => ?_) ?_
        · simp only [zwl_2, if_neg hx]
        · exact q_updLN (by omega)
        · refine Or.inr (Or.inr ⟨k, n, hk, hn, e3, e4, e5, e6, e7, fun q hq => ?_, fun hk0 q hq => ?_⟩)
          · show (if 40 + 2 * j + 1 = 40 + 2 * j + 1 then vp_updL (s.2 (40 + 2 * j + 1)) m V else s.2 (40 + 2 * j + 1)) q = vp_updL (t.2 28) (60 * j + m) V (60 * j + q)
            rw [if_pos rfl]
            by_cases hqm : q = m
            · subst hqm; rw [q_updLS, q_updLS]
            · rw [q_updLN hqm, q_updLN (by omega)]; exact e8 q hq
          · show -128 ≤ (vp_updL (t.2 28) (60 * j + m) V (60 * j + q)).toInt ∧ (vp_updL (t.2 28) (60 * j + m) V (60 * j + q)).toInt < 128
            by_cases hqm : q = m
            · subst hqm; rw [q_updLS]; exact w3 hk0
            · rw [q_updLN (by omega)]; exact e9 hk0 q hq
  · refine yOp_same (-1) ?_ ?_ h
    · unfold f_g_put
      rw [if_neg ha]
    · unfold f_m_put
      rw [p_mRefOut (by omega)]
      rfl
/-- kind c is k or lies under it -/
def zUnd : Nat → Nat → Nat → Bool
  | 0, c, k => c == k
  | n + 1, c, k => c == k || (c != 0 && zUnd n (match c with | 3 => 2 | 4 => 1 | 5 => 3 | 7 => 4 | _ => 0) k)
theorem under_g (n : Nat) (s : zSt) : ∀ c k : Nat, c < 8 → k < 8 → f_gl_isUnder_10 (n + 10) (nI k) (nI c) 0 s = some (if zUnd 4 c k = true then 1 else 0, s) := by
  intro c k hc hk
  have hc' : c = 0 ∨ c = 1 ∨ c = 2 ∨ c = 3 ∨ c = 4 ∨ c = 5 ∨ c = 6 ∨ c = 7 := by omega
  have hk' : k = 0 ∨ k = 1 ∨ k = 2 ∨ k = 3 ∨ k = 4 ∨ k = 5 ∨ k = 6 ∨ k = 7 := by omega
  rcases hc' with rfl | rfl | rfl | rfl | rfl | rfl | rfl | rfl <;> rcases hk' with rfl | rfl | rfl | rfl | rfl | rfl | rfl | rfl <;> rfl
theorem under_m (n : Nat) (v1 : Int32) (t : zSt) : ∀ c k : Nat, c < 8 → k < 8 → f_m_taken_58 (n + 10) v1 (nI k) (nI c) t = if zUnd 4 c k = true then (zld t 26 6 v1).bind fun x8 => (f_m_kindOf x8 t).bind fun x9 => some (x9.1, x9.2) else some (-12, t) := by
  intro c k hc hk
  have hc' : c = 0 ∨ c = 1 ∨ c = 2 ∨ c = 3 ∨ c = 4 ∨ c = 5 ∨ c = 6 ∨ c = 7 := by omega
  have hk' : k = 0 ∨ k = 1 ∨ k = 2 ∨ k = 3 ∨ k = 4 ∨ k = 5 ∨ k = 6 ∨ k = 7 := by omega
  rcases hc' with rfl | rfl | rfl | rfl | rfl | rfl | rfl | rfl <;> rcases hk' with rfl | rfl | rfl | rfl | rfl | rfl | rfl | rfl <;> rfl
theorem op_taken {s t : zSt} (h : yR s t) (a k : Int32) : yOp (f_g_taken a k) (f_m_taken a k) s t := by
  obtain ⟨-, -, -, -, -, -, -, -, -, ⟨⟨n, hn, e1, e2, g⟩, gb⟩, -⟩ := id h
  by_cases ha : 0 ≤ a.toInt ∧ a.toInt < 6
  · obtain ⟨j, hj, rfl⟩ := q_ixl (n := 6) ha
    have ha5 : 0 ≤ (nI j).toInt ∧ (nI j).toInt ≤ 5 := by omega
    have hcl : (nI j).toNatClampNeg = j := nI_clamp (by omega)
    by_cases hb : 0 ≤ k.toInt ∧ k.toInt ≤ 7
    · obtain ⟨k, hk, rfl⟩ := q_ix (x := k) (n := 7) hb
      have hG : f_g_taken (nI j) (nI k) s = (f_sh_isEmpty (40 + 2 * j) s).bind fun x4 => if x4.1 = 0 then (f_gl_has (x4.2.1 (40 + 2 * j) 0) x4.2).bind fun x5 => if x5.1 = 0 then some ((-12), x5.2) else (f_gl_isUnder (x5.2.1 (40 + 2 * j) 0) (nI k) x5.2).bind fun x6 => if x6.1 = 0 then some ((-12), x6.2) else (zld x6.2 37 50 (x6.2.1 (40 + 2 * j) 0)).bind fun x7 => some (x7, x6.2) else some ((-11), x4.2) := by
        unfold f_g_taken
        rw [if_pos ha]
        simp only [Option.bind_some, hcl, p_isWithin, l0, l7]
        rw [q01_t hb, if_neg (by decide : ¬ (1 : Int32) = 0)]
      have hM : f_m_taken (nI j) (nI k) t = if 0 ≤ t.1 26 j then (if t.1 26 j < 50 then (f_m_kindOf (t.1 26 j) t).bind fun x6 => f_m_taken_58 zFu (nI j) (nI k) x6.1 x6.2 else some ((-12), t)) else some ((-11), t) := by
        unfold f_m_taken
        rw [p_mShelf]
        simp only [Option.bind_some]
        rw [q01_t ha5, if_neg (by decide : ¬ (1 : Int32) = 0), p_within, Int32.toInt_toInt64, k0, k7]
        simp only [Option.bind_some]
        rw [q01_t hb, if_neg (by decide : ¬ (1 : Int32) = 0), zld_at hj (by omega)]
        rfl
      rcases yR_get h hj with ⟨h1, h2, h3, h4, h5⟩ | ⟨w, n', h1, h2, h3, h4, h5, h6, h7, h8⟩ | ⟨r, n', h1, h2, h3, h4, h5, h6, h7, h8, h9⟩
      · refine yOp_same (-11) ?_ ?_ h
        · rw [hG, e_empty h2 h3]; rfl
        · rw [hM, h1, if_neg (by decide)]
      · have hnn : n' = n := by
          have := h3.symm.trans e2
          exact (nI_eq (by omega) (by omega)).mp this
        subst hnn
        obtain ⟨c1, c, c2, c3⟩ := g w h1
        have hwi : 0 ≤ (nI w).toInt ∧ (nI w).toInt < (n' : Int) := by rw [q_nI (by omega)]; omega
        have hz : ∃ x, zFu = x + 10 := ⟨zFu - 10, by have := zFu_big; omega⟩
        obtain ⟨x, hx⟩ := hz
        have hG2 : f_gl_isUnder (nI w) (nI k) s = some (if zUnd 4 c k = true then 1 else 0, s) := by
          unfold f_gl_isUnder
          rw [zld_at (show w < 50 by omega) (by omega), c1, c3]
          simp only [Option.bind_some]
          rw [hx]
          exact under_g x s c k c2 (by omega)
        have hM2 : f_m_taken (nI j) (nI k) t = if zUnd 4 c k = true then some (nI c, t) else some (-12, t) := by
          have hk1 : f_m_kindOf (nI w) t = some (nI c, t) := by
            unfold f_m_kindOf
            rw [zld_at (show w < 50 by omega) (by omega), c3]
            rfl
          rw [hM, h4, if_pos (nI_pos' (by omega)), if_pos (show nI w < (50 : Int32) from nI_lt (b := 50) (by omega) (by omega)), hk1]
          simp only [Option.bind_some]
          rw [hx, under_m x (nI j) t c k c2 (by omega), zld_at hj (by omega), h4]
          simp only [Option.bind_some, hk1]
        have hG3 : f_g_taken (nI j) (nI k) s = if zUnd 4 c k = true then some (nI c, s) else some (-12, s) := by
          rw [hG, e_glass (by omega) h5]
          simp only [Option.bind_some, if_true]
          rw [h5, p_hasB hn e1]
          simp only [Option.bind_some]
          rw [q01_t hwi, if_neg (by decide : ¬ (1 : Int32) = 0), h5, hG2]
          simp only [Option.bind_some]
          by_cases hu : zUnd 4 c k = true
          · simp only [if_pos hu]
            rw [if_neg (by decide : ¬ (1 : Int32) = 0), h5, zld_at (show w < 50 by omega) (by omega), c1, c3]
            rfl
          · simp only [if_neg hu, if_true]
        by_cases hu : zUnd 4 c k = true
        · exact yOp_same (nI c) (by rw [hG3, if_pos hu]) (by rw [hM2, if_pos hu]) h
        · exact yOp_same (-12) (by rw [hG3, if_neg hu]) (by rw [hM2, if_neg hu]) h
      · refine yOp_same (-12) ?_ ?_ h
        · rw [hG, e_row (by omega) h4 h5]
          simp only [Option.bind_some, if_true]
          rw [h4, p_hasB hn e1]
          simp only [Option.bind_some]
          rw [q01_f (by rw [show (-1 : Int32).toInt = -1 from rfl]; omega), if_pos rfl]
        · rw [hM, h3, if_pos (nI_pos' (by omega)), if_neg (show ¬ nI (50 + r) < (50 : Int32) from nI_nlt (b := 50) (by omega) (by omega))]
    · refine yOp_same (-1) ?_ ?_ h
      · unfold f_g_taken
        rw [if_pos ha]
        simp only [Option.bind_some, hcl, p_isWithin, l0, l7]
        rw [q01_f hb, if_pos rfl]
      · unfold f_m_taken
        rw [p_mShelf]
        simp only [Option.bind_some]
        rw [q01_t ha5, if_neg (by decide : ¬ (1 : Int32) = 0), p_within, Int32.toInt_toInt64, k0, k7]
        simp only [Option.bind_some]
        rw [q01_f hb, if_pos rfl]
  · refine yOp_same (-1) ?_ ?_ h
    · unfold f_g_taken
      rw [if_neg ha]
    · unfold f_m_taken
      rw [p_mShelf]
      simp only [Option.bind_some]
      rw [q01_f (by omega), if_pos rfl]
