/-! OPS 3: mend, undo, redo, image, back, body, trace, count -/
theorem remember_at {s : zSt} {d : Nat} (hd : d < 40) (e : s.1 1 4 = nI d) (v1 v2 v3 : Int32) : f_rc_remember_13 v1 v2 v3 s = some (zw (zw (zw (zw (zw s 3 d v1) 4 d v2) 5 d v3) 1 4 (nI (d + 1))) 1 5 (nI (d + 1))) := by
  unfold f_rc_remember_13
  rw [e, zst_at hd (by omega)]
  simp only [Option.bind_some]
  rw [show (zw s 3 d v1).1 1 4 = nI d from e, zst_at hd (by omega)]
  simp only [Option.bind_some]
  rw [show (zw (zw s 3 d v1) 4 d v2).1 1 4 = nI d from e, zst_at hd (by omega)]
  simp only [Option.bind_some]
  rw [show (zw (zw (zw s 3 d v1) 4 d v2) 5 d v3).1 1 4 = nI d from e, nI_1, zw_v]
theorem becomes_at {t : zSt} {d w : Nat} (hd : d < 40) (hw : w < 8) (e : t.1 0 5 = nI d) (v2 v3 : Int32) : f_m_becomes_97 (nI w) v2 v3 t = some (v3, zw (zw (zw (zw (zw (zw t 2 d (nI w)) 3 d v3) 4 d v2) 0 5 (nI (d + 1))) 0 4 (nI (d + 1))) 1 w v2) := by
  unfold f_m_becomes_97
  rw [e, zst_at hd (by omega)]
  simp only [Option.bind_some]
  rw [show (zw t 2 d (nI w)).1 0 5 = nI d from e, zst_at hd (by omega)]
  simp only [Option.bind_some]
  rw [show (zw (zw t 2 d (nI w)) 3 d v3).1 0 5 = nI d from e, zst_at hd (by omega)]
  simp only [Option.bind_some]
  rw [show (zw (zw (zw t 2 d (nI w)) 3 d v3) 4 d v2).1 0 5 = nI d from e, nI_1, zw_v, zst_at hw (by omega)]
  rfl
theorem yRC_push {now whats olds news may cA cW cI : Nat → Int32} {d w : Nat} (hn : ∀ j, j < 8 → now j = may j) (hr : ∀ j, j < 8 → zrg j (now j)) (hd : d < 40) (hw : w < 8) {b : Int32} (hb : zrg w b)
    (hE : ∀ j, j < d → whats j = cA j ∧ olds j = cW j ∧ news j = cI j ∧ ∃ w, w < 8 ∧ cA j = nI w ∧ zrg w (cW j) ∧ zrg w (cI j)) :
    yRC (upd now w b) (upd whats d (nI w)) (upd olds d (may w)) (upd news d b) (nI (d + 1)) (nI (d + 1)) (upd may w b) (upd cA d (nI w)) (upd cW d (may w)) (upd cI d b) (nI (d + 1)) (nI (d + 1)) := by
  refine ⟨q_syn hn w b, q_all (P := zrg) hr (fun _ => hb), d + 1, d + 1, Nat.le_refl _, by omega, rfl, rfl, rfl, rfl, fun j hj => ?_⟩
  by_cases e : j = d
  · subst e
    simp only [q_updS]
    refine ⟨trivial, trivial, trivial, w, hw, rfl, ?_, hb⟩
    rw [← hn w hw]; exact hr w hw
  · simp only [q_updN e]
    exact hE j (by omega)
theorem op_mend {s t : zSt} (h : yR s t) (a b : Int32) : yOp (f_g_mend a b) (f_m_mend a b) s t := by
  have e10 : ¬ (1 : Int32) = 0 := by decide
  by_cases hok : zOk a b
  · obtain ⟨w, hw, rfl, hb⟩ := id hok
    have hg := (p_allows (nI w) b s).1 hok
    have hm := (p_mayBe (nI w) b t).1 hok
    obtain ⟨⟨c1, c2, d, k, hdk, hk, e1, e2, e3, e4, hE⟩, h2⟩ := id h
    have hx : s.1 2 w = t.1 1 w := c1 w hw
    by_cases hxb : t.1 1 w = b
    · refine yOp_same b ?_ ?_ h
      · simp only [f_g_mend, hg, Option.bind_some, e10, if_false, f_rc_change, zld_at hw (show (8 : Nat) < 2147483648 by omega), hx, hxb, if_true]
      · simp only [f_m_mend, hm, Option.bind_some, e10, if_false, f_m_becomes, zld_at hw (show (8 : Nat) < 2147483648 by omega), hxb, if_true]
    · by_cases hd : d = 40
      · subst hd
        have hk2 : k = 40 := by omega
        subst hk2
        have e39 : nI 40 - 1 = nI 39 := rfl
        refine ⟨t.1 1 w, zw (zw (zw (zw (zw (zw (zw (zcps (zcps (zcps s 3 3 1 0 39) 4 4 1 0 39) 5 5 1 0 39) 1 4 (nI 39)) 3 39 (nI w)) 4 39 (t.1 1 w)) 5 39 b) 1 4 (nI 40)) 1 5 (nI 40)) 2 w b, zw (zw (zw (zw (zw (zw (zw (zshM t 40) 0 5 (nI 39)) 2 39 (nI w)) 3 39 (t.1 1 w)) 4 39 b) 0 5 (nI 40)) 0 4 (nI 40)) 1 w b, ?_, ?_, ?_⟩
        · simp only [f_g_mend, hg, Option.bind_some, e10, if_false, f_rc_change, zld_at hw (show (8 : Nat) < 2147483648 by omega), hx, hxb, f_rc_remember, e1, show nI 40 = (40 : Int32) from rfl, if_true, forget_at]
          rw [remember_at (d := 39) (by omega) (by rw [zw_v]; rfl)]
          simp only [Option.bind_some]
          rw [zst_at hw (by omega)]
          rfl
        · simp only [f_m_mend, hm, Option.bind_some, e10, if_false, f_m_becomes, zld_at hw (show (8 : Nat) < 2147483648 by omega), hxb, e3, show nI 40 = (40 : Int32) from rfl, if_true]
          have hl := becomes_loop (nI w) b (t.1 1 w) t 39 1 zFu (by omega) (by omega) (by have := zFu_big; omega)
          rw [zshM_1] at hl
          rw [show (1 : Int32) = nI 1 from rfl, hl, show (zshM t 40).1 0 5 - 1 = nI 39 by show t.1 0 5 - 1 = nI 39; rw [e3]; rfl]
          rw [becomes_at (d := 39) (by omega) hw (zw_v _ _ _ _) b _]
          rfl
        · refine ⟨?_, h2⟩
          refine yRC_push (d := 39) c1 c2 (by omega) hw hb (fun j hj => ?_)
          show va_cpy (s.1 3) (s.1 3) 1 0 39 j = zsh1 (t.1 2) 40 j ∧ va_cpy (s.1 4) (s.1 4) 1 0 39 j = zsh1 (t.1 3) 40 j ∧ va_cpy (s.1 5) (s.1 5) 1 0 39 j = zsh1 (t.1 4) 40 j ∧ ∃ w, w < 8 ∧ zsh1 (t.1 2) 40 j = nI w ∧ zrg w (zsh1 (t.1 3) 40 j) ∧ zrg w (zsh1 (t.1 4) 40 j)
          simp only [cpy_shift _ hj, zsh1_at _ hj]
          exact hE (j + 1) (by omega)
      · have hd2 : d < 40 := by omega
        have hne : ¬ nI d = (40 : Int32) := q_ne (b := 40) (by omega) (by omega) hd
        refine ⟨t.1 1 w, zw (zw (zw (zw (zw (zw s 3 d (nI w)) 4 d (t.1 1 w)) 5 d b) 1 4 (nI (d + 1))) 1 5 (nI (d + 1))) 2 w b, zw (zw (zw (zw (zw (zw t 2 d (nI w)) 3 d (t.1 1 w)) 4 d b) 0 5 (nI (d + 1))) 0 4 (nI (d + 1))) 1 w b, ?_, ?_, ?_⟩
        · simp only [f_g_mend, hg, Option.bind_some, e10, if_false, f_rc_change, zld_at hw (show (8 : Nat) < 2147483648 by omega), hx, hxb, f_rc_remember, e1, hne]
          rw [remember_at hd2 e1]
          simp only [Option.bind_some]
          rw [zst_at hw (by omega)]
          rfl
        · simp only [f_m_mend, hm, Option.bind_some, e10, if_false, f_m_becomes, zld_at hw (show (8 : Nat) < 2147483648 by omega), hxb, e3, hne]
          rw [becomes_at hd2 hw e3 b _]
          rfl
        · exact ⟨yRC_push c1 c2 hd2 hw hb (fun j hj => hE j (by omega)), h2⟩
  · have hg := (p_allows a b s).2 hok
    have hm := (p_mayBe a b t).2 hok
    exact yOp_same (-1) (by simp [f_g_mend, hg]) (by simp [f_m_mend, hm]) h
theorem op_undo {s t : zSt} (h : yR s t) : yOp f_g_undo f_m_undo s t := by
  obtain ⟨⟨c1, c2, d, k, hdk, hk, e1, e2, e3, e4, hE⟩, h2⟩ := id h
  by_cases hd : d = 0
  · subst hd
    exact yOp_same (-5) (by simp [f_g_undo, f_rc_takeBack, e1, show nI 0 = (0 : Int32) from rfl]) (by simp [f_m_undo, e3, show nI 0 = (0 : Int32) from rfl]) h
  · obtain ⟨d, rfl⟩ : ∃ x, d = x + 1 := ⟨d - 1, by omega⟩
    have hne : ¬ nI (d + 1) = (0 : Int32) := q_ne (b := 0) (by omega) (by omega) hd
    obtain ⟨a1, a2, a3, w, hw, a4, a5, a6⟩ := hE d (by omega)
    refine ⟨nI d, zw (zw s 1 4 (nI d)) 2 w (t.1 3 d), zw (zw t 0 5 (nI d)) 1 w (t.1 3 d), ?_, ?_, ?_⟩
    · simp only [f_g_undo, f_rc_takeBack, e1, hne, if_false, nI_pred, zw_v]
      rw [zld_at (show d < 40 by omega) (by omega)]
      simp only [Option.bind_some]
      rw [zld_at (show d < 40 by omega) (by omega)]
      simp only [Option.bind_some]
      rw [show (zw s 1 4 (nI d)).1 3 d = nI w from a1.trans a4, show (zw s 1 4 (nI d)).1 4 d = t.1 3 d from a2, zst_at hw (by omega)]
      simp only [Option.bind_some]
      rw [if_neg (by decide)]
      rfl
    · simp only [f_m_undo, e3, hne, if_false, nI_pred, zw_v]
      rw [zld_at (show d < 40 by omega) (by omega)]
      simp only [Option.bind_some]
      rw [zld_at (show d < 40 by omega) (by omega)]
      simp only [Option.bind_some]
      rw [show (zw t 0 5 (nI d)).1 2 d = nI w from a4, zst_at hw (by omega)]
      rfl
    · refine ⟨⟨q_syn c1 w _, q_all (P := zrg) c2 (fun _ => a5), d, k, by omega, hk, (show (zw s 1 4 (nI d)).1 1 4 = nI d from zw_v _ _ _ _), e2, (show (zw t 0 5 (nI d)).1 0 5 = nI d from zw_v _ _ _ _), e4, hE⟩, h2⟩
theorem op_redo {s t : zSt} (h : yR s t) : yOp f_g_redo f_m_redo s t := by
  obtain ⟨⟨c1, c2, d, k, hdk, hk, e1, e2, e3, e4, hE⟩, h2⟩ := id h
  by_cases hd : d = k
  · subst hd
    exact yOp_same (-5) (by simp [f_g_redo, f_rc_doAgain, e1, e2]) (by simp [f_m_redo, e3, e4]) h
  · have hne : ¬ nI d = nI k := q_ne (by omega) (by omega) hd
    obtain ⟨a1, a2, a3, w, hw, a4, a5, a6⟩ := hE d (by omega)
    refine ⟨nI k - nI (d + 1), zw (zw s 2 w (t.1 4 d)) 1 4 (nI (d + 1)), zw (zw t 1 w (t.1 4 d)) 0 5 (nI (d + 1)), ?_, ?_, ?_⟩
    · simp only [f_g_redo, f_rc_doAgain, e1, e2, hne, if_false]
      rw [zld_at (show d < 40 by omega) (by omega)]
      simp only [Option.bind_some]
      rw [zld_at (show d < 40 by omega) (by omega)]
      simp only [Option.bind_some]
      rw [show s.1 3 d = nI w from a1.trans a4, show s.1 5 d = t.1 4 d from a3, zst_at hw (by omega)]
      simp only [Option.bind_some]
      rw [show (zw s 2 w (t.1 4 d)).1 1 4 = nI d from e1, nI_1, if_neg (by decide), zw_v, show (zw (zw s 2 w (t.1 4 d)) 1 4 (nI (d + 1))).1 1 5 = nI k from e2]
    · simp only [f_m_redo, e3, e4, hne, if_false]
      rw [zld_at (show d < 40 by omega) (by omega)]
      simp only [Option.bind_some]
      rw [zld_at (show d < 40 by omega) (by omega)]
      simp only [Option.bind_some]
      rw [show t.1 2 d = nI w from a4, zst_at hw (by omega)]
      simp only [Option.bind_some]
      rw [show (zw t 1 w (t.1 4 d)).1 0 5 = nI d from e3, nI_1, zw_v, show (zw (zw t 1 w (t.1 4 d)) 0 5 (nI (d + 1))).1 0 4 = nI k from e4]
    · refine ⟨⟨q_syn c1 w _, q_all (P := zrg) c2 (fun _ => a6), d + 1, k, by omega, hk, zw_v _ _ _ _, e2, zw_v _ _ _ _, e4, hE⟩, h2⟩
