/-! THE PARSER 5: one operand; the readers together -/
theorem one_num {d0 d5 : zSt → Option (Int32 × zSt)} {N : Nat} {tx : Nat → Int32} {o p F' : Nat} {t : zSt} (ht : zMt N tx t p o) (h : ¬ dg (zsm N tx p)) : f_m_one_176 d0 d5 (F' + 1) 0 0 t = (f_m_wrong t).bind fun x => some (x.1, x.2) := by
  have e48 : (48 : Int32).toInt = 48 := rfl
  have e57 : (57 : Int32).toInt = 57 := rfl
  unfold f_m_one_176
  rw [if_neg (by decide), p_byte ht.1, Option.bind_some]
  dsimp only
  by_cases c1 : zsm N tx p < 48
  · rw [if_pos c1, if_pos rfl]
  · rw [if_neg c1, p_byte ht.1, Option.bind_some]
    dsimp only
    rw [if_pos (show 57 < zsm N tx p by rw [q_lt, e57]; rw [q_lt, e48] at c1; unfold dg at h; omega), if_pos rfl]
theorem open_t {N : Nat} {tx : Nat → Int32} {t : zSt} {p o : Nat} (h : zMt N tx t p o) (hp : p < N) : zMt N tx (zw (zw t 0 18 (t.1 0 18 + 1)) 0 15 ((zw t 0 18 (t.1 0 18 + 1)).1 0 15 + 1)) (p + 1) (o + 1) ∧ zMf t (zw (zw t 0 18 (t.1 0 18 + 1)) 0 15 ((zw t 0 18 (t.1 0 18 + 1)).1 0 15 + 1)) := by
  have F := zMf_w t (j := 18) (by omega) (t.1 0 18 + 1)
  obtain ⟨⟨h1, h2, h3, h4, h5⟩, h6, h7⟩ := h
  have h' : zMt N tx (zw t 0 18 (t.1 0 18 + 1)) p (o + 1) := ⟨⟨by rw [zw_o, if_neg (by omega)]; exact h1, by rw [zw_o, if_neg (by omega)]; exact h2, h3, h4, zBy_f h5 F⟩, by rw [zw_o, if_neg (by omega)]; exact h6, by rw [zw_o, if_pos rfl, h7, nI_1]⟩
  obtain ⟨b1, b2⟩ := adv_t h' hp
  exact ⟨b1, zMf_t F b2⟩
theorem close_t {N : Nat} {tx : Nat → Int32} {t : zSt} {p o : Nat} (h : zMt N tx t p (o + 1)) : zMt N tx (zw t 0 18 (t.1 0 18 - 1)) p o ∧ zMf t (zw t 0 18 (t.1 0 18 - 1)) := by
  have F := zMf_w t (j := 18) (by omega) (t.1 0 18 - 1)
  obtain ⟨⟨h1, h2, h3, h4, h5⟩, h6, h7⟩ := h
  exact ⟨⟨⟨by rw [zw_o, if_neg (by omega)]; exact h1, by rw [zw_o, if_neg (by omega)]; exact h2, h3, h4, zBy_f h5 F⟩, by rw [zw_o, if_neg (by omega)]; exact h6, by rw [zw_o, if_pos rfl, h7, nI_pred]⟩, F⟩
theorem close_x {N : Nat} {tx : Nat → Int32} {t : zSt} {p : Nat} (h : zMx N tx t p) : zMx N tx (zw t 0 18 (t.1 0 18 - 1)) p ∧ zMf t (zw t 0 18 (t.1 0 18 - 1)) := by
  have F := zMf_w t (j := 18) (by omega) (t.1 0 18 - 1)
  obtain ⟨⟨h1, h2, h3, h4, h5⟩, h6⟩ := h
  exact ⟨⟨⟨by rw [zw_o, if_neg (by omega)]; exact h1, by rw [zw_o, if_neg (by omega)]; exact h2, h3, h4, zBy_f h5 F⟩, by rw [zw_o, if_neg (by omega)]; exact h6⟩, F⟩
/-- the end of an operand behind ! or -, and of one in brackets -/
def zUna (x v : Int32) : Int32 := if x = 45 then -v else if v = 0 then 1 else 0
theorem one_un {d0 d5 : zSt → Option (Int32 × zSt)} {x : Int32} (hx : ¬ x = 40) (v : Int32) (t : zSt) : f_m_one_83 d0 d5 x v t = some (zUna x v, zw t 0 18 (t.1 0 18 - 1)) := by
  unfold f_m_one_83 zUna
  rw [if_neg hx]
  unfold f_m_one_104
  rw [if_neg hx]
  by_cases c : x = 45
  · rw [if_pos c, if_pos c]
  · rw [if_neg c, if_neg c]
    by_cases z : v = 0
    · rw [if_pos z, if_pos z]
    · rw [if_neg z, if_neg z]
theorem operand_open {N : Nat} {tx : Nat → Int32} {o : Nat} (ho : o ≤ 6) {c0 c5 : Int32 → zSt → Option (Int32 × zSt)} {d0 d5 : zSt → Option (Int32 × zSt)} (H0 : o < 6 → yPr N tx (o + 1) c0 d0) (H5 : o < 6 → yPr N tx (o + 1) c5 d5) {s : zSt} {p k : Nat} (hs : zPt N tx s p k) (hk : k ≤ p) {x : Int32} (hx : x = 40 ∨ x = 33 ∨ x = 45) (e : zsm N tx p = x) :
    ∃ r s', f_tp_readOperand_41 c0 c5 (nI o) x s = some (r, s') ∧ yRes N tx o s p k (fun t => f_m_one_32 d0 d5 x t) r s' := by
  have hN : N ≤ 120 := hs.1
  have hp : p < N := sm_lt (by rcases hx with rfl | rfl | rfl <;> decide) e
  by_cases c : o < 6
  · have hne : ∀ t, zMt N tx t p o → ¬ t.1 0 18 = 6 := fun t ht z => by
      rw [ht.2.2] at z
      have := (nI_eq (a := o) (b := 6) (by omega) (by omega)).mp z
      omega
    obtain ⟨a1, a2⟩ := adv_s hs hp
    have hlt : nI o < (6 : Int32) := nI_lt (b := 6) c (by omega)
    by_cases x40 : x = 40
    · subst x40
      obtain ⟨r1, s1, e1, p1, k1, q1, q2, q3, q4⟩ := H0 c _ (p + 1) k a1 (by omega)
      have hG : f_tp_readOperand_41 c0 c5 (nI o) 40 s = if r1 = 0 then some (0, s1) else if zsc N tx p1 = 41 then some (1, zw s1 13 4 (s1.1 13 4 + 1)) else some (0, s1) := by
        unfold f_tp_readOperand_41
        rw [if_pos hlt, if_pos rfl, nI_1, e1, Option.bind_some]
        dsimp only
        by_cases z : r1 = 0
        · rw [if_pos z, if_pos z]
        · rw [if_neg z, if_neg z, p_took q1]
          by_cases z2 : zsc N tx p1 = 41
          · rw [if_pos z2, Option.bind_some, if_neg q_neg10']
          · rw [if_neg z2, Option.bind_some, if_pos rfl]
      have hM : ∀ (t : zSt) (v : Int32) (t1 : zSt), zMt N tx t p o → d0 (zw (zw t 0 18 (t.1 0 18 + 1)) 0 15 ((zw t 0 18 (t.1 0 18 + 1)).1 0 15 + 1)) = some (v, t1) → f_m_one_32 d0 d5 40 t = (f_m_takes 41 t1).bind fun x13 => if x13.1 = 0 then (f_m_wrong x13.2).bind fun x14 => some (x14.1, x14.2) else some (v, zw x13.2 0 18 (x13.2.1 0 18 - 1)) := by
        intro t v t1 ht ed
        unfold f_m_one_32
        rw [if_neg (hne t ht), if_pos rfl, ed, Option.bind_some]
        unfold f_m_one_83
        rw [if_pos rfl]
        unfold f_m_one_104
        simp only [if_true]
      rw [hG]
      rcases q4 with ⟨rfl, q5, q6, q7⟩ | ⟨rfl, q5⟩
      · rw [if_neg q_neg10']
        by_cases z : zsm N tx p1 = 41
        · have hp1 := sm_lt (by decide) z
          obtain ⟨b1, b2⟩ := adv_s q1 hp1
          rw [if_pos ((sc_sm (by decide)).mpr z)]
          refine ⟨1, _, rfl, p1 + 1, k1, b1, zPf_t (zPf_t (a2 k) q2 (Nat.le_refl _)) (b2 k) (Nat.le_refl _), by omega, Or.inl ⟨rfl, q5, by omega, fun t ht => ?_⟩⟩
          obtain ⟨o1, o2⟩ := open_t ht hp
          obtain ⟨v, t1, f1, f2, f3, f4⟩ := q7 _ o1
          obtain ⟨g1, g2⟩ := adv_t f3 hp1
          obtain ⟨i1, i2⟩ := close_t g1
          refine ⟨v, _, ?_, zMf_t o2 (zMf_t f2 (zMf_t g2 i2)), i1, ?_⟩
          · try dsimp only
            rw [hM t v t1 ht f1, p_takes f3, if_pos z, Option.bind_some, if_neg q_neg10']
          · rw [o2.2.1 11 (by omega)] at f4
            exact vPush_cg f4 (fun j _ _ => by rw [zw_e (by omega)])
        · rw [if_neg (fun e => z ((sc_sm (by decide)).mp e))]
          refine ⟨0, s1, rfl, p1, k1, q1, zPf_t (a2 k) q2 (Nat.le_refl _), by omega, Or.inr ⟨rfl, fun t ht => ?_⟩⟩
          obtain ⟨o1, o2⟩ := open_t ht hp
          obtain ⟨v, t1, f1, f2, f3, f4⟩ := q7 _ o1
          obtain ⟨t2, w1, w2, w3⟩ := p_wrong f3
          exact ⟨0, t2, by
          try dsimp only
          rw [hM t v t1 ht f1, p_takes f3, if_neg z, Option.bind_some, if_pos rfl, w1, Option.bind_some], zMf_t o2 (zMf_t f2 w3), w2⟩
      · rw [if_pos rfl]
        refine ⟨0, s1, rfl, p1, k1, q1, zPf_t (a2 k) q2 (Nat.le_refl _), by omega, Or.inr ⟨rfl, fun t ht => ?_⟩⟩
        obtain ⟨o1, o2⟩ := open_t ht hp
        obtain ⟨v, t1, f1, f2, f3⟩ := q5 _ o1
        obtain ⟨t2, w1, w2, w3⟩ := p_wrongx f3
        exact ⟨0, t2, by
          try dsimp only
          rw [hM t v t1 ht f1, p_takesx f3, Option.bind_some, if_pos rfl, w1, Option.bind_some], zMf_t o2 (zMf_t f2 w3), w2⟩
    · obtain ⟨r1, s1, e1, p1, k1, q1, q2, q3, q4⟩ := H5 c _ (p + 1) k a1 (by omega)
      have hp1N : p1 ≤ N := q1.2.2.2.2.1
      have hM : ∀ (t : zSt) (v : Int32) (t1 : zSt), zMt N tx t p o → d5 (zw (zw t 0 18 (t.1 0 18 + 1)) 0 15 ((zw t 0 18 (t.1 0 18 + 1)).1 0 15 + 1)) = some (v, t1) → f_m_one_32 d0 d5 x t = some (zUna x v, zw t1 0 18 (t1.1 0 18 - 1)) := by
        intro t v t1 ht ed
        unfold f_m_one_32
        rw [if_neg (hne t ht), if_neg x40, ed, Option.bind_some]
        exact one_un x40 v t1
      have hG : f_tp_readOperand_41 c0 c5 (nI o) x s = if r1 = 0 then some (0, s1) else (f_tp_step (if x = 33 then -33 else -126) s1).bind fun x8 => if x8.1 = 0 then some (0, x8.2) else some (1, x8.2) := by
        unfold f_tp_readOperand_41
        rw [if_pos hlt, if_neg x40, nI_1, e1, Option.bind_some]
        dsimp only
        by_cases z : r1 = 0
        · rw [if_pos z, if_pos z]
        · rw [if_neg z, if_neg z]
          by_cases z2 : x = 33
          · rw [if_pos z2, if_pos z2]
          · rw [if_neg z2, if_neg z2]
      rw [hG]
      rcases q4 with ⟨rfl, q5, q6, q7⟩ | ⟨rfl, q5⟩
      · obtain ⟨s3, z1, z2, z3, z4⟩ := p_step q1 (show k1 < 121 by omega) (if x = 33 then -33 else -126)
        rw [if_neg q_neg10', z1, Option.bind_some, if_neg q_neg10']
        refine ⟨1, s3, rfl, p1, k1 + 1, z2, zPf_t (zPf_t (a2 k) q2 (Nat.le_refl _)) z3 q5, by omega, Or.inl ⟨rfl, by omega, by omega, fun t ht => ?_⟩⟩
        obtain ⟨o1, o2⟩ := open_t ht hp
        obtain ⟨v, t1, f1, f2, f3, f4⟩ := q7 _ o1
        obtain ⟨i1, i2⟩ := close_t f3
        refine ⟨zUna x v, _, hM t v t1 ht f1, zMf_t o2 (zMf_t f2 i2), i1, ?_⟩
        rw [o2.2.1 11 (by omega)] at f4
        have f5 : vPush (t.1 11) (s3.1 15) k k1 v := vPush_cg f4 (fun j _ j2 => z3.2.2.2 j j2)
        unfold zUna
        rcases hx with rfl | rfl | rfl
        · exact absurd rfl x40
        · rw [if_neg (by decide)]
          exact push_not f5 q5 (z4.trans (if_pos rfl))
        · rw [if_pos rfl]
          exact push_neg f5 q5 (z4.trans (if_neg (by decide)))
      · rw [if_pos rfl]
        refine ⟨0, s1, rfl, p1, k1, q1, zPf_t (a2 k) q2 (Nat.le_refl _), by omega, Or.inr ⟨rfl, fun t ht => ?_⟩⟩
        obtain ⟨o1, o2⟩ := open_t ht hp
        obtain ⟨v, t1, f1, f2, f3⟩ := q5 _ o1
        obtain ⟨i1, i2⟩ := close_x f3
        exact ⟨zUna x v, _, hM t v t1 ht f1, zMf_t o2 (zMf_t f2 i2), i1⟩
  · have e6 : o = 6 := by omega
    subst e6
    refine ⟨0, s, ?_, p, k, hs, zPf_r s k, Nat.le_refl _, Or.inr ⟨rfl, fun t ht => ?_⟩⟩
    · unfold f_tp_readOperand_41
      rw [if_neg (by decide)]
    · obtain ⟨t2, w1, w2, w3⟩ := p_wrong ht
      refine ⟨0, t2, ?_, w3, w2⟩
      show f_m_one_32 d0 d5 x t = _
      unfold f_m_one_32
      rw [ht.2.2, if_pos (show nI 6 = (6 : Int32) from rfl), w1, Option.bind_some]
theorem operand_rel {N : Nat} {tx : Nat → Int32} (htx : ∀ j, j < N → ∃ c : Nat, c < 256 ∧ tx j = nI c) {o : Nat} (ho : o ≤ 6) {c0 c5 : Int32 → zSt → Option (Int32 × zSt)} {d0 d5 : zSt → Option (Int32 × zSt)} (H0 : o < 6 → yPr N tx (o + 1) c0 d0) (H5 : o < 6 → yPr N tx (o + 1) c5 d5) : yPr N tx o (b_tp_readOperand c0 c5) (b_m_one d0 d5) := by
  intro s p k hs hk
  have hN : N ≤ 120 := hs.1
  have hzF := zFu_big
  obtain ⟨F, hF⟩ : ∃ x, zFu = x + 11 := ⟨zFu - 11, by omega⟩
  have hM : ∀ t, zMt N tx t p o → b_m_one d0 d5 t = if zsm N tx p = 33 then f_m_one_32 d0 d5 (zsm N tx p) t else if zsm N tx p = 45 then f_m_one_32 d0 d5 (zsm N tx p) t else if zsm N tx p = 40 then f_m_one_32 d0 d5 (zsm N tx p) t else (f_m_nameOf (zsm N tx p) t).bind fun x2 => if x2.1 < 0 then f_m_one_176 d0 d5 zFu 0 0 x2.2 else (zld (zw x2.2 0 15 ((x2.2.1 0 15) + 1)) 11 9 x2.1).bind fun x3 => some (x3, (zw x2.2 0 15 ((x2.2.1 0 15) + 1))) := by
    intro t ht
    unfold b_m_one
    rw [ht.2.1, if_pos (by decide), p_byte ht.1, Option.bind_some]
  have hG : b_tp_readOperand c0 c5 (nI o) s = if q01 (48 ≤ (zsc N tx p).toInt ∧ (zsc N tx p).toInt ≤ 57) = 0 then (if zsc N tx p = 40 then f_tp_readOperand_41 c0 c5 (nI o) (zsc N tx p) s else if zsc N tx p = 33 then f_tp_readOperand_41 c0 c5 (nI o) (zsc N tx p) s else if zsc N tx p = 45 then f_tp_readOperand_41 c0 c5 (nI o) (zsc N tx p) s else (f_tp_readName (zsc N tx p) s).bind fun x3 => (zbo x3.1).bind fun v => some (v, x3.2)) else (f_tp_readNumber s).bind fun x4 => (zbo x4.1).bind fun v => some (v, x4.2) := by
    unfold b_tp_readOperand
    rw [tp_nx hs, Option.bind_some]
    dsimp only
    rw [p_isDigit, Option.bind_some]
  have res_cg : ∀ (D : zSt → Option (Int32 × zSt)) (r : Int32) (s' : zSt), yRes N tx o s p k D r s' → (∀ t, zMt N tx t p o → b_m_one d0 d5 t = D t) → yRes N tx o s p k (b_m_one d0 d5) r s' := by
    intro D r s' ⟨p2, k2, w1, w2, w3, w4⟩ e
    refine ⟨p2, k2, w1, w2, w3, ?_⟩
    rcases w4 with ⟨rfl, w5, w6, w7⟩ | ⟨rfl, w5⟩
    · exact Or.inl ⟨rfl, w5, w6, fun t ht => by rw [e t ht]; exact w7 t ht⟩
    · exact Or.inr ⟨rfl, fun t ht => by rw [e t ht]; exact w5 t ht⟩
  rw [hG]
  by_cases cd : dg (zsm N tx p)
  · have n33 : ¬ zsm N tx p = 33 := fun e => by rw [e] at cd; exact absurd cd (by unfold dg; decide)
    have n45 : ¬ zsm N tx p = 45 := fun e => by rw [e] at cd; exact absurd cd (by unfold dg; decide)
    have n40 : ¬ zsm N tx p = 40 := fun e => by rw [e] at cd; exact absurd cd (by unfold dg; decide)
    rw [q01_t (show 48 ≤ (zsc N tx p).toInt ∧ (zsc N tx p).toInt ≤ 57 from dg_sc.mpr cd), if_neg q_neg10']
    obtain ⟨s', p', b, g1, g2, g3, g4, g5, g6, g7, g8⟩ := num_loop (d0 := d0) (d5 := d5) (o := o) 4 0 0 p k s zFu zFu (by omega) (by omega) (by omega) (by decide) hs (show k < 121 by have := hs.2.2.2.2.1; omega) (Or.inr cd)
    rw [show nI 0 = (0 : Int32) from rfl] at g1
    refine ⟨1, s', ?_, p', k + 1, g2, g3, g4, Or.inl ⟨rfl, by omega, by have := g5 rfl; omega, fun t ht => ?_⟩⟩
    · unfold f_tp_readNumber
      rw [g1, Option.bind_some, zbo_1, Option.bind_some]
    · obtain ⟨t', f1, f2, f3⟩ := g8 t ht
      rw [show nI 0 = (0 : Int32) from rfl] at f1
      refine ⟨nI b, t', ?_, f2, f3, push_num g6 (nI_pos' (by omega))⟩
      have hname : f_m_nameOf (zsm N tx p) t = some (-1, t) := by
        unfold f_m_nameOf
        rw [if_pos (by unfold dg at cd; omega)]
      rw [hM t ht, if_neg n33, if_neg n45, if_neg n40, hname, Option.bind_some, if_pos (show (-1 : Int32) < 0 by decide)]
      exact f1
  · rw [q01_f (show ¬ (48 ≤ (zsc N tx p).toInt ∧ (zsc N tx p).toInt ≤ 57) from fun h => cd (dg_sc.mp h)), if_pos rfl]
    by_cases c40 : zsm N tx p = 40
    · rw [if_pos ((sc_sm (by decide)).mpr c40), (sc_sm (by decide)).mpr c40]
      obtain ⟨r, s', e1, e2⟩ := operand_open ho H0 H5 hs hk (Or.inl rfl) c40
      exact ⟨r, s', e1, res_cg _ r s' e2 (fun t ht => by rw [hM t ht, c40, if_neg (by decide), if_neg (by decide), if_pos rfl])⟩
    · rw [if_neg (fun e => c40 ((sc_sm (by decide)).mp e))]
      by_cases c33 : zsm N tx p = 33
      · rw [if_pos ((sc_sm (by decide)).mpr c33), (sc_sm (by decide)).mpr c33]
        obtain ⟨r, s', e1, e2⟩ := operand_open ho H0 H5 hs hk (Or.inr (Or.inl rfl)) c33
        exact ⟨r, s', e1, res_cg _ r s' e2 (fun t ht => by rw [hM t ht, c33, if_pos rfl])⟩
      · rw [if_neg (fun e => c33 ((sc_sm (by decide)).mp e))]
        by_cases c45 : zsm N tx p = 45
        · rw [if_pos ((sc_sm (by decide)).mpr c45), (sc_sm (by decide)).mpr c45]
          obtain ⟨r, s', e1, e2⟩ := operand_open ho H0 H5 hs hk (Or.inr (Or.inr rfl)) c45
          exact ⟨r, s', e1, res_cg _ r s' e2 (fun t ht => by rw [hM t ht, c45, if_neg (by decide), if_pos rfl])⟩
        · rw [if_neg (fun e => c45 ((sc_sm (by decide)).mp e))]
          have bad : f_tp_readName (zsc N tx p) s = some (0, s) → (∀ t, f_m_nameOf (zsm N tx p) t = some (-1, t)) → ∃ r s', ((f_tp_readName (zsc N tx p) s).bind fun x3 => (zbo x3.1).bind fun v => some (v, x3.2)) = some (r, s') ∧ yRes N tx o s p k (b_m_one d0 d5) r s' := by
            intro e1 e2
            refine ⟨0, s, by rw [e1, Option.bind_some, zbo_0, Option.bind_some], p, k, hs, zPf_r s k, Nat.le_refl _, Or.inr ⟨rfl, fun t ht => ?_⟩⟩
            obtain ⟨t2, w1, w2, w3⟩ := p_wrong ht
            refine ⟨0, t2, ?_, w3, w2⟩
            rw [hM t ht, if_neg c33, if_neg c45, if_neg c40, e2, Option.bind_some, if_pos (show (-1 : Int32) < 0 by decide)]
            dsimp only
            rw [hF, one_num ht cd, w1, Option.bind_some]
          by_cases hp : p < N
          · have esc : zsc N tx p = zsm N tx p := zsc_eq hp
            obtain ⟨c, c1, c2⟩ := htx p hp
            have esm : zsm N tx p = nI c := by unfold zsm; rw [if_pos hp]; exact c2
            rcases name_of c1 with ⟨j, j1, j2, j3, j4⟩ | ⟨j1, j2⟩
            · obtain ⟨a1, a2⟩ := adv_s hs hp
              obtain ⟨s3, z1, z2, z3, z4⟩ := p_step a1 (show k < 121 by omega) ((-1) - nI j)
              have hn := name_hit j1 (j2.trans (esm.symm.trans esc.symm)) (fun i hi => by rw [esc, esm]; exact j3 i hi) s j 0 zFu (by omega) (by omega)
              rw [show nI 0 = (0 : Int32) from rfl, z1, Option.bind_some, zbo_1, Option.bind_some] at hn
              refine ⟨1, s3, ?_, p + 1, k + 1, z2, zPf_t (a2 k) z3 (Nat.le_refl _), by omega, Or.inl ⟨rfl, by omega, by omega, fun t ht => ?_⟩⟩
              · unfold f_tp_readName
                rw [hn, Option.bind_some, zbo_1, Option.bind_some]
              · obtain ⟨b1, b2⟩ := adv_t ht hp
                refine ⟨t.1 11 j, _, ?_, b2, b1, push_name j1 z4⟩
                rw [hM t ht, if_neg c33, if_neg c45, if_neg c40, esm, j4 t, Option.bind_some, if_neg (show ¬ nI j < 0 from nI_pos (by omega)), zld_at (show j < 9 by omega) (by omega), Option.bind_some, zw_e (by omega)]
            · refine bad ?_ (fun t => by rw [esm]; exact j2 t)
              have := name_none (x := zsc N tx p) (fun i hi => by rw [esc, esm]; exact j1 i hi) s 9 0 zFu (by omega) (by omega)
              rw [show nI 0 = (0 : Int32) from rfl] at this
              exact this
          · have e1 : zsc N tx p = -1 := by unfold zsc; rw [if_neg hp]
            have e2 : zsm N tx p = 0 := by unfold zsm; rw [if_neg hp]
            refine bad ?_ (fun t => ?_)
            · have := name_none (x := zsc N tx p) (by rw [e1]; decide) s 9 0 zFu (by omega) (by omega)
              rw [show nI 0 = (0 : Int32) from rfl] at this
              exact this
            · rw [e2]
              unfold f_m_nameOf
              rw [if_pos (by decide)]
theorem all_rel {N : Nat} {tx : Nat → Int32} (htx : ∀ j, j < N → ∃ c : Nat, c < 256 ∧ tx j = nI c) : ∀ (D o i n n' : Nat), i ≤ 5 → o ≤ 6 → (6 - o) * 6 + (6 - i) ≤ D → D ≤ n → D ≤ n' → yPr N tx o (F_tp n i) (F_m n' i) := by
  intro D
  induction D with
  | zero => intro o i n n' hi ho hD; omega
  | succ D ih =>
    intro o i n n' hi ho hD hn hn'
    obtain ⟨n, rfl⟩ : ∃ x, n = x + 1 := ⟨n - 1, by omega⟩
    obtain ⟨n', rfl⟩ : ∃ x, n' = x + 1 := ⟨n' - 1, by omega⟩
    match i, hi with
    | 0, _ => exact either_rel (ih o 1 n n' (by omega) ho (by omega) (by omega) (by omega))
    | 1, _ => exact both_rel (ih o 2 n n' (by omega) ho (by omega) (by omega) (by omega))
    | 2, _ => exact compared_rel (ih o 3 n n' (by omega) ho (by omega) (by omega) (by omega))
    | 3, _ => exact sum_rel (ih o 4 n n' (by omega) ho (by omega) (by omega) (by omega))
    | 4, _ => exact prod_rel (ih o 5 n n' (by omega) ho (by omega) (by omega) (by omega))
    | 5, _ => exact operand_rel htx ho (fun c => ih (o + 1) 0 n n' (by omega) (by omega) (by omega) (by omega) (by omega)) (fun c => ih (o + 1) 5 n n' (by omega) (by omega) (by omega) (by omega) (by omega))
theorem read_rel {N : Nat} {tx : Nat → Int32} (htx : ∀ j, j < N → ∃ c : Nat, c < 256 ∧ tx j = nI c) : yPr N tx 0 f_tp_readEither f_m_either :=
  all_rel htx 42 0 0 70 70 (by omega) (by omega) (by omega) (by omega) (by omega)
