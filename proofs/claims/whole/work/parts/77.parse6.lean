/-! THE PARSER 6: lines, the whole text -/
/-- what a line that was read does for the answer -/
def yLv (nm st : Nat → Int32) (k k' : Nat) (dn v dn' v' : Int32) : Prop := (dn = 1 → dn' = 1 ∧ v' = v) ∧ (dn = 0 → (dn' = 1 ∧ ∀ (st' : Nat → Int32) (M : Nat), (∀ j, k ≤ j → j < k' → st' j = st j) → k' ≤ M → vT nm st' M k [] = v') ∨ (dn' = 0 ∧ v' = v ∧ ∀ (st' : Nat → Int32) (M : Nat), (∀ j, k ≤ j → j < k' → st' j = st j) → k' ≤ M → vT nm st' M k [] = vT nm st' M k' []))
theorem work_74x {N : Nat} {tx : Nat → Int32} {t : zSt} {p : Nat} (h : zMx N tx t p) (k33 : Int32 → Int32 → Int32 → zSt → Option (Int32 × zSt)) (dn v v6 v7 : Int32) : f_m_workOut_74 k33 dn v v6 v7 t = (f_m_takes 59 t).bind fun x => k33 dn v x.1 x.2 := by
  unfold f_m_workOut_74
  rw [if_pos (zMx_p h)]
theorem work_74 {N : Nat} {tx : Nat → Int32} {t : zSt} {p o : Nat} (h : zMt N tx t p o) (k33 : Int32 → Int32 → Int32 → zSt → Option (Int32 × zSt)) (dn v v6 v7 : Int32) : f_m_workOut_74 k33 dn v v6 v7 t = (f_m_takes 59 t).bind fun x => if v7 = 0 then k33 dn v x.1 x.2 else if dn = 0 then k33 1 v6 x.1 x.2 else k33 dn v x.1 x.2 := by
  unfold f_m_workOut_74
  rw [h.2.1, if_neg (by decide)]
  by_cases z : v7 = 0
  · rw [if_pos z]
    simp only [if_pos z]
  · rw [if_neg z]
    simp only [if_neg z]
    by_cases z2 : dn = 0
    · rw [if_pos z2]
      simp only [if_pos z2]
    · rw [if_neg z2]
      simp only [if_neg z2]
theorem line_rel {N : Nat} {tx : Nat → Int32} (htx : ∀ j, j < N → ∃ c : Nat, c < 256 ∧ tx j = nI c) {s : zSt} {p k : Nat} (hs : zPt N tx s p k) (hk : k ≤ p) :
    ∃ r s' p' k', f_tp_readLine s = some (r, s') ∧ zPt N tx s' p' k' ∧ zPf s s' k ∧ p ≤ p' ∧ ((r = 1 ∧ k ≤ k' ∧ k' + p ≤ p' + k + 1 ∧ ∀ t, zMt N tx t p 0 → ∃ t', zMf t t' ∧ zMt N tx t' p' 0 ∧ ∀ (dn v : Int32), (dn = 0 ∨ dn = 1) → ∃ dn' v', yLv (t.1 11) (s'.1 15) k k' dn v dn' v' ∧ ∀ F', f_m_workOut_33 (F' + 1) dn v 1 t = (f_m_takes 59 t').bind fun x => f_m_workOut_33 F' dn' v' x.1 x.2) ∨ (r = 0 ∧ ∀ t, zMt N tx t p 0 → ∃ t', zMf t t' ∧ zMx N tx t' p' ∧ ∀ (dn v : Int32) F', f_m_workOut_33 (F' + 1) dn v 1 t = (f_m_takes 59 t').bind fun x => f_m_workOut_33 F' dn v x.1 x.2)) := by
  have hN : N ≤ 120 := hs.1
  have H := read_rel htx
  obtain ⟨r1, s1, e1, p1, k1, q1, q2, q3, q4⟩ := H s p k hs hk
  rw [show nI 0 = (0 : Int32) from rfl] at e1
  have hp1N : p1 ≤ N := q1.2.2.2.2.1
  unfold f_tp_readLine
  rw [e1, Option.bind_some]
  dsimp only
  rcases q4 with ⟨rfl, q5, q6, q7⟩ | ⟨rfl, q5⟩
  · rw [if_neg q_neg10', p_took q1]
    by_cases z : zsm N tx p1 = 63
    · have hp1 := sm_lt (by decide) z
      obtain ⟨a1, a2⟩ := adv_s q1 hp1
      obtain ⟨r2, s2, e2, p2, k2, w1, w2, w3, w4⟩ := H _ (p1 + 1) k1 a1 (by omega)
      rw [show nI 0 = (0 : Int32) from rfl] at e2
      have hp2N : p2 ≤ N := w1.2.2.2.2.1
      rw [if_pos ((sc_sm (by decide)).mpr z), Option.bind_some, if_neg q_neg10', e2, Option.bind_some]
      dsimp only
      have F12 : zPf s1 s2 k1 := zPf_t (a2 k1) w2 (Nat.le_refl _)
      have hR : ∀ (t : zSt) (dn v c : Int32) (t1 : zSt) F', f_m_either t = some (c, t1) → zMt N tx t1 p1 0 → f_m_workOut_33 (F' + 1) dn v 1 t = f_m_workOut_66 (f_m_workOut_33 F') dn v (if c = 0 then 0 else 1) (zw t1 0 15 (t1.1 0 15 + 1)) := by
        intro t dn v c t1 F' ee ht1
        conv => lhs; unfold f_m_workOut_33
        rw [if_neg q_neg10', ee, Option.bind_some]
        dsimp only
        rw [p_takes ht1, if_pos z, Option.bind_some, if_neg q_neg10']
        by_cases zc : c = 0
        · rw [if_pos zc, if_pos zc]
        · rw [if_neg zc, if_neg zc]
      rcases w4 with ⟨rfl, w5, w6, w7⟩ | ⟨rfl, w5⟩
      · obtain ⟨s3, z1, z2, z3, z4⟩ := p_step w1 (show k2 < 121 by omega) (-63)
        rw [if_neg q_neg10', z1, Option.bind_some, if_neg q_neg10']
        refine ⟨1, s3, p2, k2 + 1, rfl, z2, zPf_t (zPf_t q2 F12 q5) z3 (by omega), by omega, Or.inl ⟨rfl, by omega, by omega, fun t ht => ?_⟩⟩
        obtain ⟨c, t1, f1, f2, f3, f4⟩ := q7 t ht
        obtain ⟨b1, b2⟩ := adv_t f3 hp1
        obtain ⟨v2, t2, g1, g2, g3, g4⟩ := w7 _ b1
        have N11 : (zw t1 0 15 (t1.1 0 15 + 1)).1 11 = t.1 11 := (b2.2.1 11 (by omega)).trans (f2.2.1 11 (by omega))
        rw [N11] at g4
        have P1 : vPush (t.1 11) (s3.1 15) k k1 c := vPush_cg f4 (fun j _ j2 => (zPf_t F12 z3 w5).2.2.2 j j2)
        have P2 : vPush (t.1 11) (s3.1 15) k1 k2 v2 := vPush_cg g4 (fun j _ j2 => z3.2.2.2 j j2)
        refine ⟨t2, zMf_t f2 (zMf_t b2 g2), g3, fun dn v hdn => ?_⟩
        have hW : ∀ F', f_m_workOut_33 (F' + 1) dn v 1 t = (f_m_takes 59 t2).bind fun x => if (if c = 0 then (0 : Int32) else 1) = 0 then f_m_workOut_33 F' dn v x.1 x.2 else if dn = 0 then f_m_workOut_33 F' 1 v2 x.1 x.2 else f_m_workOut_33 F' dn v x.1 x.2 := by
          intro F'
          rw [hR t dn v c t1 F' f1 f3]
          unfold f_m_workOut_66
          rw [g1, Option.bind_some]
          exact work_74 g3 _ dn v v2 _
        by_cases zc : c = 0
        · refine ⟨dn, v, ⟨fun h => ⟨h, rfl⟩, fun h => Or.inr ⟨h, rfl, fun st' M h1 h2 => ?_⟩⟩, fun F' => ?_⟩
          · rw [line_if P1 P2 q5 w5 z4 h1 h2, if_pos zc]
          · rw [hW]
            simp only [if_pos zc, if_true]
        · rcases hdn with rfl | rfl
          · refine ⟨1, v2, ⟨fun h => absurd h (by decide), fun _ => Or.inl ⟨rfl, fun st' M h1 h2 => ?_⟩⟩, fun F' => ?_⟩
            · rw [line_if P1 P2 q5 w5 z4 h1 h2, if_neg zc]
            · rw [hW]
              simp only [if_neg zc, if_neg q_neg10', if_true]
          · refine ⟨1, v, ⟨fun _ => ⟨rfl, rfl⟩, fun h => absurd h (by decide)⟩, fun F' => ?_⟩
            rw [hW]
            simp only [if_neg zc, if_neg q_neg10']
      · rw [if_pos rfl]
        refine ⟨0, s2, p2, k2, rfl, w1, zPf_t q2 F12 q5, by omega, Or.inr ⟨rfl, fun t ht => ?_⟩⟩
        obtain ⟨c, t1, f1, f2, f3, f4⟩ := q7 t ht
        obtain ⟨b1, b2⟩ := adv_t f3 hp1
        obtain ⟨v2, t2, g1, g2, g3⟩ := w5 _ b1
        refine ⟨t2, zMf_t f2 (zMf_t b2 g2), g3, fun dn v F' => ?_⟩
        rw [hR t dn v c t1 F' f1 f3]
        unfold f_m_workOut_66
        rw [g1, Option.bind_some]
        exact work_74x g3 _ dn v v2 _
    · rw [if_neg (fun e => z ((sc_sm (by decide)).mp e)), Option.bind_some, if_pos rfl]
      dsimp only
      obtain ⟨s3, z1, z2, z3, z4⟩ := p_step q1 (show k1 < 121 by omega) (-59)
      rw [z1, Option.bind_some]
      dsimp only
      rw [zbo_1, Option.bind_some]
      refine ⟨1, s3, p1, k1 + 1, rfl, z2, zPf_t q2 z3 q5, q3, Or.inl ⟨rfl, by omega, by omega, fun t ht => ?_⟩⟩
      obtain ⟨c, t1, f1, f2, f3, f4⟩ := q7 t ht
      have P1 : vPush (t.1 11) (s3.1 15) k k1 c := vPush_cg f4 (fun j _ j2 => z3.2.2.2 j j2)
      refine ⟨t1, f2, f3, fun dn v hdn => ?_⟩
      have hW : ∀ F', f_m_workOut_33 (F' + 1) dn v 1 t = (f_m_takes 59 t1).bind fun x => if dn = 0 then f_m_workOut_33 F' 1 c x.1 x.2 else f_m_workOut_33 F' dn v x.1 x.2 := by
        intro F'
        conv => lhs; unfold f_m_workOut_33
        rw [if_neg q_neg10', f1, Option.bind_some]
        dsimp only
        rw [p_takes f3, if_neg z, Option.bind_some, if_pos rfl]
        dsimp only
        rw [work_74 f3]
        simp only [if_neg q_neg10']
      rcases hdn with rfl | rfl
      · refine ⟨1, c, ⟨fun h => absurd h (by decide), fun _ => Or.inl ⟨rfl, fun st' M h1 h2 => line_end P1 q5 z4 h1 h2⟩⟩, fun F' => ?_⟩
        rw [hW]
        simp only [if_true]
      · refine ⟨1, v, ⟨fun _ => ⟨rfl, rfl⟩, fun h => absurd h (by decide)⟩, fun F' => ?_⟩
        rw [hW]
        simp only [if_neg q_neg10']
  · rw [if_pos rfl]
    refine ⟨0, s1, p1, k1, rfl, q1, q2, q3, Or.inr ⟨rfl, fun t ht => ?_⟩⟩
    obtain ⟨c, t1, f1, f2, f3⟩ := q5 t ht
    refine ⟨t1, f2, f3, fun dn v F' => ?_⟩
    conv => lhs; unfold f_m_workOut_33
    rw [if_neg q_neg10', f1, Option.bind_some]
    dsimp only
    rw [p_takesx f3, Option.bind_some, if_pos rfl]
    dsimp only
    rw [work_74x f3, p_takesx f3]
theorem work_0x {N : Nat} {tx : Nat → Int32} {t : zSt} {p : Nat} (h : zMx N tx t p) (F : Nat) (dn v : Int32) : f_m_workOut_33 (F + 1) dn v 0 t = some (v, t) := by
  unfold f_m_workOut_33
  rw [if_pos rfl, if_pos (zMx_p h)]
theorem work_0 {N : Nat} {tx : Nat → Int32} {t : zSt} {p o : Nat} (h : zMt N tx t p o) (F : Nat) (dn v : Int32) : f_m_workOut_33 (F + 1) dn v 0 t = if N ≤ p then some (v, t) else (f_m_wrong t).bind fun x1 => some (x1.1, x1.2) := by
  have h' := h.1
  obtain ⟨h1, h2, h3, h4, -⟩ := h'
  unfold f_m_workOut_33
  rw [if_pos rfl, h.2.1, if_neg (by decide), h1, h2]
  by_cases c : N ≤ p
  · rw [if_pos c, if_pos (nI_le c (by omega))]
  · rw [if_neg c, if_neg (nI_ge (by omega) (by omega))]
theorem read_60 {N : Nat} {tx : Nat → Int32} {s : zSt} {p k : Nat} (h : zPt N tx s p k) (v : Int32) : f_tp_read_60 v s = if v = 0 then some (nI p, s) else if p = N then some (-1, s) else some (nI p, s) := by
  obtain ⟨hN, h1, h4, h3, hp, hk, hl⟩ := h
  unfold f_tp_read_60
  rw [h1, h4]
  by_cases z : v = 0
  · rw [if_pos z, if_pos z]
  · rw [if_neg z, if_neg z]
    by_cases c : p = N
    · rw [if_pos c, if_pos (by rw [c])]
    · rw [if_neg c, if_neg (fun e => c ((nI_eq (by omega) (by omega)).mp e))]
def yRd (N : Nat) (tx : Nat → Int32) (s : zSt) (p k : Nat) (F' : Nat) (r : Int32) (s' : zSt) : Prop := ∃ p' k', zPt N tx s' p' k' ∧ zPf s s' k ∧ ((r = -1 ∧ k ≤ k' ∧ ∀ t, zMt N tx t p 0 → (∃ t', f_m_workOut_33 F' 0 0 1 t = some (vT (t.1 11) (s'.1 15) k' k [], t') ∧ zMf t t' ∧ t'.1 0 17 = -1) ∧ ∀ v, ∃ t', f_m_workOut_33 F' 1 v 1 t = some (v, t') ∧ zMf t t' ∧ t'.1 0 17 = -1) ∨ (r = nI p' ∧ ∀ t dn v, zMt N tx t p 0 → (dn = 0 ∨ dn = 1) → ∃ v' t', f_m_workOut_33 F' dn v 1 t = some (v', t') ∧ zMf t t' ∧ t'.1 0 17 = nI p'))
theorem read_loop {N : Nat} {tx : Nat → Int32} (htx : ∀ j, j < N → ∃ c : Nat, c < 256 ∧ tx j = nI c) : ∀ (m p k : Nat) (s : zSt) (i F F' : Nat), N - p ≤ m → m + 1 < F → m + 1 < F' → i ≤ p → zPt N tx s p k → k ≤ p →
    ∃ r s', f_tp_read_16 F 1 1 (nI i) s = some (r, s') ∧ yRd N tx s p k F' r s' := by
  intro m
  induction m with
  | zero =>
    intro p k s i F F' hm hF hF' hi hs hk
    obtain ⟨F, rfl⟩ : ∃ x, F = x + 2 := ⟨F - 2, by omega⟩
    obtain ⟨F', rfl⟩ : ∃ x, F' = x + 2 := ⟨F' - 2, by omega⟩
    have hN : N ≤ 120 := hs.1
    have hpN : p ≤ N := hs.2.2.2.2.1
    obtain ⟨r, s1, p1, k1, e1, q1, q2, q3, q4⟩ := line_rel htx hs hk
    have hp1N : p1 ≤ N := q1.2.2.2.2.1
    have e120 : ¬ (120 : Int32) < nI i := nI_nlt (b := i) (a := 120) (by omega) (by omega)
    have hG : f_tp_read_16 (F + 2) 1 1 (nI i) s = if r = 0 then f_tp_read_16 (F + 1) r 0 (nI i + 1) s1 else (f_tp_took 59 s1).bind fun x2 => if x2.1 = 0 then f_tp_read_16 (F + 1) r 0 (nI i + 1) x2.2 else f_tp_read_16 (F + 1) r 1 (nI i + 1) x2.2 := by
      conv => lhs; unfold f_tp_read_16
      rw [if_neg q_neg10', if_neg q_neg10', if_neg e120, e1, Option.bind_some]
    rw [hG]
    rcases q4 with ⟨rfl, q5, q6, q7⟩ | ⟨rfl, q5⟩
    · have z : ¬ zsm N tx p1 = 59 := fun e => by have := sm_lt (by decide) e; omega
      have hpe : p1 = N := by omega
      rw [if_neg q_neg10', p_took q1, if_neg (fun e => z ((sc_sm (by decide)).mp e)), Option.bind_some, if_pos rfl]
      dsimp only
      refine ⟨-1, s1, ?_, p1, k1, q1, q2, Or.inl ⟨rfl, q5, fun t ht => ?_⟩⟩
      · unfold f_tp_read_16
        rw [if_neg q_neg10', if_pos rfl, read_60 q1, if_neg q_neg10', if_pos hpe]
      · obtain ⟨t', f1, f2, f3⟩ := q7 t ht
        have fin : ∀ dn v, f_m_workOut_33 (F' + 1) dn v 0 t' = some (v, t') := fun dn v => by rw [work_0 f2, if_pos (by omega)]
        constructor
        · obtain ⟨dn', v', g1, g2⟩ := f3 0 0 (Or.inl rfl)
          refine ⟨t', ?_, f1, f2.2.1⟩
          rw [g2, p_takes f2, if_neg z, Option.bind_some]
          dsimp only
          rw [fin]
          rcases g1.2 rfl with ⟨h1, h2⟩ | ⟨h1, h2, h3⟩
          · rw [h2 (s1.1 15) k1 (fun _ _ _ => rfl) (Nat.le_refl _)]
          · rw [h3 (s1.1 15) k1 (fun _ _ _ => rfl) (Nat.le_refl _), h2]
            unfold vT
            rw [Nat.sub_self]
            rfl
        · intro v
          obtain ⟨dn', v', g1, g2⟩ := f3 1 v (Or.inr rfl)
          refine ⟨t', ?_, f1, f2.2.1⟩
          rw [g2, p_takes f2, if_neg z, Option.bind_some]
          dsimp only
          rw [fin, (g1.1 rfl).2]
    · rw [if_pos rfl]
      refine ⟨nI p1, s1, ?_, p1, k1, q1, q2, Or.inr ⟨rfl, fun t dn v ht _ => ?_⟩⟩
      · unfold f_tp_read_16
        rw [if_pos rfl, read_60 q1, if_pos rfl]
      · obtain ⟨t', f1, f2, f3⟩ := q5 t ht
        refine ⟨v, t', ?_, f1, f2.2⟩
        rw [f3, p_takesx f2, Option.bind_some]
        exact work_0x f2 _ _ _
  | succ m ih =>
    intro p k s i F F' hm hF hF' hi hs hk
    obtain ⟨F, rfl⟩ : ∃ x, F = x + 2 := ⟨F - 2, by omega⟩
    obtain ⟨F', rfl⟩ : ∃ x, F' = x + 2 := ⟨F' - 2, by omega⟩
    have hN : N ≤ 120 := hs.1
    have hpN : p ≤ N := hs.2.2.2.2.1
    obtain ⟨r, s1, p1, k1, e1, q1, q2, q3, q4⟩ := line_rel htx hs hk
    have hp1N : p1 ≤ N := q1.2.2.2.2.1
    have e120 : ¬ (120 : Int32) < nI i := nI_nlt (b := i) (a := 120) (by omega) (by omega)
    have hG : f_tp_read_16 (F + 2) 1 1 (nI i) s = if r = 0 then f_tp_read_16 (F + 1) r 0 (nI i + 1) s1 else (f_tp_took 59 s1).bind fun x2 => if x2.1 = 0 then f_tp_read_16 (F + 1) r 0 (nI i + 1) x2.2 else f_tp_read_16 (F + 1) r 1 (nI i + 1) x2.2 := by
      conv => lhs; unfold f_tp_read_16
      rw [if_neg q_neg10', if_neg q_neg10', if_neg e120, e1, Option.bind_some]
    rw [hG]
    rcases q4 with ⟨rfl, q5, q6, q7⟩ | ⟨rfl, q5⟩
    · rw [if_neg q_neg10', p_took q1]
      by_cases z : zsm N tx p1 = 59
      · have hp1 := sm_lt (by decide) z
        obtain ⟨a1, a2⟩ := adv_s q1 hp1
        rw [if_pos ((sc_sm (by decide)).mpr z), Option.bind_some, if_neg q_neg10', nI_1]
        dsimp only
        obtain ⟨r2, s2, e2, p2, k2, w1, w2, w3⟩ := ih (p1 + 1) k1 _ (i + 1) (F + 1) (F' + 1) (by omega) (by omega) (by omega) (by omega) a1 (by omega)
        have F12 : zPf s1 s2 k1 := zPf_t (a2 k1) w2 (Nat.le_refl _)
        refine ⟨r2, s2, e2, p2, k2, w1, zPf_t q2 F12 q5, ?_⟩
        have hR : ∀ (t' : zSt), zMt N tx t' p1 0 → ∀ dn v, ((f_m_takes 59 t').bind fun x => f_m_workOut_33 (F' + 1) dn v x.1 x.2) = f_m_workOut_33 (F' + 1) dn v 1 (zw t' 0 15 (t'.1 0 15 + 1)) := by
          intro t' ht' dn v
          rw [p_takes ht', if_pos z, Option.bind_some]
        rcases w3 with ⟨rfl, w5, w6⟩ | ⟨rfl, w5⟩
        · refine Or.inl ⟨rfl, by omega, fun t ht => ?_⟩
          obtain ⟨t', f1, f2, f3⟩ := q7 t ht
          obtain ⟨b1, b2⟩ := adv_t f2 hp1
          obtain ⟨x1, x2⟩ := w6 _ b1
          have N11 : (zw t' 0 15 (t'.1 0 15 + 1)).1 11 = t.1 11 := (b2.2.1 11 (by omega)).trans (f1.2.1 11 (by omega))
          have AG : ∀ j, k ≤ j → j < k1 → s2.1 15 j = s1.1 15 j := fun j _ j2 => F12.2.2.2 j j2
          constructor
          · obtain ⟨dn', v', g1, g2⟩ := f3 0 0 (Or.inl rfl)
            rw [g2, hR t' f2]
            rcases g1.2 rfl with ⟨h1, h2⟩ | ⟨h1, h2, h3⟩
            · obtain ⟨t2, y1, y2, y3⟩ := x2 v'
              exact ⟨t2, by rw [h1, y1, h2 (s2.1 15) k2 AG w5], zMf_t f1 (zMf_t b2 y2), y3⟩
            · obtain ⟨t2, y1, y2, y3⟩ := x1
              exact ⟨t2, by rw [h1, h2, y1, h3 (s2.1 15) k2 AG w5, N11], zMf_t f1 (zMf_t b2 y2), y3⟩
          · intro v
            obtain ⟨dn', v', g1, g2⟩ := f3 1 v (Or.inr rfl)
            obtain ⟨t2, y1, y2, y3⟩ := x2 v
            exact ⟨t2, by rw [g2, hR t' f2, (g1.1 rfl).1, (g1.1 rfl).2, y1], zMf_t f1 (zMf_t b2 y2), y3⟩
        · refine Or.inr ⟨rfl, fun t dn v ht hdn => ?_⟩
          obtain ⟨t', f1, f2, f3⟩ := q7 t ht
          obtain ⟨b1, b2⟩ := adv_t f2 hp1
          obtain ⟨dn', v', g1, g2⟩ := f3 dn v hdn
          have hd' : dn' = 0 ∨ dn' = 1 := by
            rcases hdn with h | h
            · rcases g1.2 h with ⟨h1, -⟩ | ⟨h1, -⟩
              · exact Or.inr h1
              · exact Or.inl h1
            · exact Or.inr (g1.1 h).1
          obtain ⟨v2, t2, y1, y2, y3⟩ := w5 _ dn' v' b1 hd'
          exact ⟨v2, t2, by rw [g2, hR t' f2, y1], zMf_t f1 (zMf_t b2 y2), y3⟩
      · rw [if_neg (fun e => z ((sc_sm (by decide)).mp e)), Option.bind_some, if_pos rfl]
        dsimp only
        have h60 : f_tp_read_16 (F + 1) 1 0 (nI i + 1) s1 = if p1 = N then some (-1, s1) else some (nI p1, s1) := by
          unfold f_tp_read_16
          rw [if_neg q_neg10', if_pos rfl, read_60 q1, if_neg q_neg10']
        rw [h60]
        by_cases hpe : p1 = N
        · rw [if_pos hpe]
          refine ⟨-1, s1, rfl, p1, k1, q1, q2, Or.inl ⟨rfl, q5, fun t ht => ?_⟩⟩
          obtain ⟨t', f1, f2, f3⟩ := q7 t ht
          have fin : ∀ dn v, f_m_workOut_33 (F' + 1) dn v 0 t' = some (v, t') := fun dn v => by rw [work_0 f2, if_pos (by omega)]
          constructor
          · obtain ⟨dn', v', g1, g2⟩ := f3 0 0 (Or.inl rfl)
            refine ⟨t', ?_, f1, f2.2.1⟩
            rw [g2, p_takes f2, if_neg z, Option.bind_some]
            dsimp only
            rw [fin]
            rcases g1.2 rfl with ⟨h1, h2⟩ | ⟨h1, h2, h3⟩
            · rw [h2 (s1.1 15) k1 (fun _ _ _ => rfl) (Nat.le_refl _)]
            · rw [h3 (s1.1 15) k1 (fun _ _ _ => rfl) (Nat.le_refl _), h2]
              unfold vT
              rw [Nat.sub_self]
              rfl
          · intro v
            obtain ⟨dn', v', g1, g2⟩ := f3 1 v (Or.inr rfl)
            refine ⟨t', ?_, f1, f2.2.1⟩
            rw [g2, p_takes f2, if_neg z, Option.bind_some]
            dsimp only
            rw [fin, (g1.1 rfl).2]
        · rw [if_neg hpe]
          refine ⟨nI p1, s1, rfl, p1, k1, q1, q2, Or.inr ⟨rfl, fun t dn v ht hdn => ?_⟩⟩
          obtain ⟨t', f1, f2, f3⟩ := q7 t ht
          obtain ⟨dn', v', g1, g2⟩ := f3 dn v hdn
          obtain ⟨t2, y1, y2, y3⟩ := p_wrong f2
          refine ⟨0, t2, ?_, zMf_t f1 y3, y2.2⟩
          rw [g2, p_takes f2, if_neg z, Option.bind_some]
          dsimp only
          rw [work_0 f2, if_neg (by omega), y1, Option.bind_some]
    · rw [if_pos rfl]
      refine ⟨nI p1, s1, ?_, p1, k1, q1, q2, Or.inr ⟨rfl, fun t dn v ht _ => ?_⟩⟩
      · unfold f_tp_read_16
        rw [if_pos rfl, read_60 q1, if_pos rfl]
      · obtain ⟨t', f1, f2, f3⟩ := q5 t ht
        refine ⟨v, t', ?_, f1, f2.2⟩
        rw [f3, p_takesx f2, Option.bind_some]
        exact work_0x f2 _ _ _
