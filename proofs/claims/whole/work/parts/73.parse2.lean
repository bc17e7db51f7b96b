/-! THE PARSER 2: a reader and what the reference reads there; operators -/
def yRes (N : Nat) (tx : Nat → Int32) (o : Nat) (s : zSt) (p k : Nat) (d : zSt → Option (Int32 × zSt)) (r : Int32) (s' : zSt) : Prop :=
  ∃ p' k', zPt N tx s' p' k' ∧ zPf s s' k ∧ p ≤ p' ∧ ((r = 1 ∧ k ≤ k' ∧ k' + p ≤ p' + k ∧ ∀ t, zMt N tx t p o → ∃ v t', d t = some (v, t') ∧ zMf t t' ∧ zMt N tx t' p' o ∧ vPush (t.1 11) (s'.1 15) k k' v) ∨ (r = 0 ∧ ∀ t, zMt N tx t p o → ∃ v t', d t = some (v, t') ∧ zMf t t' ∧ zMx N tx t' p'))
def yPr (N : Nat) (tx : Nat → Int32) (o : Nat) (c : Int32 → zSt → Option (Int32 × zSt)) (d : zSt → Option (Int32 × zSt)) : Prop :=
  ∀ s p k, zPt N tx s p k → k ≤ p → ∃ r s', c (nI o) s = some (r, s') ∧ yRes N tx o s p k d r s'
/-- with a number before it -/
def yResL (N : Nat) (tx : Nat → Int32) (o : Nat) (s : zSt) (p k : Nat) (D : Int32 → zSt → Option (Int32 × zSt)) (r : Int32) (s' : zSt) : Prop :=
  ∃ p' k', zPt N tx s' p' k' ∧ zPf s s' k ∧ p ≤ p' ∧ ((r = 1 ∧ k ≤ k' ∧ k' + p ≤ p' + k ∧ ∀ t v k0, zMt N tx t p o → k0 ≤ k → vPush (t.1 11) (s.1 15) k0 k v → ∃ v' t', D v t = some (v', t') ∧ zMf t t' ∧ zMt N tx t' p' o ∧ vPush (t.1 11) (s'.1 15) k0 k' v') ∨ (r = 0 ∧ ∀ t v, zMt N tx t p o → ∃ v' t', D v t = some (v', t') ∧ zMf t t' ∧ zMx N tx t' p'))
theorem resL_stop {N : Nat} {tx : Nat → Int32} {o : Nat} {s : zSt} {p k : Nat} {D : Int32 → zSt → Option (Int32 × zSt)} (hs : zPt N tx s p k) (hD : ∀ t v, zMt N tx t p o → D v t = some (v, t)) : yResL N tx o s p k D 1 s :=
  ⟨p, k, hs, zPf_r s k, Nat.le_refl _, Or.inl ⟨rfl, Nat.le_refl _, by omega, fun t v k0 ht _ hv => ⟨v, t, hD t v ht, zMf_r t, ht, hv⟩⟩⟩
theorem seq_rel {N : Nat} {tx : Nat → Int32} {o : Nat} {c cb : Int32 → zSt → Option (Int32 × zSt)} {d db : zSt → Option (Int32 × zSt)} (H : yPr N tx o c d) (L D : Int32 → zSt → Option (Int32 × zSt)) (hc : ∀ s, cb (nI o) s = (c (nI o) s).bind fun x => L x.1 x.2) (hd : ∀ t, db t = (d t).bind fun x => D x.1 x.2) (h0 : ∀ s p k, zPt N tx s p k → L 0 s = some (0, s)) (hX : ∀ v t p, zMx N tx t p → D v t = some (v, t)) (hL : ∀ s p k, zPt N tx s p k → k ≤ p → ∃ r s', L 1 s = some (r, s') ∧ yResL N tx o s p k D r s') : yPr N tx o cb db := by
  intro s p k hs hk
  obtain ⟨r1, s1, e1, p1, k1, q1, q2, q3, q4⟩ := H s p k hs hk
  rcases q4 with ⟨rfl, q5, q6, q7⟩ | ⟨rfl, q5⟩
  · obtain ⟨r, s', e2, p2, k2, w1, w2, w3, w4⟩ := hL s1 p1 k1 q1 (by omega)
    refine ⟨r, s', by rw [hc, e1, Option.bind_some]; exact e2, p2, k2, w1, zPf_t q2 w2 q5, by omega, ?_⟩
    rcases w4 with ⟨rfl, w5, w6, w7⟩ | ⟨rfl, w5⟩
    · refine Or.inl ⟨rfl, by omega, by omega, fun t ht => ?_⟩
      obtain ⟨v, t1, f1, f2, f3, f4⟩ := q7 t ht
      obtain ⟨v', t2, g1, g2, g3, g4⟩ := w7 t1 v k f3 q5 (by rw [f2.2.1 11 (by omega)]; exact f4)
      rw [f2.2.1 11 (by omega)] at g4
      exact ⟨v', t2, by rw [hd, f1, Option.bind_some]; exact g1, zMf_t f2 g2, g3, g4⟩
    · refine Or.inr ⟨rfl, fun t ht => ?_⟩
      obtain ⟨v, t1, f1, f2, f3, f4⟩ := q7 t ht
      obtain ⟨v', t2, g1, g2, g3⟩ := w5 t1 v f3
      exact ⟨v', t2, by rw [hd, f1, Option.bind_some]; exact g1, zMf_t f2 g2, g3⟩
  · refine ⟨0, s1, by rw [hc, e1, Option.bind_some]; exact h0 s1 p1 k1 q1, p1, k1, q1, q2, q3, Or.inr ⟨rfl, fun t ht => ?_⟩⟩
    obtain ⟨v, t1, f1, f2, f3⟩ := q5 t ht
    exact ⟨v, t1, by rw [hd, f1, Option.bind_some]; exact hX v t1 p1 f3, f2, f3⟩
/-- an operator's byte, what is read behind it, its step -/
def yA (N : Nat) (tx : Nat → Int32) (o : Nat) (s : zSt) (p k : Nat) (d : zSt → Option (Int32 × zSt)) (s2 : zSt) : Prop := ∃ p' k2, zPt N tx s2 p' k2 ∧ zPf s s2 k ∧ p ≤ p' ∧ ∀ t, zMt N tx t p o → ∃ v2 t2, d (zw t 0 15 (t.1 0 15 + 1)) = some (v2, t2) ∧ zMf t t2 ∧ zMx N tx t2 p'
def yB (N : Nat) (tx : Nat → Int32) (o : Nat) (s : zSt) (p k : Nat) (d : zSt → Option (Int32 × zSt)) (x : Int32) (s3 : zSt) (p' k3 : Nat) : Prop := zPt N tx s3 p' k3 ∧ zPf s s3 k ∧ p < p' ∧ k ≤ k3 ∧ k3 + p ≤ p' + k ∧ ∀ t, zMt N tx t p o → ∃ v2 t2, d (zw t 0 15 (t.1 0 15 + 1)) = some (v2, t2) ∧ zMf t t2 ∧ zMt N tx t2 p' o ∧ ∀ k0 v, k0 ≤ k → vPush (t.1 11) (s.1 15) k0 k v → vPush (t.1 11) (s3.1 15) k0 k3 (vBin x v v2)
theorem op_step {N : Nat} {tx : Nat → Int32} {o : Nat} {c : Int32 → zSt → Option (Int32 × zSt)} {d : zSt → Option (Int32 × zSt)} (H : yPr N tx o c d) {s : zSt} {p k : Nat} (hs : zPt N tx s p k) (hk : k ≤ p) (hp : p < N) {x : Int32} (hx : zOp x) :
    ∃ r s2, c (nI o) (zw s 13 4 (s.1 13 4 + 1)) = some (r, s2) ∧ ((r = 0 ∧ yA N tx o s p k d s2) ∨ (r = 1 ∧ ∃ s3 p' k3, f_tp_step (-x) s2 = some (1, s3) ∧ yB N tx o s p k d x s3 p' k3)) := by
  obtain ⟨a1, a2⟩ := adv_s hs hp
  obtain ⟨r, s2, e1, p', k', q1, q2, q3, q4⟩ := H _ (p + 1) k a1 (by omega)
  have hN : N ≤ 120 := hs.1
  have hp' : p' ≤ N := q1.2.2.2.2.1
  refine ⟨r, s2, e1, ?_⟩
  have F2 : zPf s s2 k := zPf_t (a2 k) q2 (Nat.le_refl _)
  rcases q4 with ⟨rfl, q5, q6, q7⟩ | ⟨rfl, q5⟩
  · refine Or.inr ⟨rfl, ?_⟩
    obtain ⟨s3, z1, z2, z3, z4⟩ := p_step q1 (show k' < 121 by omega) (-x)
    refine ⟨s3, p', k' + 1, z1, z2, zPf_t F2 z3 q5, by omega, by omega, by omega, fun t ht => ?_⟩
    obtain ⟨b1, b2⟩ := adv_t ht hp
    obtain ⟨v2, t2, f1, f2, f3, f4⟩ := q7 _ b1
    refine ⟨v2, t2, f1, zMf_t b2 f2, f3, fun k0 v hk0 hv => ?_⟩
    have hv' : vPush (t.1 11) (s3.1 15) k0 k v := vPush_cg hv (fun j _ j2 => ((zPf_t F2 z3 q5).2.2.2 j j2))
    have f4' : vPush (t.1 11) (s3.1 15) k k' v2 := by
      rw [b2.2.1 11 (by omega)] at f4
      exact vPush_cg f4 (fun j _ j2 => z3.2.2.2 j j2)
    exact push_bin hv' f4' hk0 q5 z4 hx
  · refine Or.inl ⟨rfl, p', k', q1, F2, by omega, fun t ht => ?_⟩
    obtain ⟨b1, b2⟩ := adv_t ht hp
    obtain ⟨v2, t2, f1, f2, f3⟩ := q5 _ b1
    exact ⟨v2, t2, f1, zMf_t b2 f2, f3⟩
/-- on from behind an operator -/
theorem resL_go {N : Nat} {tx : Nat → Int32} {o : Nat} {s : zSt} {p k : Nat} {d : zSt → Option (Int32 × zSt)} {x : Int32} {s3 : zSt} {p' k3 : Nat} (hB : yB N tx o s p k d x s3 p' k3) {D D' : Int32 → zSt → Option (Int32 × zSt)} {r : Int32} {s' : zSt} (h : yResL N tx o s3 p' k3 D' r s') (hD : ∀ t v v2 t2, zMt N tx t p o → d (zw t 0 15 (t.1 0 15 + 1)) = some (v2, t2) → zMt N tx t2 p' o → D v t = D' (vBin x v v2) t2) : yResL N tx o s p k D r s' := by
  obtain ⟨b1, b2, b3, b4, b5, b6⟩ := hB
  obtain ⟨p2, k2, w1, w2, w3, w4⟩ := h
  refine ⟨p2, k2, w1, zPf_t b2 w2 b4, by omega, ?_⟩
  rcases w4 with ⟨rfl, w5, w6, w7⟩ | ⟨rfl, w5⟩
  · refine Or.inl ⟨rfl, by omega, by omega, fun t v k0 ht hk0 hv => ?_⟩
    obtain ⟨v2, t2, f1, f2, f3, f4⟩ := b6 t ht
    obtain ⟨v', t3, g1, g2, g3, g4⟩ := w7 t2 (vBin x v v2) k0 f3 (by omega) (by rw [f2.2.1 11 (by omega)]; exact f4 k0 v hk0 hv)
    rw [f2.2.1 11 (by omega)] at g4
    exact ⟨v', t3, by rw [hD t v v2 t2 ht f1 f3]; exact g1, zMf_t f2 g2, g3, g4⟩
  · refine Or.inr ⟨rfl, fun t v ht => ?_⟩
    obtain ⟨v2, t2, f1, f2, f3, f4⟩ := b6 t ht
    obtain ⟨v', t3, g1, g2, g3⟩ := w5 t2 (vBin x v v2) f3
    exact ⟨v', t3, by rw [hD t v v2 t2 ht f1 f3]; exact g1, zMf_t f2 g2, g3⟩
theorem resL_bad {N : Nat} {tx : Nat → Int32} {o : Nat} {s : zSt} {p k : Nat} {d : zSt → Option (Int32 × zSt)} {s2 : zSt} (hA : yA N tx o s p k d s2) {D : Int32 → zSt → Option (Int32 × zSt)} (hD : ∀ t v v2 t2 p', zMt N tx t p o → d (zw t 0 15 (t.1 0 15 + 1)) = some (v2, t2) → zMx N tx t2 p' → ∃ v', D v t = some (v', t2)) : yResL N tx o s p k D 0 s2 := by
  obtain ⟨p', k2, a1, a2, a3, a4⟩ := hA
  refine ⟨p', k2, a1, a2, a3, Or.inr ⟨rfl, fun t v ht => ?_⟩⟩
  obtain ⟨v2, t2, f1, f2, f3⟩ := a4 t ht
  obtain ⟨v', g⟩ := hD t v v2 t2 p' ht f1 f3
  exact ⟨v', t2, g, f2, f3⟩
theorem zbo_0 : zbo 0 = some 0 := rfl
theorem zbo_1 : zbo 1 = some 1 := rfl
theorem vBin_or (v w : Int32) : vBin 124 v w = if v = 0 then (if w = 0 then 0 else 1) else 1 := rfl
theorem vBin_and (v w : Int32) : vBin 38 v w = if v = 0 then 0 else if w = 0 then 0 else 1 := rfl
/-! either -/
theorem either_0 (c : Int32 → zSt → Option (Int32 × zSt)) (F : Nat) (a i : Int32) (s : zSt) : f_tp_readEither_8 c (F + 1) a 0 i s = some (0, s) := by
  unfold f_tp_readEither_8
  by_cases h : 120 ≤ i
  · rw [if_pos h, zbo_0, Option.bind_some]
  · rw [if_neg h, if_pos rfl, zbo_0, Option.bind_some]
theorem either_x {N : Nat} {tx : Nat → Int32} {t : zSt} {p : Nat} (d : zSt → Option (Int32 × zSt)) (F : Nat) (v : Int32) (h : zMx N tx t p) : f_m_either_5 d (F + 1) v t = some (v, t) := by
  unfold f_m_either_5
  rw [p_takesx h, Option.bind_some, if_pos rfl]
theorem either_loop {N : Nat} {tx : Nat → Int32} {o : Nat} {c : Int32 → zSt → Option (Int32 × zSt)} {d : zSt → Option (Int32 × zSt)} (H : yPr N tx o c d) : ∀ (m p k : Nat) (s : zSt) (i F F' : Nat), N - p ≤ m → m < F → m < F' → i ≤ p → zPt N tx s p k → k ≤ p →
    ∃ r s', f_tp_readEither_8 c F (nI o) 1 (nI i) s = some (r, s') ∧ yResL N tx o s p k (fun v t => f_m_either_5 d F' v t) r s' := by
  intro m
  induction m with
  | zero =>
    intro p k s i F F' hm hF hF' hi hs hk
    obtain ⟨F, rfl⟩ : ∃ x, F = x + 1 := ⟨F - 1, by omega⟩
    obtain ⟨F', rfl⟩ : ∃ x, F' = x + 1 := ⟨F' - 1, by omega⟩
    have hsm : ¬ zsm N tx p = 124 := fun e => by have := sm_lt (by decide) e; omega
    refine ⟨1, s, ?_, resL_stop hs (fun t v ht => ?_)⟩
    · unfold f_tp_readEither_8
      by_cases h : (120 : Int32) ≤ nI i
      · rw [if_pos h, zbo_1, Option.bind_some]
      · rw [if_neg h, if_neg q_neg10', p_took hs, if_neg (fun e => hsm ((sc_sm (by decide)).mp e)), Option.bind_some, if_pos rfl, zbo_1, Option.bind_some]
    · unfold f_m_either_5
      rw [p_takes ht, if_neg hsm, Option.bind_some, if_pos rfl]
  | succ m ih =>
    intro p k s i F F' hm hF hF' hi hs hk
    obtain ⟨F, rfl⟩ : ∃ x, F = x + 2 := ⟨F - 2, by omega⟩
    obtain ⟨F', rfl⟩ : ∃ x, F' = x + 2 := ⟨F' - 2, by omega⟩
    have hN : N ≤ 120 := hs.1
    by_cases hsm : zsm N tx p = 124
    · have hp : p < N := sm_lt (by decide) hsm
      have hx : zOp 124 := by unfold zOp; decide
      obtain ⟨r2, s2, e2, hr⟩ := op_step H hs hk hp hx
      have hG : f_tp_readEither_8 c (F + 2) (nI o) 1 (nI i) s = if r2 = 0 then f_tp_readEither_8 c (F + 1) (nI o) 0 (nI (i + 1)) s2 else (f_tp_step (-124) s2).bind fun x4 => if x4.1 = 0 then f_tp_readEither_8 c (F + 1) (nI o) 0 (nI (i + 1)) x4.2 else f_tp_readEither_8 c (F + 1) (nI o) 1 (nI (i + 1)) x4.2 := by
        conv => lhs; unfold f_tp_readEither_8
        rw [if_neg (show ¬ (120 : Int32) ≤ nI i from nI_ge (b := 120) (by omega) (by omega)), if_neg q_neg10', p_took hs, if_pos ((sc_sm (by decide)).mpr hsm), Option.bind_some, if_neg q_neg10', e2, Option.bind_some, nI_1]
      have hM : ∀ (t : zSt) (v v2 : Int32) (t2 : zSt), zMt N tx t p o → d (zw t 0 15 (t.1 0 15 + 1)) = some (v2, t2) → f_m_either_5 d (F' + 2) v t = f_m_either_5 d (F' + 1) (vBin 124 v v2) t2 := by
        intro t v v2 t2 ht e
        conv => lhs; unfold f_m_either_5
        rw [p_takes ht, if_pos hsm, Option.bind_some, if_neg q_neg10', e, Option.bind_some, vBin_or]
        by_cases z : v = 0
        · rw [if_pos z, if_pos z]
          by_cases z2 : v2 = 0
          · rw [if_pos z2, if_pos z2]
          · rw [if_neg z2, if_neg z2]
        · rw [if_neg z, if_neg z]
      rw [hG]
      rcases hr with ⟨rfl, hA⟩ | ⟨rfl, s3, p', k3, e3, hB⟩
      · rw [if_pos rfl, either_0]
        exact ⟨0, s2, rfl, resL_bad hA (fun t v v2 t2 p' ht e hx => ⟨_, by rw [hM t v v2 t2 ht e]; exact either_x d F' _ hx⟩)⟩
      · rw [if_neg q_neg10', e3, Option.bind_some, if_neg q_neg10']
        obtain ⟨b1, b2, b3, b4, b5, b6⟩ := id hB
        obtain ⟨r, s', w1, w2⟩ := ih p' k3 s3 (i + 1) (F + 1) (F' + 1) (by omega) (by omega) (by omega) (by omega) b1 (by omega)
        exact ⟨r, s', w1, resL_go hB w2 (fun t v v2 t2 ht e _ => hM t v v2 t2 ht e)⟩
    · refine ⟨1, s, ?_, resL_stop hs (fun t v ht => ?_)⟩
      · unfold f_tp_readEither_8
        by_cases h : (120 : Int32) ≤ nI i
        · rw [if_pos h, zbo_1, Option.bind_some]
        · rw [if_neg h, if_neg q_neg10', p_took hs, if_neg (fun e => hsm ((sc_sm (by decide)).mp e)), Option.bind_some, if_pos rfl, zbo_1, Option.bind_some]
      · unfold f_m_either_5
        rw [p_takes ht, if_neg hsm, Option.bind_some, if_pos rfl]
theorem either_rel {N : Nat} {tx : Nat → Int32} {o : Nat} {c : Int32 → zSt → Option (Int32 × zSt)} {d : zSt → Option (Int32 × zSt)} (H : yPr N tx o c d) : yPr N tx o (b_tp_readEither c) (b_m_either d) := by
  have hzF := zFu_big
  refine seq_rel H (fun v s => f_tp_readEither_8 c zFu (nI o) v 0 s) (fun v t => f_m_either_5 d zFu v t) (fun s => rfl) (fun t => rfl) (fun s p k hs => ?_) (fun v t p h => ?_) (fun s p k hs hk => ?_)
  · obtain ⟨F, hF⟩ : ∃ x, zFu = x + 1 := ⟨zFu - 1, by omega⟩
    rw [hF]
    exact either_0 c F _ _ s
  · obtain ⟨F, hF⟩ : ∃ x, zFu = x + 1 := ⟨zFu - 1, by omega⟩
    rw [hF]
    exact either_x d F v h
  · have hN : N ≤ 120 := hs.1
    exact either_loop H N p k s 0 zFu zFu (by omega) (by omega) (by omega) (by omega) hs hk
/-! both -/
theorem both_0 (c : Int32 → zSt → Option (Int32 × zSt)) (F : Nat) (a i : Int32) (s : zSt) : f_tp_readBoth_8 c (F + 1) a 0 i s = some (0, s) := by
  unfold f_tp_readBoth_8
  by_cases h : 120 ≤ i
  · rw [if_pos h, zbo_0, Option.bind_some]
  · rw [if_neg h, if_pos rfl, zbo_0, Option.bind_some]
theorem both_x {N : Nat} {tx : Nat → Int32} {t : zSt} {p : Nat} (d : zSt → Option (Int32 × zSt)) (F : Nat) (v : Int32) (h : zMx N tx t p) : f_m_both_5 d (F + 1) v t = some (v, t) := by
  unfold f_m_both_5
  rw [p_takesx h, Option.bind_some, if_pos rfl]
theorem both_loop {N : Nat} {tx : Nat → Int32} {o : Nat} {c : Int32 → zSt → Option (Int32 × zSt)} {d : zSt → Option (Int32 × zSt)} (H : yPr N tx o c d) : ∀ (m p k : Nat) (s : zSt) (i F F' : Nat), N - p ≤ m → m < F → m < F' → i ≤ p → zPt N tx s p k → k ≤ p →
    ∃ r s', f_tp_readBoth_8 c F (nI o) 1 (nI i) s = some (r, s') ∧ yResL N tx o s p k (fun v t => f_m_both_5 d F' v t) r s' := by
  intro m
  induction m with
  | zero =>
    intro p k s i F F' hm hF hF' hi hs hk
    obtain ⟨F, rfl⟩ : ∃ x, F = x + 1 := ⟨F - 1, by omega⟩
    obtain ⟨F', rfl⟩ : ∃ x, F' = x + 1 := ⟨F' - 1, by omega⟩
    have hsm : ¬ zsm N tx p = 38 := fun e => by have := sm_lt (by decide) e; omega
    refine ⟨1, s, ?_, resL_stop hs (fun t v ht => ?_)⟩
    · unfold f_tp_readBoth_8
      by_cases h : (120 : Int32) ≤ nI i
      · rw [if_pos h, zbo_1, Option.bind_some]
      · rw [if_neg h, if_neg q_neg10', p_took hs, if_neg (fun e => hsm ((sc_sm (by decide)).mp e)), Option.bind_some, if_pos rfl, zbo_1, Option.bind_some]
    · unfold f_m_both_5
      rw [p_takes ht, if_neg hsm, Option.bind_some, if_pos rfl]
  | succ m ih =>
    intro p k s i F F' hm hF hF' hi hs hk
    obtain ⟨F, rfl⟩ : ∃ x, F = x + 2 := ⟨F - 2, by omega⟩
    obtain ⟨F', rfl⟩ : ∃ x, F' = x + 2 := ⟨F' - 2, by omega⟩
    have hN : N ≤ 120 := hs.1
    by_cases hsm : zsm N tx p = 38
    · have hp : p < N := sm_lt (by decide) hsm
      have hx : zOp 38 := by unfold zOp; decide
      obtain ⟨r2, s2, e2, hr⟩ := op_step H hs hk hp hx
      have hG : f_tp_readBoth_8 c (F + 2) (nI o) 1 (nI i) s = if r2 = 0 then f_tp_readBoth_8 c (F + 1) (nI o) 0 (nI (i + 1)) s2 else (f_tp_step (-38) s2).bind fun x4 => if x4.1 = 0 then f_tp_readBoth_8 c (F + 1) (nI o) 0 (nI (i + 1)) x4.2 else f_tp_readBoth_8 c (F + 1) (nI o) 1 (nI (i + 1)) x4.2 := by
        conv => lhs; unfold f_tp_readBoth_8
        rw [if_neg (show ¬ (120 : Int32) ≤ nI i from nI_ge (b := 120) (by omega) (by omega)), if_neg q_neg10', p_took hs, if_pos ((sc_sm (by decide)).mpr hsm), Option.bind_some, if_neg q_neg10', e2, Option.bind_some, nI_1]
      have hM : ∀ (t : zSt) (v v2 : Int32) (t2 : zSt), zMt N tx t p o → d (zw t 0 15 (t.1 0 15 + 1)) = some (v2, t2) → f_m_both_5 d (F' + 2) v t = f_m_both_5 d (F' + 1) (vBin 38 v v2) t2 := by
        intro t v v2 t2 ht e
        conv => lhs; unfold f_m_both_5
        rw [p_takes ht, if_pos hsm, Option.bind_some, if_neg q_neg10', e, Option.bind_some, vBin_and]
        by_cases z : v = 0
        · rw [if_pos z, if_pos z]
        · rw [if_neg z, if_neg z]
          by_cases z2 : v2 = 0
          · rw [if_pos z2, if_pos z2]
          · rw [if_neg z2, if_neg z2]
      rw [hG]
      rcases hr with ⟨rfl, hA⟩ | ⟨rfl, s3, p', k3, e3, hB⟩
      · rw [if_pos rfl, both_0]
        exact ⟨0, s2, rfl, resL_bad hA (fun t v v2 t2 p' ht e hx => ⟨_, by rw [hM t v v2 t2 ht e]; exact both_x d F' _ hx⟩)⟩
      · rw [if_neg q_neg10', e3, Option.bind_some, if_neg q_neg10']
        obtain ⟨b1, b2, b3, b4, b5, b6⟩ := id hB
        obtain ⟨r, s', w1, w2⟩ := ih p' k3 s3 (i + 1) (F + 1) (F' + 1) (by omega) (by omega) (by omega) (by omega) b1 (by omega)
        exact ⟨r, s', w1, resL_go hB w2 (fun t v v2 t2 ht e _ => hM t v v2 t2 ht e)⟩
    · refine ⟨1, s, ?_, resL_stop hs (fun t v ht => ?_)⟩
      · unfold f_tp_readBoth_8
        by_cases h : (120 : Int32) ≤ nI i
        · rw [if_pos h, zbo_1, Option.bind_some]
        · rw [if_neg h, if_neg q_neg10', p_took hs, if_neg (fun e => hsm ((sc_sm (by decide)).mp e)), Option.bind_some, if_pos rfl, zbo_1, Option.bind_some]
      · unfold f_m_both_5
        rw [p_takes ht, if_neg hsm, Option.bind_some, if_pos rfl]
theorem both_rel {N : Nat} {tx : Nat → Int32} {o : Nat} {c : Int32 → zSt → Option (Int32 × zSt)} {d : zSt → Option (Int32 × zSt)} (H : yPr N tx o c d) : yPr N tx o (b_tp_readBoth c) (b_m_both d) := by
  have hzF := zFu_big
  refine seq_rel H (fun v s => f_tp_readBoth_8 c zFu (nI o) v 0 s) (fun v t => f_m_both_5 d zFu v t) (fun s => rfl) (fun t => rfl) (fun s p k hs => ?_) (fun v t p h => ?_) (fun s p k hs hk => ?_)
  · obtain ⟨F, hF⟩ : ∃ x, zFu = x + 1 := ⟨zFu - 1, by omega⟩
    rw [hF]
    exact both_0 c F _ _ s
  · obtain ⟨F, hF⟩ : ∃ x, zFu = x + 1 := ⟨zFu - 1, by omega⟩
    rw [hF]
    exact both_x d F v h
  · have hN : N ≤ 120 := hs.1
    exact both_loop H N p k s 0 zFu zFu (by omega) (by omega) (by omega) (by omega) hs hk
