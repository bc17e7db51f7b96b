/-! THE PARSER 3: compared, sums, products -/
theorem resL_cg {N : Nat} {tx : Nat → Int32} {o : Nat} {s : zSt} {p k : Nat} {D D' : Int32 → zSt → Option (Int32 × zSt)} {r : Int32} {s' : zSt} (h : yResL N tx o s p k D' r s') (e : ∀ t v, zMt N tx t p o → D v t = D' v t) : yResL N tx o s p k D r s' := by
  obtain ⟨p2, k2, w1, w2, w3, w4⟩ := h
  refine ⟨p2, k2, w1, w2, w3, ?_⟩
  rcases w4 with ⟨rfl, w5, w6, w7⟩ | ⟨rfl, w5⟩
  · exact Or.inl ⟨rfl, w5, w6, fun t v k0 ht hk hv => by rw [e t v ht]; exact w7 t v k0 ht hk hv⟩
  · exact Or.inr ⟨rfl, fun t v ht => by rw [e t v ht]; exact w5 t v ht⟩
theorem cmp_val {x : Int32} (hx : x = 60 ∨ x = 61 ∨ x = 62) (v w : Int32) (t : zSt) : (if x = 60 then (if w ≤ v then some ((0 : Int32), t) else some (1, t)) else if x = 61 then (if v = w then some (1, t) else some (0, t)) else (if v ≤ w then some (0, t) else some (1, t))) = some (vBin x v w, t) := by
  rcases hx with rfl | rfl | rfl
  · show (if w ≤ v then some ((0 : Int32), t) else some (1, t)) = some ((if v < w then 1 else 0), t)
    by_cases h : w ≤ v
    · rw [if_pos h, if_neg (by rw [q_lt]; rw [q_le] at h; omega)]
    · rw [if_neg h, if_pos (by rw [q_lt]; rw [q_le] at h; omega)]
  · show (if v = w then some ((1 : Int32), t) else some (0, t)) = some ((if v = w then 1 else 0), t)
    by_cases h : v = w
    · rw [if_pos h, if_pos h]
    · rw [if_neg h, if_neg h]
  · show (if v ≤ w then some ((0 : Int32), t) else some (1, t)) = some ((if w < v then 1 else 0), t)
    by_cases h : v ≤ w
    · rw [if_pos h, if_neg (by rw [q_lt]; rw [q_le] at h; omega)]
    · rw [if_neg h, if_pos (by rw [q_lt]; rw [q_le] at h; omega)]
theorem compared_rel {N : Nat} {tx : Nat → Int32} {o : Nat} {c : Int32 → zSt → Option (Int32 × zSt)} {d : zSt → Option (Int32 × zSt)} (H : yPr N tx o c d) : yPr N tx o (b_tp_readCompared c) (b_m_compared d) := by
  refine seq_rel H (fun v s => if v = 0 then some (0, s) else (f_tp_next s).bind fun x2 => if x2.1 = 60 then f_tp_readCompared_35 c (nI o) x2.1 x2.2 else if x2.1 = 61 then f_tp_readCompared_35 c (nI o) x2.1 x2.2 else if x2.1 = 62 then f_tp_readCompared_35 c (nI o) x2.1 x2.2 else some (1, x2.2)) (fun v t => (f_m_byteAt t).bind fun x2 => if 0 ≤ (x2.2.1 0 17) then some (v, x2.2) else if x2.1 = 60 then f_m_compared_37 d v x2.1 x2.2 else if x2.1 = 61 then f_m_compared_37 d v x2.1 x2.2 else if x2.1 = 62 then f_m_compared_37 d v x2.1 x2.2 else some (v, x2.2)) (fun s => rfl) (fun t => rfl) (fun s p k hs => ?_) (fun v t p h => ?_) (fun s p k hs hk => ?_)
  · exact if_pos rfl
  · try dsimp only
    rw [p_byte h.1, Option.bind_some, if_pos (zMx_p h)]
  · try dsimp only
    rw [if_neg q_neg10', tp_nx hs, Option.bind_some]
    have hM0 : ∀ (t : zSt) (v : Int32), zMt N tx t p o → ((f_m_byteAt t).bind fun x2 => if 0 ≤ (x2.2.1 0 17) then some (v, x2.2) else if x2.1 = 60 then f_m_compared_37 d v x2.1 x2.2 else if x2.1 = 61 then f_m_compared_37 d v x2.1 x2.2 else if x2.1 = 62 then f_m_compared_37 d v x2.1 x2.2 else some (v, x2.2)) = if zsm N tx p = 60 then f_m_compared_37 d v (zsm N tx p) t else if zsm N tx p = 61 then f_m_compared_37 d v (zsm N tx p) t else if zsm N tx p = 62 then f_m_compared_37 d v (zsm N tx p) t else some (v, t) := by
      intro t v ht
      rw [p_byte ht.1, Option.bind_some]
      try dsimp only
      rw [ht.2.1, if_neg (by decide)]
    have go : ∀ x : Int32, (x = 60 ∨ x = 61 ∨ x = 62) → 0 < x → zOp x → zsm N tx p = x → ∃ r s', f_tp_readCompared_35 c (nI o) x s = some (r, s') ∧ yResL N tx o s p k (fun v t => f_m_compared_37 d v x t) r s' := by
      intro x x1 x2 x3 x4
      obtain ⟨r2, s2, e2, hr⟩ := op_step H hs hk (sm_lt x2 x4) x3
      have hM : ∀ (t : zSt) (v v2 : Int32) (t2 : zSt), d (zw t 0 15 (t.1 0 15 + 1)) = some (v2, t2) → f_m_compared_37 d v x t = some (vBin x v v2, t2) := by
        intro t v v2 t2 e
        unfold f_m_compared_37
        rw [e, Option.bind_some]
        exact cmp_val x1 v v2 t2
      unfold f_tp_readCompared_35
      rw [e2, Option.bind_some]
      try dsimp only
      rcases hr with ⟨rfl, hA⟩ | ⟨rfl, s3, p', k3, e3, hB⟩
      · rw [if_pos rfl]
        exact ⟨0, s2, rfl, resL_bad hA (fun t v v2 t2 p' _ e _ => ⟨_, hM t v v2 t2 e⟩)⟩
      · rw [if_neg q_neg10', e3, Option.bind_some, if_neg q_neg10']
        exact ⟨1, s3, rfl, resL_go (D' := fun v t => some (v, t)) hB (resL_stop hB.1 (fun t v _ => rfl)) (fun t v v2 t2 _ e _ => hM t v v2 t2 e)⟩
    by_cases c60 : zsm N tx p = 60
    · rw [if_pos ((sc_sm (by decide)).mpr c60), (sc_sm (by decide)).mpr c60]
      obtain ⟨r, s', e1, e2⟩ := go 60 (Or.inl rfl) (by decide) (by unfold zOp; decide) c60
      exact ⟨r, s', e1, resL_cg e2 (fun t v ht => by rw [hM0 t v ht, if_pos c60, c60])⟩
    · rw [if_neg (fun e => c60 ((sc_sm (by decide)).mp e))]
      by_cases c61 : zsm N tx p = 61
      · rw [if_pos ((sc_sm (by decide)).mpr c61), (sc_sm (by decide)).mpr c61]
        obtain ⟨r, s', e1, e2⟩ := go 61 (Or.inr (Or.inl rfl)) (by decide) (by unfold zOp; decide) c61
        exact ⟨r, s', e1, resL_cg e2 (fun t v ht => by rw [hM0 t v ht, if_neg c60, if_pos c61, c61])⟩
      · rw [if_neg (fun e => c61 ((sc_sm (by decide)).mp e))]
        by_cases c62 : zsm N tx p = 62
        · rw [if_pos ((sc_sm (by decide)).mpr c62), (sc_sm (by decide)).mpr c62]
          obtain ⟨r, s', e1, e2⟩ := go 62 (Or.inr (Or.inr rfl)) (by decide) (by unfold zOp; decide) c62
          exact ⟨r, s', e1, resL_cg e2 (fun t v ht => by rw [hM0 t v ht, if_neg c60, if_neg c61, if_pos c62, c62])⟩
        · rw [if_neg (fun e => c62 ((sc_sm (by decide)).mp e))]
          exact ⟨1, s, rfl, resL_stop hs (fun t v ht => by rw [hM0 t v ht, if_neg c60, if_neg c61, if_neg c62])⟩
/-! sums -/
theorem sum_0 (c : Int32 → zSt → Option (Int32 × zSt)) (F : Nat) (a x i : Int32) (s : zSt) : f_tp_readSum_14 c (F + 1) a 0 x i s = some (0, s) := by
  unfold f_tp_readSum_14
  by_cases h : 120 ≤ i
  · rw [if_pos h, zbo_0, Option.bind_some]
  · rw [if_neg h, if_pos rfl, zbo_0, Option.bind_some]
theorem sum_x {N : Nat} {tx : Nat → Int32} {t : zSt} {p : Nat} (d : zSt → Option (Int32 × zSt)) (F : Nat) (v : Int32) (h : zMx N tx t p) : f_m_sums_5 d (F + 1) v t = some (v, t) := by
  unfold f_m_sums_5
  rw [if_pos (zMx_p h)]
theorem sum_stop {N : Nat} {tx : Nat → Int32} {o : Nat} {c : Int32 → zSt → Option (Int32 × zSt)} {d : zSt → Option (Int32 × zSt)} {F F' i : Nat} {s : zSt} {p k : Nat} (hs : zPt N tx s p k) (h1 : ¬ zsm N tx p = 43) (h2 : ¬ zsm N tx p = 45) : ∃ r s', f_tp_readSum_14 c (F + 1) (nI o) 1 (zsc N tx p) (nI i) s = some (r, s') ∧ yResL N tx o s p k (fun v t => f_m_sums_5 d (F' + 1) v t) r s' := by
  refine ⟨1, s, ?_, resL_stop hs (fun t v ht => ?_)⟩
  · unfold f_tp_readSum_14
    by_cases h : (120 : Int32) ≤ nI i
    · rw [if_pos h, zbo_1, Option.bind_some]
    · rw [if_neg h, if_neg q_neg10', if_neg (fun e => h1 ((sc_sm (by decide)).mp e)), if_neg (fun e => h2 ((sc_sm (by decide)).mp e)), zbo_1, Option.bind_some]
  · unfold f_m_sums_5
    rw [ht.2.1, if_neg (by decide), p_byte ht.1, Option.bind_some, if_neg h1, p_byte ht.1, Option.bind_some, if_neg h2]
theorem sum_loop {N : Nat} {tx : Nat → Int32} {o : Nat} {c : Int32 → zSt → Option (Int32 × zSt)} {d : zSt → Option (Int32 × zSt)} (H : yPr N tx o c d) : ∀ (m p k : Nat) (s : zSt) (i F F' : Nat), N - p ≤ m → m < F → m < F' → i ≤ p → zPt N tx s p k → k ≤ p →
    ∃ r s', f_tp_readSum_14 c F (nI o) 1 (zsc N tx p) (nI i) s = some (r, s') ∧ yResL N tx o s p k (fun v t => f_m_sums_5 d F' v t) r s' := by
  intro m
  induction m with
  | zero =>
    intro p k s i F F' hm hF hF' hi hs hk
    obtain ⟨F, rfl⟩ : ∃ x, F = x + 1 := ⟨F - 1, by omega⟩
    obtain ⟨F', rfl⟩ : ∃ x, F' = x + 1 := ⟨F' - 1, by omega⟩
    exact sum_stop hs (fun e => by have := sm_lt (by decide) e; omega) (fun e => by have := sm_lt (by decide) e; omega)
  | succ m ih =>
    intro p k s i F F' hm hF hF' hi hs hk
    obtain ⟨F, rfl⟩ : ∃ x, F = x + 2 := ⟨F - 2, by omega⟩
    obtain ⟨F', rfl⟩ : ∃ x, F' = x + 2 := ⟨F' - 2, by omega⟩
    have hN : N ≤ 120 := hs.1
    have go : ∀ x : Int32, (x = 43 ∨ x = 45) → 0 < x → zOp x → zsm N tx p = x → ∃ r s', f_tp_readSum_14 c (F + 2) (nI o) 1 (zsc N tx p) (nI i) s = some (r, s') ∧ yResL N tx o s p k (fun v t => f_m_sums_5 d (F' + 2) v t) r s' := by
      intro x x1 x2 x3 x4
      have hp : p < N := sm_lt x2 x4
      obtain ⟨r2, s2, e2, hr⟩ := op_step H hs hk hp x3
      have hG : f_tp_readSum_14 c (F + 2) (nI o) 1 (zsc N tx p) (nI i) s = f_tp_readSum_37 c (f_tp_readSum_14 c (F + 1)) (nI o) x (nI i) s := by
        conv => lhs; unfold f_tp_readSum_14
        rw [if_neg (show ¬ (120 : Int32) ≤ nI i from nI_ge (b := 120) (by omega) (by omega)), if_neg q_neg10', (sc_sm x2).mpr x4]
        rcases x1 with rfl | rfl
        · rw [if_pos rfl]
        · rw [if_neg (by decide), if_pos rfl]
      have hM : ∀ (t : zSt) (v v2 : Int32) (t2 : zSt), zMt N tx t p o → d (zw t 0 15 (t.1 0 15 + 1)) = some (v2, t2) → f_m_sums_5 d (F' + 2) v t = f_m_sums_5 d (F' + 1) (vBin x v v2) t2 := by
        intro t v v2 t2 ht e
        conv => lhs; unfold f_m_sums_5
        rw [ht.2.1, if_neg (by decide), p_byte ht.1, Option.bind_some]
        try dsimp only
        rcases x1 with rfl | rfl
        · rw [if_pos x4]
          unfold f_m_sums_30
          rw [p_byte ht.1, Option.bind_some]
          try dsimp only
          rw [if_pos x4]
          unfold f_m_sums_44
          rw [e, Option.bind_some, if_neg q_neg10']
          rfl
        · rw [if_neg (by rw [x4]; decide), p_byte ht.1, Option.bind_some]
          try dsimp only
          rw [if_pos x4]
          unfold f_m_sums_30
          rw [p_byte ht.1, Option.bind_some]
          try dsimp only
          rw [if_neg (by rw [x4]; decide)]
          unfold f_m_sums_44
          rw [e, Option.bind_some, if_pos rfl]
          rfl
      rw [hG]
      unfold f_tp_readSum_37
      rw [e2, Option.bind_some]
      try dsimp only
      rcases hr with ⟨rfl, hA⟩ | ⟨rfl, s3, p', k3, e3, hB⟩
      · obtain ⟨p', k2, a1, -⟩ := id hA
        rw [if_pos rfl, tp_nx a1, Option.bind_some]
        try dsimp only
        rw [sum_0]
        exact ⟨0, s2, rfl, resL_bad hA (fun t v v2 t2 p' ht e hx => ⟨_, by rw [hM t v v2 t2 ht e]; exact sum_x d F' _ hx⟩)⟩
      · obtain ⟨b1, b2, b3, b4, b5, b6⟩ := id hB
        rw [if_neg q_neg10', e3, Option.bind_some, if_neg q_neg10']
        try dsimp only
        rw [tp_nx b1, Option.bind_some, nI_1]
        try dsimp only
        obtain ⟨r, s', w1, w2⟩ := ih p' k3 s3 (i + 1) (F + 1) (F' + 1) (by omega) (by omega) (by omega) (by omega) b1 (by omega)
        exact ⟨r, s', w1, resL_go hB w2 (fun t v v2 t2 ht e _ => hM t v v2 t2 ht e)⟩
    by_cases c43 : zsm N tx p = 43
    · exact go 43 (Or.inl rfl) (by decide) (by unfold zOp; decide) c43
    · by_cases c45 : zsm N tx p = 45
      · exact go 45 (Or.inr rfl) (by decide) (by unfold zOp; decide) c45
      · exact sum_stop hs c43 c45
theorem sum_rel {N : Nat} {tx : Nat → Int32} {o : Nat} {c : Int32 → zSt → Option (Int32 × zSt)} {d : zSt → Option (Int32 × zSt)} (H : yPr N tx o c d) : yPr N tx o (b_tp_readSum c) (b_m_sums d) := by
  have hzF := zFu_big
  obtain ⟨F, hF⟩ : ∃ x, zFu = x + 1 := ⟨zFu - 1, by omega⟩
  refine seq_rel H (fun v s => (f_tp_next s).bind fun x2 => f_tp_readSum_14 c zFu (nI o) v x2.1 0 x2.2) (fun v t => f_m_sums_5 d zFu v t) (fun s => rfl) (fun t => rfl) (fun s p k hs => ?_) (fun v t p h => ?_) (fun s p k hs hk => ?_)
  · try dsimp only
    rw [tp_nx hs, Option.bind_some, hF]
    exact sum_0 c F _ _ _ s
  · try dsimp only
    rw [hF]
    exact sum_x d F v h
  · try dsimp only
    rw [tp_nx hs, Option.bind_some]
    try dsimp only
    have hN : N ≤ 120 := hs.1
    have := sum_loop H N p k s 0 zFu zFu (by omega) (by omega) (by omega) (by omega) hs hk
    rw [show nI 0 = (0 : Int32) from rfl] at this
    exact this
/-! products -/
theorem prod_0 (c : Int32 → zSt → Option (Int32 × zSt)) (F : Nat) (a x i : Int32) (s : zSt) : f_tp_readProduct_14 c (F + 1) a 0 x i s = some (0, s) := by
  unfold f_tp_readProduct_14
  by_cases h : 120 ≤ i
  · rw [if_pos h, zbo_0, Option.bind_some]
  · rw [if_neg h, if_pos rfl, zbo_0, Option.bind_some]
theorem prod_x {N : Nat} {tx : Nat → Int32} {t : zSt} {p : Nat} (d : zSt → Option (Int32 × zSt)) (F : Nat) (v x : Int32) (h : zMx N tx t p) : f_m_product_10 d (F + 1) v x t = some (v, t) := by
  unfold f_m_product_10
  rw [if_pos (zMx_p h)]
theorem prod_stop {N : Nat} {tx : Nat → Int32} {o : Nat} {c : Int32 → zSt → Option (Int32 × zSt)} {d : zSt → Option (Int32 × zSt)} {F F' i : Nat} {s : zSt} {p k : Nat} (hs : zPt N tx s p k) (h1 : ¬ zsm N tx p = 42) (h2 : ¬ zsm N tx p = 47) (h3 : ¬ zsm N tx p = 37) : ∃ r s', f_tp_readProduct_14 c (F + 1) (nI o) 1 (zsc N tx p) (nI i) s = some (r, s') ∧ yResL N tx o s p k (fun v t => f_m_product_10 d (F' + 1) v (zsm N tx p) t) r s' := by
  refine ⟨1, s, ?_, resL_stop hs (fun t v ht => ?_)⟩
  · unfold f_tp_readProduct_14
    by_cases h : (120 : Int32) ≤ nI i
    · rw [if_pos h, zbo_1, Option.bind_some]
    · rw [if_neg h, if_neg q_neg10', if_neg (fun e => h1 ((sc_sm (by decide)).mp e)), if_neg (fun e => h2 ((sc_sm (by decide)).mp e)), if_neg (fun e => h3 ((sc_sm (by decide)).mp e)), zbo_1, Option.bind_some]
  · try dsimp only
    unfold f_m_product_10
    rw [ht.2.1, if_neg (by decide), if_neg h1, if_neg h2, if_neg h3]
theorem prod_val {x : Int32} (hx : x = 42 ∨ x = 47 ∨ x = 37) {d : zSt → Option (Int32 × zSt)} {k10 : Int32 → Int32 → zSt → Option (Int32 × zSt)} {v v2 y : Int32} {t t2 : zSt} (e : d (zw t 0 15 (t.1 0 15 + 1)) = some (v2, t2)) (hb : f_m_byteAt t2 = some (y, t2)) : f_m_product_35 d k10 v x t = k10 (vBin x v v2) y t2 := by
  unfold f_m_product_35
  rw [e, Option.bind_some]
  try dsimp only
  rcases hx with rfl | rfl | rfl
  · rw [if_pos rfl, hb, Option.bind_some]
    rfl
  · rw [if_neg (by decide)]
    show _ = k10 (if v2 = 0 then 0 else v / v2) y t2
    by_cases z : v2 = 0
    · rw [if_pos z, hb, Option.bind_some, if_pos z]
    · rw [if_neg z, if_pos rfl, if_neg z]
      unfold zdv
      rw [if_neg z, Option.bind_some, hb, Option.bind_some]
  · rw [if_neg (by decide)]
    show _ = k10 (if v2 = 0 then 0 else zrem v v2) y t2
    by_cases z : v2 = 0
    · rw [if_pos z, hb, Option.bind_some, if_pos z]
    · rw [if_neg z, if_neg (by decide), if_neg z]
      unfold zrv
      rw [if_neg z, Option.bind_some, hb, Option.bind_some]
theorem prod_loop {N : Nat} {tx : Nat → Int32} {o : Nat} {c : Int32 → zSt → Option (Int32 × zSt)} {d : zSt → Option (Int32 × zSt)} (H : yPr N tx o c d) : ∀ (m p k : Nat) (s : zSt) (i F F' : Nat), N - p ≤ m → m < F → m < F' → i ≤ p → zPt N tx s p k → k ≤ p →
    ∃ r s', f_tp_readProduct_14 c F (nI o) 1 (zsc N tx p) (nI i) s = some (r, s') ∧ yResL N tx o s p k (fun v t => f_m_product_10 d F' v (zsm N tx p) t) r s' := by
  intro m
  induction m with
  | zero =>
    intro p k s i F F' hm hF hF' hi hs hk
    obtain ⟨F, rfl⟩ : ∃ x, F = x + 1 := ⟨F - 1, by omega⟩
    obtain ⟨F', rfl⟩ : ∃ x, F' = x + 1 := ⟨F' - 1, by omega⟩
    exact prod_stop hs (fun e => by have := sm_lt (by decide) e; omega) (fun e => by have := sm_lt (by decide) e; omega) (fun e => by have := sm_lt (by decide) e; omega)
  | succ m ih =>
    intro p k s i F F' hm hF hF' hi hs hk
    obtain ⟨F, rfl⟩ : ∃ x, F = x + 2 := ⟨F - 2, by omega⟩
    obtain ⟨F', rfl⟩ : ∃ x, F' = x + 2 := ⟨F' - 2, by omega⟩
    have hN : N ≤ 120 := hs.1
    have go : ∀ x : Int32, (x = 42 ∨ x = 47 ∨ x = 37) → 0 < x → zOp x → zsm N tx p = x → ∃ r s', f_tp_readProduct_14 c (F + 2) (nI o) 1 (zsc N tx p) (nI i) s = some (r, s') ∧ yResL N tx o s p k (fun v t => f_m_product_10 d (F' + 2) v (zsm N tx p) t) r s' := by
      intro x x1 x2 x3 x4
      have hp : p < N := sm_lt x2 x4
      obtain ⟨r2, s2, e2, hr⟩ := op_step H hs hk hp x3
      have hG : f_tp_readProduct_14 c (F + 2) (nI o) 1 (zsc N tx p) (nI i) s = f_tp_readProduct_43 c (f_tp_readProduct_14 c (F + 1)) (nI o) x (nI i) s := by
        conv => lhs; unfold f_tp_readProduct_14
        rw [if_neg (show ¬ (120 : Int32) ≤ nI i from nI_ge (b := 120) (by omega) (by omega)), if_neg q_neg10', (sc_sm x2).mpr x4]
        rcases x1 with rfl | rfl | rfl
        · rw [if_pos rfl]
        · rw [if_neg (by decide), if_pos rfl]
        · rw [if_neg (by decide), if_neg (by decide), if_pos rfl]
      have hM : ∀ (t : zSt) (v v2 y : Int32) (t2 : zSt), zMt N tx t p o → d (zw t 0 15 (t.1 0 15 + 1)) = some (v2, t2) → f_m_byteAt t2 = some (y, t2) → f_m_product_10 d (F' + 2) v (zsm N tx p) t = f_m_product_10 d (F' + 1) (vBin x v v2) y t2 := by
        intro t v v2 y t2 ht e hb
        conv => lhs; unfold f_m_product_10
        rw [ht.2.1, if_neg (by decide), x4, ← prod_val (k10 := f_m_product_10 d (F' + 1)) (v := v) x1 e hb]
        rcases x1 with rfl | rfl | rfl
        · rw [if_pos rfl]
        · rw [if_neg (by decide), if_pos rfl]
        · rw [if_neg (by decide), if_neg (by decide), if_pos rfl]
      rw [hG]
      unfold f_tp_readProduct_43
      rw [e2, Option.bind_some]
      try dsimp only
      rcases hr with ⟨rfl, hA⟩ | ⟨rfl, s3, p', k3, e3, hB⟩
      · obtain ⟨p', k2, a1, -⟩ := id hA
        rw [if_pos rfl, tp_nx a1, Option.bind_some]
        try dsimp only
        rw [prod_0]
        exact ⟨0, s2, rfl, resL_bad hA (fun t v v2 t2 p' ht e hx => ⟨_, by rw [hM t v v2 _ t2 ht e (p_byte hx.1)]; exact prod_x d F' _ _ hx⟩)⟩
      · obtain ⟨b1, b2, b3, b4, b5, b6⟩ := id hB
        rw [if_neg q_neg10', e3, Option.bind_some, if_neg q_neg10']
        try dsimp only
        rw [tp_nx b1, Option.bind_some, nI_1]
        try dsimp only
        obtain ⟨r, s', w1, w2⟩ := ih p' k3 s3 (i + 1) (F + 1) (F' + 1) (by omega) (by omega) (by omega) (by omega) b1 (by omega)
        exact ⟨r, s', w1, resL_go hB w2 (fun t v v2 t2 ht e hx => hM t v v2 _ t2 ht e (p_byte hx.1))⟩
    by_cases c42 : zsm N tx p = 42
    · exact go 42 (Or.inl rfl) (by decide) (by unfold zOp; decide) c42
    · by_cases c47 : zsm N tx p = 47
      · exact go 47 (Or.inr (Or.inl rfl)) (by decide) (by unfold zOp; decide) c47
      · by_cases c37 : zsm N tx p = 37
        · exact go 37 (Or.inr (Or.inr rfl)) (by decide) (by unfold zOp; decide) c37
        · exact prod_stop hs c42 c47 c37
theorem prod_rel {N : Nat} {tx : Nat → Int32} {o : Nat} {c : Int32 → zSt → Option (Int32 × zSt)} {d : zSt → Option (Int32 × zSt)} (H : yPr N tx o c d) : yPr N tx o (b_tp_readProduct c) (b_m_product d) := by
  have hzF := zFu_big
  obtain ⟨F, hF⟩ : ∃ x, zFu = x + 1 := ⟨zFu - 1, by omega⟩
  refine seq_rel H (fun v s => (f_tp_next s).bind fun x2 => f_tp_readProduct_14 c zFu (nI o) v x2.1 0 x2.2) (fun v t => (f_m_byteAt t).bind fun x2 => f_m_product_10 d zFu v x2.1 x2.2) (fun s => rfl) (fun t => rfl) (fun s p k hs => ?_) (fun v t p h => ?_) (fun s p k hs hk => ?_)
  · try dsimp only
    rw [tp_nx hs, Option.bind_some, hF]
    exact prod_0 c F _ _ _ s
  · try dsimp only
    rw [p_byte h.1, Option.bind_some, hF]
    exact prod_x d F v _ h
  · try dsimp only
    rw [tp_nx hs, Option.bind_some]
    try dsimp only
    have hN : N ≤ 120 := hs.1
    obtain ⟨r, s', w1, w2⟩ := prod_loop H N p k s 0 zFu zFu (by omega) (by omega) (by omega) (by omega) hs hk
    rw [show nI 0 = (0 : Int32) from rfl] at w1
    exact ⟨r, s', w1, resL_cg w2 (fun t v ht => by rw [p_byte ht.1, Option.bind_some])⟩
