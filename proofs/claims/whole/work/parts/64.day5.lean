/-! DAYS 5: a quarter -/
def yPs (s t : zSt) : Prop := ∃ P, P ≤ 4 ∧ s.1 6 3 = nI P ∧ t.1 0 8 = nI P ∧ (∀ j, j < 32 → s.1 8 j = t.1 6 j) ∧ (∀ j, j < 128 → s.1 9 j = t.1 7 j) ∧ ∀ j, j < 128 → 0 ≤ (t.1 7 j).toInt ∧ (t.1 7 j).toInt ≤ 9
theorem p_passers {s t : zSt} (h : yPs s t) {q : Nat} (hq : q < 32) : ∃ n, n ≤ 9 ∧ f_st_passers (nI q) s = some (nI n, s) ∧ f_m_passersIn (nI q) t = some (nI n, t) := by
  obtain ⟨P, hP, e1, e2, hst, hfl, hr⟩ := h
  have L8 : zld s 8 32 (nI q) = some (s.1 8 q) := zld_at hq (by omega)
  have L6 : zld t 6 32 (nI q) = some (t.1 6 q) := zld_at hq (by omega)
  have hG : f_st_passers (nI q) s = (f_st_flowAt (t.1 6 q) (nI q) s).bind fun x3 => some (x3.1, x3.2) := by
    unfold f_st_passers
    rw [p_gQ, Option.bind_some, q01_t (by rw [q_nI (by omega)]; omega), if_neg q_neg10']
    dsimp only
    rw [L8, Option.bind_some, hst q hq]
  have hM : f_m_passersIn (nI q) t = if q01 (0 ≤ (t.1 6 q).toInt ∧ (t.1 6 q).toInt < (P : Int)) = 0 then some (0, t) else (zld t 7 128 ((32 * t.1 6 q) + nI q)).bind fun x4 => some (x4, t) := by
    unfold f_m_passersIn
    rw [L6, Option.bind_some, p_mPlace hP _ t e2, Option.bind_some]
    dsimp only
    rw [L6, Option.bind_some]
  by_cases c : 0 ≤ (t.1 6 q).toInt ∧ (t.1 6 q).toInt < (P : Int)
  · obtain ⟨j, hj, ej⟩ := q_ixl c
    obtain ⟨n, hn, en⟩ := q_ix (x := t.1 7 (32 * j + q)) (n := 9) (hr _ (by omega))
    refine ⟨n, hn, ?_, ?_⟩
    · rw [hG, ej, p_flowAt hP e1 hj hq, Option.bind_some, hfl _ (by omega), en]
    · rw [hM, q01_t c, if_neg q_neg10', ej, show (32 : Int32) = nI 32 from rfl, pk_mul, nI_add, zld_at (show 32 * j + q < 128 by omega) (by omega), Option.bind_some, en]
  · refine ⟨0, by omega, ?_, ?_⟩
    · rw [hG]
      unfold f_st_flowAt
      rw [p_gPlace hP _ s e1, Option.bind_some, q01_f c, if_pos rfl, Option.bind_some]
      rfl
    · rw [hM, q01_f c, if_pos rfl]
      rfl
theorem yPs_q {o : Nat} {s t s' t' : zSt} (h : yPs s t) (ho : o = 25 ∨ o = 27) (hs : yQw o s s') (ht : yQm t t') : yPs s' t' := by
  have A : ∀ a, a < 19 → s'.1 a = s.1 a := fun a ha => hs.2 a (by omega) (by omega) (by omega) (by omega) (by omega) (by omega)
  unfold yPs
  rw [A 6 (by omega), A 8 (by omega), A 9 (by omega), ht.2.2 8 (by omega), ht.2.1 6 (by omega) (by omega) (by omega), ht.2.1 7 (by omega) (by omega) (by omega)]
  exact h
theorem q_diff {x y z : Int32} (h : x - y = z - 0) : x = z + y := by
  rw [q_eq] at h ⊢
  have h1 := q_subE x y
  have h2 := q_subE z 0
  have h3 := q_addE z y
  rw [l0] at h2
  have r1 := q_rng x
  have r2 := q_rng (z + y)
  omega
theorem quarter_rel {o G S q : Nat} {s t : zSt} (ho : o = 25 ∨ o = 27) (hq : q < 32) (hL : yLw s t) (hf : zFo s) (hn : yDn o s t G S) (hp : yPs s t) (hz : s.1 (o + 1) q = 0) :
    ∃ (s' t' : zSt), f_dy_pass o (nI q) s = some s' ∧ f_m_quarterGoes (nI q) t = some t' ∧ yQu o q G S s' t' ∧ (∀ j, j ≠ q → s'.1 (o + 1) j = s.1 (o + 1) j ∧ t'.1 12 j = t.1 12 j) ∧ s'.1 o 1 = s.1 o 1 + t'.1 12 q ∧ yQf o s s' ∧ yQm t t' := by
  have hZ : yDm t (zw t 12 q 0) := ⟨rfl, fun a _ a2 => zw_e a2, fun _ _ => rfl⟩
  obtain ⟨n, n9, p1, -⟩ := p_passers hp hq
  obtain ⟨n', n9', p1', p2⟩ := p_passers (yPs_q hp ho (yQw_f (yQf_r o s)) (yQm_d hZ)) hq
  have en : n' = n := by
    rw [p1] at p1'
    have := congrArg Prod.fst (Option.some.inj p1')
    exact ((nI_eq (by omega) (by omega)).mp this).symm
  subst en
  have hzF := zFu_big
  have hU : yQu o q G S s (zw t 12 q 0) := ⟨yLw_d hL (yDf_r s) hZ, hf, yDn_cg hn (fun _ _ => rfl) (fun j _ _ => rfl) rfl, by rw [hz, zw_v]⟩
  obtain ⟨s1, t1, a1, a2, a3, a4, a5, a6, a7⟩ := pass_loop ho hq n9 (k := s.1 7 q) n' 0 zFu zFu s (zw t 12 q 0) (by omega) (by omega) (by omega) hU rfl
  obtain ⟨s2, t2, b1, b2, b3, b4, b5, b6, b7, b8⟩ := pass_end ho n9 (s.1 7 q) (zFu - n' - 1) (zFu - n' - 1) a3
  rw [show zFu - n' - 1 + 1 = zFu - n' by omega] at b1 b2
  have L7 : zld s 7 32 (nI q) = some (s.1 7 q) := zld_at hq (by omega)
  refine ⟨s2, t2, ?_, ?_, b3, fun j hj => ⟨?_, ?_⟩, ?_, yQf_t a6 b7, yQm_t (yQm_d hZ) (yQm_t a7 b8)⟩
  · unfold f_dy_pass
    rw [p_gQ, Option.bind_some, q01_t (by rw [q_nI (by omega)]; omega), if_neg q_neg10']
    dsimp only
    rw [L7, Option.bind_some, p1, Option.bind_some]
    dsimp only
    rw [show nI 0 = (0 : Int32) from rfl] at a1
    rw [a1, b1]
  · unfold f_m_quarterGoes
    rw [zst_at hq (by omega), Option.bind_some, p2, Option.bind_some]
    dsimp only
    rw [show nI 0 = (0 : Int32) from rfl] at a2
    rw [a2, b2]
  · rw [b4]; exact (a4 j hj).1
  · rw [b5, (a4 j hj).2]
    show upd (t.1 12) q 0 j = t.1 12 j
    rw [q_updN hj]
  · rw [hz] at a5
    rw [b6, q_diff a5, ← b3.2.2.2, b4]
