/-! OPS 15: make, the reference -/
def zdp (t : zSt) (x m : Nat) : zSt := (t.1, fun a => if a = 16 then (fun k => if k < 10 then lN (dp x m k) else t.2 16 k) else t.2 a)
def zdq (t : zSt) (x m j : Nat) : zSt := (t.1, fun a => if a = 16 then (fun k => if k < 10 then lN (if j ≤ k then dp x (m + 1) k else dp x m k) else t.2 16 k) else t.2 a)
def zfz (t : zSt) (i : Nat) : zSt := (t.1, fun a => if a = 16 then (fun k => if k < i then 0 else t.2 16 k) else t.2 a)
theorem z16 {t : zSt} {f g : Nat → Int64} (h : ∀ k, f k = g k) : ((t.1, fun a => if a = 16 then f else t.2 a) : zSt) = (t.1, fun a => if a = 16 then g else t.2 a) := by
  rw [show f = g from funext h]
theorem zwl16 (t : zSt) (f : Nat → Int64) (j : Nat) (v : Int64) : zwl ((t.1, fun a => if a = 16 then f else t.2 a) : zSt) 16 j v = (t.1, fun a => if a = 16 then vp_updL f j v else t.2 a) := by
  show (t.1, _) = (t.1, _)
  congr 1
  funext a
  by_cases e : a = 16
  · subst e; rfl
  · simp only [if_neg e]
theorem zfz_0 (t : zSt) : zfz t 0 = t := by
  have : (fun a => if a = 16 then (fun k => if k < 0 then 0 else t.2 16 k) else t.2 a) = t.2 := by
    funext a
    by_cases h : a = 16
    · subst h
      funext k
      rw [if_pos rfl, if_neg (by omega)]
    · rw [if_neg h]
  show (t.1, _) = t
  rw [this]
theorem zfz_s (t : zSt) (i : Nat) : zwl (zfz t i) 16 i 0 = zfz t (i + 1) := by
  unfold zfz
  rw [zwl16]
  refine z16 (fun k => ?_)
  unfold vp_updL
  dsimp only
  by_cases e : k = i
  · rw [if_pos e, if_pos (by omega)]
  · rw [if_neg e]
    by_cases e2 : k < i
    · rw [if_pos e2, if_pos (by omega)]
    · rw [if_neg e2, if_neg (by omega)]
theorem zfz_1 (t : zSt) (x : Nat) : zwl (zfz t 10) 16 0 1 = zdp t x 0 := by
  unfold zfz zdp
  rw [zwl16]
  refine z16 (fun k => ?_)
  unfold vp_updL dp
  by_cases e : k = 0
  · subst e; rw [if_pos rfl, if_pos (by omega), if_pos rfl]; rfl
  · rw [if_neg e, if_neg e]; rfl
theorem zdq_t (t : zSt) (x m : Nat) : zdp t x m = zdq t x m (m + 2) := by
  unfold zdp zdq
  refine z16 (fun k => ?_)
  by_cases h : m + 2 ≤ k
  · rw [if_pos h, dp_0 x m k (by omega), dp_0 x (m + 1) k (by omega)]
  · rw [if_neg h]
theorem zdq_0 (t : zSt) (x m : Nat) : zdq t x m 0 = zdp t x (m + 1) := by
  unfold zdp zdq
  exact z16 (fun k => by rw [if_pos (Nat.zero_le _)])
theorem zdq_s (t : zSt) (x m : Nat) {q : Nat} (hq : q < 10) : zwl (zdq t x m (q + 1)) 16 q (lN (dp x (m + 1) q)) = zdq t x m q := by
  unfold zdq
  rw [zwl16]
  refine z16 (fun k => ?_)
  unfold vp_updL
  dsimp only
  by_cases e : k = q
  · subst e; rw [if_pos rfl, if_pos hq, if_pos (Nat.le_refl _)]
  · rw [if_neg e]
    by_cases e2 : k < 10
    · rw [if_pos e2, if_pos e2]
      by_cases e3 : q ≤ k
      · rw [if_pos e3, if_pos (by omega)]
      · rw [if_neg e3, if_neg (by omega)]
    · rw [if_neg e2, if_neg e2]
theorem zdq_l (t : zSt) (x m : Nat) {j q : Nat} (hq : q < 10) (h : q < j) : zldl (zdq t x m j) 16 10 (nI q) = some (lN (dp x m q)) := by
  rw [zldl_at hq (by omega)]
  congr 1
  show (if q < 10 then lN (if j ≤ q then dp x (m + 1) q else dp x m q) else t.2 16 q) = _
  rw [if_pos hq, if_neg (by omega)]
theorem make_in {x m : Nat} (hx : x ≤ 12) (hm : m < 8) (K : Int32 → Int32 → Int32 → Int32 → Int64 → Int32 → zSt → Option (Int64 × zSt)) (v2 v3 v4 : Int32) (v6 : Int64) (t : zSt) : ∀ (j F : Nat), j ≤ m + 2 → j < F →
    f_m_make_120 K F v2 v3 v4 (nI x) v6 (nI m) (nI j - 1) (zdq t x m j) = K v2 v3 v4 (nI x) v6 (nI (m + 1)) (zdp t x (m + 1)) := by
  intro j
  induction j with
  | zero =>
    intro F hj hF
    obtain ⟨F, rfl⟩ : ∃ x, F = x + 1 := ⟨F - 1, by omega⟩
    unfold f_m_make_120
    rw [if_pos (by decide), zdq_0, nI_1]
  | succ q ih =>
    intro F hj hF
    obtain ⟨F, rfl⟩ : ∃ x, F = x + 1 := ⟨F - 1, by omega⟩
    unfold f_m_make_120
    rw [nI_pred, if_neg (nI_pos (by omega)), zdq_l t x m (by omega) (by omega), Option.bind_some, show (12 : Int32) = nI 12 from rfl, pk_sub (a := 12) hx, nI_l (by omega)]
    by_cases h0 : q = 0
    · subst h0
      rw [if_pos (by decide), lN_mul, show (0 : Int64) = lN 0 from rfl, lN_add, Nat.add_zero (dp x m 0 * (12 - x)), zstl_at (show 0 < 10 by omega) (by omega), Option.bind_some, show dp x m 0 * (12 - x) = dp x (m + 1) 0 from rfl, zdq_s t x m (q := 0) (by omega)]
      exact ih F (by omega) (by omega)
    · obtain ⟨q, rfl⟩ : ∃ z, q = z + 1 := ⟨q - 1, by omega⟩
      rw [if_neg (nI_nle (by omega) (by omega)), nI_pred, zdq_l t x m (show q < 10 by omega) (by omega), Option.bind_some, nI_l (by omega), lN_mul, lN_mul, lN_add, zstl_at (show q + 1 < 10 by omega) (by omega), Option.bind_some, show dp x m (q + 1) * (12 - x) + dp x m q * x = dp x (m + 1) (q + 1) from rfl, zdq_s t x m (by omega)]
      rw [show nI (q + 1) + (-1) = nI (q + 1) - 1 from (Int32.sub_eq_add_neg _ _).symm]
      exact ih F (by omega) (by omega)
theorem make_dp {x n : Nat} (hx : x ≤ 12) (hn : n ≤ 8) (v2 v3 : Int32) (t : zSt) : ∀ (k m F : Nat), m + k = n → k < F →
    f_m_make_99 F v2 v3 (nI n) (nI x) (lN (12 ^ m)) (nI m) (zdp t x m) = f_m_make_190 zFu v2 v3 (nI n) (lN (12 ^ n)) 0 0 0 (zdp t x n) := by
  intro k
  induction k with
  | zero =>
    intro m F hm hF
    obtain ⟨F, rfl⟩ : ∃ x, F = x + 1 := ⟨F - 1, by omega⟩
    have e : m = n := by omega
    subst e
    unfold f_m_make_99
    rw [if_pos (nI_le (Nat.le_refl _) (by omega))]
  | succ k ih =>
    intro m F hm hF
    obtain ⟨F, rfl⟩ : ∃ x, F = x + 1 := ⟨F - 1, by omega⟩
    unfold f_m_make_99
    rw [if_neg (nI_ge (by omega) (by omega)), show (12 : Int64) = lN 12 from rfl, lN_mul, ← Nat.pow_succ, nI_1, ← nI_pred (m + 1), zdq_t, make_in hx (by omega) _ v2 v3 (nI n) _ t (m + 2) zFu (by omega) (by have := zFu_big; omega)]
    exact ih (m + 1) F (by omega) (by omega)
theorem make_start {x n : Nat} (hx : x ≤ 12) (hn : n ≤ 8) (v2 v3 : Int32) (t : zSt) : ∀ (k i F : Nat), i + k = 10 → k < F →
    f_m_make_68 F v2 v3 (nI n) (nI x) 1 (nI i) (zfz t i) = f_m_make_190 zFu v2 v3 (nI n) (lN (12 ^ n)) 0 0 0 (zdp t x n) := by
  intro k
  induction k with
  | zero =>
    intro i F hi hF
    obtain ⟨F, rfl⟩ : ∃ x, F = x + 1 := ⟨F - 1, by omega⟩
    have e : i = 10 := by omega
    subst e
    unfold f_m_make_68
    rw [if_pos (by decide), show (0 : Int32) = nI 0 from rfl, zstl_at (show 0 < 10 by omega) (by omega), Option.bind_some, zfz_1 t x]
    exact make_dp hx hn v2 v3 t n 0 zFu (by omega) (by have := zFu_big; omega)
  | succ k ih =>
    intro i F hi hF
    obtain ⟨F, rfl⟩ : ∃ x, F = x + 1 := ⟨F - 1, by omega⟩
    unfold f_m_make_68
    rw [if_neg (show ¬ (10 : Int32) ≤ nI i from nI_ge (b := 10) (by omega) (by omega)), zstl_at (show i < 10 by omega) (by omega), Option.bind_some, zfz_s, nI_1]
    exact ih (i + 1) F (by omega) (by omega)
theorem l_addsub (a y d : Nat) : lN a - lN d + lN y = lN (a + y) - lN d := by
  rw [← lN_add, Int64.sub_eq_add_neg, Int64.sub_eq_add_neg, Int64.add_assoc, Int64.add_comm (-lN d), ← Int64.add_assoc]
/-- what g glasses gain, added up by the reference -/
theorem gain_loop {x n g p c : Nat} (hx : x ≤ 12) (hn : n ≤ 8) (hg : g ≤ 8) (hp : p ≤ 50) (K : Int32 → Int32 → Int32 → Int64 → Int32 → Int64 → Int32 → zSt → Option (Int64 × zSt)) (v2 v3 : Int32) (v6 : Int64) (b : Int32) (w : Int64) (t : zSt) (e : t.1 1 3 = nI p) : ∀ (k i F : Nat), i + k = n + 1 → k < F →
    f_m_make_211 K F v2 v3 (nI n) v6 b w (nI g) (lN (p * sm x n g i) - lN (c * g * 12 ^ n)) (nI i) (zdp t x n) = if nI g = 0 then K v2 v3 (nI n) v6 (nI g) (gn p c x n g) (nI (g + 1)) (zdp t x n) else if lg_cmp (gn p c x n g) w ≤ 0 then K v2 v3 (nI n) v6 b w (nI (g + 1)) (zdp t x n) else K v2 v3 (nI n) v6 (nI g) (gn p c x n g) (nI (g + 1)) (zdp t x n) := by
  intro k
  induction k with
  | zero =>
    intro i F hi hF
    obtain ⟨F, rfl⟩ : ∃ x, F = x + 1 := ⟨F - 1, by omega⟩
    have e : i = n + 1 := by omega
    subst e
    unfold f_m_make_211
    rw [if_pos (nI_lt (by omega) (by omega)), nI_1]
    rfl
  | succ k ih =>
    intro i F hi hF
    obtain ⟨F, rfl⟩ : ∃ x, F = x + 1 := ⟨F - 1, by omega⟩
    have hld : zldl (zdp t x n) 16 10 (nI i) = some (lN (dp x n i)) := by
      rw [zldl_at (show i < 10 by omega) (by omega)]
      congr 1
      show (if i < 10 then lN (dp x n i) else t.2 16 i) = _
      rw [if_pos (by omega)]
    have hpr : zld (zdp t x n) 1 8 3 = some (nI p) := by
      rw [← e]
      exact zld_at (j := 3) (by omega) (by omega)
    unfold f_m_make_211
    rw [if_neg (nI_nlt (by omega) (by omega)), hld, Option.bind_some, hpr, Option.bind_some, nI_l (show p < 2147483648 by omega), nI_l (show g < 2147483648 by omega), nI_l (show i < 2147483648 by omega), lN_mul, lN_mul, lN_mul, l_addsub, l_addsub, nI_1]
    by_cases h : g ≤ i
    · rw [if_pos (nI_le h (by omega)), show p * sm x n g i + dp x n i * p * g = p * sm x n g (i + 1) from by
        show _ = p * (sm x n g i + dp x n i * min i g)
        rw [Nat.min_eq_right h, Nat.mul_add, Nat.mul_comm (dp x n i) p, Nat.mul_assoc]]
      exact ih (i + 1) F (by omega) (by omega)
    · rw [if_neg (nI_ge (by omega) (by omega)), show p * sm x n g i + dp x n i * p * i = p * sm x n g (i + 1) from by
        show _ = p * (sm x n g i + dp x n i * min i g)
        rw [Nat.min_eq_left (by omega), Nat.mul_add, Nat.mul_comm (dp x n i) p, Nat.mul_assoc]]
      exact ih (i + 1) F (by omega) (by omega)
