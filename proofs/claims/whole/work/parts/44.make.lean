/-! OPS 14: make -/
def dp (x : Nat) : Nat → Nat → Nat
  | 0, k => if k = 0 then 1 else 0
  | n + 1, 0 => dp x n 0 * (12 - x)
  | n + 1, k + 1 => dp x n (k + 1) * (12 - x) + dp x n k * x
theorem dp_le {x : Nat} (hx : x ≤ 12) : ∀ n k, dp x n k ≤ 12 ^ n := by
  intro n
  induction n with
  | zero => intro k; unfold dp; by_cases h : k = 0 <;> simp [h]
  | succ n ih =>
    intro k
    match k with
    | 0 =>
      unfold dp
      rw [Nat.pow_succ]
      exact Nat.mul_le_mul (ih 0) (by omega)
    | k + 1 =>
      unfold dp
      have h1 : dp x n (k + 1) * (12 - x) ≤ 12 ^ n * (12 - x) := Nat.mul_le_mul (ih _) (Nat.le_refl _)
      have h2 : dp x n k * x ≤ 12 ^ n * x := Nat.mul_le_mul (ih _) (Nat.le_refl _)
      have h3 : 12 ^ n * (12 - x) + 12 ^ n * x = 12 ^ (n + 1) := by
        rw [← Nat.mul_add, Nat.pow_succ, show 12 - x + x = 12 by omega]
      omega
theorem dp_0 (x : Nat) : ∀ n k, n < k → dp x n k = 0 := by
  intro n
  induction n with
  | zero => intro k h; unfold dp; rw [if_neg (by omega)]
  | succ n ih =>
    intro k h
    match k, h with
    | k + 1, h =>
      unfold dp
      rw [ih _ (by omega), ih _ (by omega), Nat.zero_mul, Nat.zero_mul]
/-- the class's count of ways: from the product V on, the factors i, i + 1 .. -/
def wy (n k : Nat) : Nat → Nat → Nat → Nat
  | 0, V, _ => V
  | m + 1, V, i => wy n k m (V * (n - k + i) / i) (i + 1)
theorem wy_dp : ∀ n, n < 9 → ∀ k, k < 9 → k ≤ n → ∀ x, x < 13 → wy n k k 1 1 * x ^ k * (12 - x) ^ (n - k) = dp x n k := by
  decide +kernel
/-- what is sold, in all ways together, of i counts of buyers -/
def sm (x n g : Nat) : Nat → Nat
  | 0 => 0
  | i + 1 => sm x n g i + dp x n i * min i g
theorem sm_le {x n : Nat} (hx : x ≤ 12) (hn : n ≤ 8) (g : Nat) (hg : g ≤ 8) : ∀ i, sm x n g i ≤ i * (12 ^ 8 * 8) := by
  intro i
  induction i with
  | zero => exact Nat.zero_le _
  | succ i ih =>
    unfold sm
    have h1 : dp x n i * min i g ≤ 12 ^ 8 * 8 := Nat.mul_le_mul (Nat.le_trans (dp_le hx n i) (Nat.pow_le_pow_right (by omega) hn)) (by omega)
    rw [Nat.succ_mul]
    omega
theorem pow_loop (b e : Nat) (he : e ≤ 8) (s : zSt) : ∀ (m i n v : Nat), i + m = e → m < n → f_su_power_5 n (lN b) (nI e) (lN v) (nI i) s = some (lN (v * b ^ m), s) := by
  intro m
  induction m with
  | zero =>
    intro i n v hi hn
    obtain ⟨n, rfl⟩ : ∃ x, n = x + 1 := ⟨n - 1, by omega⟩
    have e : i = e := by omega
    subst e
    unfold f_su_power_5
    rw [if_pos (nI_le (Nat.le_refl _) (by omega)), Nat.pow_zero, Nat.mul_one]
  | succ m ih =>
    intro i n v hi hn
    obtain ⟨n, rfl⟩ : ∃ x, n = x + 1 := ⟨n - 1, by omega⟩
    unfold f_su_power_5
    rw [if_neg (nI_ge (by omega) (by omega)), lN_mul, nI_1, ih (i + 1) n (v * b) (by omega) (by omega), Nat.pow_succ, Nat.mul_assoc, Nat.mul_comm b]
theorem p_pow {b e : Nat} (he : e ≤ 8) (s : zSt) : f_su_power (lN b) (nI e) s = some (lN (b ^ e), s) := by
  have := pow_loop b e he s e 0 zFu 1 (by omega) (by have := zFu_big; omega)
  rw [Nat.one_mul] at this
  exact this
theorem ways_loop {n k : Nat} (hk : k ≤ n) (hn : n ≤ 8) (s : zSt) : ∀ (m i F V : Nat), i + m = k + 1 → 1 ≤ i → m < F → V ≤ 8 ^ (i - 1) → f_su_ways_5 F (nI n) (nI k) (lN V) (nI i) s = some (lN (wy n k m V i), s) := by
  intro m
  induction m with
  | zero =>
    intro i F V hi h1 hF hV
    obtain ⟨F, rfl⟩ : ∃ x, F = x + 1 := ⟨F - 1, by omega⟩
    unfold f_su_ways_5
    rw [if_pos (nI_lt (by omega) (by omega))]
    rfl
  | succ m ih =>
    intro i F V hi h1 hF hV
    obtain ⟨F, rfl⟩ : ∃ x, F = x + 1 := ⟨F - 1, by omega⟩
    have hV2 : V ≤ 8 ^ 8 := Nat.le_trans hV (Nat.pow_le_pow_right (by omega) (by omega))
    have hP : V * (n - k + i) ≤ 8 ^ (i - 1) * 8 := Nat.mul_le_mul hV (by omega)
    have hP2 : V * (n - k + i) ≤ 8 ^ 8 * 8 := Nat.mul_le_mul hV2 (by omega)
    unfold f_su_ways_5
    rw [if_neg (nI_nlt (by omega) (by omega)), pk_sub hk, nI_add, nI_l (by omega), nI_l (by omega), lN_mul, zdvl_at (by omega) (by omega) (by omega), Option.bind_some, nI_1]
    refine ih (i + 1) F _ (by omega) (by omega) (by omega) ?_
    have h8 : 8 ^ (i + 1 - 1) = 8 ^ (i - 1) * 8 := by
      rw [← Nat.pow_succ]
      congr 1
      omega
    rw [h8]
    exact Nat.le_trans (Nat.div_le_self _ _) hP
theorem p_ways {n k : Nat} (hk : k ≤ n) (hn : n ≤ 8) (s : zSt) : f_su_ways (nI n) (nI k) s = some (lN (wy n k k 1 1), s) :=
  ways_loop hk hn s k 1 zFu 1 (by omega) (by omega) (by have := zFu_big; omega) (by decide)
theorem q_minN (a b : Nat) (ha : a < 2147483648) (hb : b < 2147483648) : zmin (nI a) (nI b) = nI (min a b) := by
  rw [q_min ha hb]
  by_cases h : b < a
  · rw [if_pos h, Nat.min_eq_right (by omega)]
  · rw [if_neg h, Nat.min_eq_left (by omega)]
theorem mean_loop {n x g : Nat} (hn : n ≤ 8) (hx : x ≤ 12) (hg : g ≤ 8) (s : zSt) : ∀ (m i F : Nat), i + m = n + 1 → m < F → f_su_meanSold_5 F (nI n) (nI x) (nI g) (lN (sm x n g i)) (nI i) s = some (lN (sm x n g (n + 1)), s) := by
  intro m
  induction m with
  | zero =>
    intro i F hi hF
    obtain ⟨F, rfl⟩ : ∃ x, F = x + 1 := ⟨F - 1, by omega⟩
    have e : i = n + 1 := by omega
    subst e
    unfold f_su_meanSold_5
    rw [if_pos (nI_lt (by omega) (by omega))]
  | succ m ih =>
    intro i F hi hF
    obtain ⟨F, rfl⟩ : ∃ x, F = x + 1 := ⟨F - 1, by omega⟩
    unfold f_su_meanSold_5
    rw [if_neg (nI_nlt (by omega) (by omega)), p_ways (by omega) hn, Option.bind_some, nI_l (by omega), p_pow (by omega), Option.bind_some, show (12 : Int32) = nI 12 from rfl, pk_sub (a := 12) hx, nI_l (by omega), pk_sub (show i ≤ n by omega), p_pow (by omega), Option.bind_some, q_minN _ _ (by omega) (by omega), nI_l (by omega), lN_mul, lN_mul, lN_mul, lN_add, nI_1, wy_dp n (by omega) i (by omega) (by omega) x (by omega)]
    exact ih (i + 1) F (by omega) (by omega)
theorem p_mean {n x g : Nat} (hn : n ≤ 8) (hx : x ≤ 12) (hg : g ≤ 8) (s : zSt) : f_su_meanSold (nI n) (nI x) (nI g) s = some (lN (sm x n g (n + 1)), s) :=
  mean_loop hn hx hg s (n + 1) 0 zFu (by omega) (by have := zFu_big; omega)
/-- what g glasses gain -/
def gn (p c x n g : Nat) : Int64 := lN (p * sm x n g (n + 1)) - lN (c * g * 12 ^ n)
theorem p_gain {n x g c p : Nat} (hn : n ≤ 8) (hx : x ≤ 12) (hg : g ≤ 8) (hc : c ≤ 99) (hp : p ≤ 50) {s : zSt} (e : s.1 2 3 = nI p) : f_g_meanGain (nI n) (nI x) (nI c) (nI g) s = some (gn p c x n g, s) := by
  have h1 : c * g ≤ 99 * 8 := Nat.mul_le_mul hc hg
  unfold f_g_meanGain
  rw [show zld s 2 8 3 = some (s.1 2 3) from zld_at (j := 3) (by omega) (by omega), Option.bind_some, e, p_mean hn hx hg, Option.bind_some, show (12 : Int64) = lN 12 from rfl, p_pow (by omega), Option.bind_some, pk_mul, nI_l (by omega), nI_l (by omega), lN_mul, lN_mul]
  rfl
