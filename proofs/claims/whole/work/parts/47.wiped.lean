/-! OPS 17: wiped -/
def bt (v j : Nat) : Bool := (v / 2 ^ j) % 2 == 1
def wS (B : Nat → Int32) (v : Nat) : Nat → Int32
  | 0 => 0
  | j + 1 => wS B v j + (if bt v j = true then B j else 0)
def wF (f : Nat → Int32) (v : Nat) : Nat → Int32
  | 0 => 0
  | j + 1 => if bt v j = true then zmax (wF f v j) (f (v - 2 ^ j)) else wF f v j
def wG (B : Nat → Int32) : Nat → Nat → Int32
  | 0, _ => 0
  | n + 1, k => if k = n then (if n = 0 then 0 else if wS B n 6 = 0 then wF (wG B n) n 6 + 1 else wF (wG B n) n 6) else wG B n k
theorem bt_sh : ∀ v, v < 64 → ∀ j, j < 6 → ((((nI v >>> (nI j &&& 31)) &&& 1) = 1) ↔ bt v j = true) := by decide +kernel
theorem bt_xor : ∀ v, v < 64 → ∀ j, j < 6 → bt v j = true → (nI v ^^^ (1 <<< (nI j &&& 31))) = nI (v - 2 ^ j) ∧ (nI v &&& ((1 <<< (nI j &&& 31)) ^^^ (-1))) = nI (v - 2 ^ j) ∧ v - 2 ^ j < v := by decide +kernel
theorem bt_one : ∀ j, j < 6 → (1 : Int32) <<< (nI j &&& 31) = nI (2 ^ j) := by decide +kernel
theorem bt_t1 : ∀ i, i < 6 → ∀ v, v < 64 → (2 ^ i ≤ v ∧ v < 2 ^ (i + 1)) → bt v i = true := by decide +kernel
theorem bt_t2 : ∀ i, i < 6 → ∀ v, v < 64 → ∀ j, j < 6 → (2 ^ i ≤ v ∧ v < 2 ^ (i + 1) ∧ i < j) → bt v j = false := by decide +kernel
theorem bt_t3 : ∀ i, i < 6 → ∀ v, v < 64 → ∀ j, j < 6 → (2 ^ i ≤ v ∧ v < 2 ^ (i + 1) ∧ i ≤ j) → bt (v - 2 ^ i) j = false := by decide +kernel
theorem bt_t4 : ∀ i, i < 6 → ∀ v, v < 64 → ∀ j, j < 6 → (2 ^ i ≤ v ∧ v < 2 ^ (i + 1) ∧ j < i) → bt v j = bt (v - 2 ^ i) j := by decide +kernel
theorem bt_top (i : Nat) (hi : i < 6) (v : Nat) (hv : v < 64) (h1 : 2 ^ i ≤ v) (h2 : v < 2 ^ (i + 1)) : bt v i = true ∧ (∀ j, j < 6 → i < j → bt v j = false) ∧ (∀ j, j < 6 → i ≤ j → bt (v - 2 ^ i) j = false) ∧ (∀ j, j < 6 → j < i → bt v j = bt (v - 2 ^ i) j) :=
  ⟨bt_t1 i hi v hv ⟨h1, h2⟩, fun j hj h => bt_t2 i hi v hv j hj ⟨h1, h2, h⟩, fun j hj h => bt_t3 i hi v hv j hj ⟨h1, h2, h⟩, fun j hj h => bt_t4 i hi v hv j hj ⟨h1, h2, h⟩⟩
theorem wS_cg {B : Nat → Int32} {v w : Nat} : ∀ i, (∀ j, j < i → bt v j = bt w j) → wS B v i = wS B w i := by
  intro i
  induction i with
  | zero => intro _; rfl
  | succ i ih =>
    intro h
    unfold wS
    rw [ih (fun j hj => h j (by omega)), h i (by omega)]
theorem wS_up {B : Nat → Int32} {v i : Nat} : ∀ m, (∀ j, i ≤ j → j < i + m → bt v j = false) → wS B v (i + m) = wS B v i := by
  intro m
  induction m with
  | zero => intro _; rfl
  | succ m ih =>
    intro h
    show wS B v (i + m) + (if bt v (i + m) = true then B (i + m) else 0) = wS B v i
    rw [ih (fun j h1 h2 => h j h1 (by omega)), h (i + m) (by omega) (by omega), if_neg (by decide), Int32.add_zero]
theorem wS_top (B : Nat → Int32) {i v : Nat} (hi : i < 6) (hv : v < 64) (h1 : 2 ^ i ≤ v) (h2 : v < 2 ^ (i + 1)) : wS B (v - 2 ^ i) 6 + B i = wS B v 6 := by
  obtain ⟨b1, b2, b3, b4⟩ := bt_top i hi v hv h1 h2
  have e1 : wS B v 6 = wS B v (i + 1) := by
    have := wS_up (B := B) (v := v) (i := i + 1) (6 - (i + 1)) (fun j h1 h2 => b2 j (by omega) (by omega))
    rw [show i + 1 + (6 - (i + 1)) = 6 by omega] at this
    exact this
  have e2 : wS B (v - 2 ^ i) 6 = wS B (v - 2 ^ i) i := by
    have := wS_up (B := B) (v := v - 2 ^ i) (i := i) (6 - i) (fun j h1 h2 => b3 j (by omega) (by omega))
    rw [show i + (6 - i) = 6 by omega] at this
    exact this
  rw [e1, e2]
  show wS B (v - 2 ^ i) i + B i = wS B v i + (if bt v i = true then B i else 0)
  rw [b1, if_pos rfl, wS_cg i (fun j hj => (b4 j (by omega) hj).symm)]
/-- the class's tables, filled for the sets below n -/
def zwp (B : Nat → Int32) (s : zSt) (n : Nat) : zSt := (fun a => if a = 34 then (fun k => if k < n then wS B k 6 else s.1 34 k) else if a = 35 then (fun k => if k < n then wG B n k else s.1 35 k) else s.1 a, s.2)
theorem zwp_1 (B : Nat → Int32) (s : zSt) (h34 : s.1 34 0 = 0) (h35 : s.1 35 0 = 0) : zwp B s 1 = s := by
  have : (fun a => if a = 34 then (fun k => if k < 1 then wS B k 6 else s.1 34 k) else if a = 35 then (fun k => if k < 1 then wG B 1 k else s.1 35 k) else s.1 a) = s.1 := by
    funext a
    by_cases h : a = 34
    · subst h
      funext k
      rw [if_pos rfl]
      by_cases hk : k < 1
      · have e : k = 0 := by omega
        subst e
        rw [if_pos hk, h34]
        rfl
      · rw [if_neg hk]
    · rw [if_neg h]
      by_cases h' : a = 35
      · subst h'
        funext k
        rw [if_pos rfl]
        by_cases hk : k < 1
        · have e : k = 0 := by omega
          subst e
          rw [if_pos hk, h35]
          rfl
        · rw [if_neg hk]
      · rw [if_neg h']
  show (_, s.2) = s
  rw [this]
theorem zwp_s (B : Nat → Int32) (s : zSt) {v : Nat} (hv : 0 < v) : zw (zw (zwp B s v) 34 v (wS B v 6)) 35 v (if wS B v 6 = 0 then wF (wG B v) v 6 + 1 else wF (wG B v) v 6) = zwp B s (v + 1) := by
  have hval : (if wS B v 6 = 0 then wF (wG B v) v 6 + 1 else wF (wG B v) v 6) = wG B (v + 1) v := by
    show _ = if v = v then (if v = 0 then 0 else if wS B v 6 = 0 then wF (wG B v) v 6 + 1 else wF (wG B v) v 6) else wG B v v
    rw [if_pos rfl, if_neg (show ¬ v = 0 by omega)]
  rw [hval]
  show (_, s.2) = (_, s.2)
  congr 1
  funext a
  by_cases h : a = 34
  · subst h
    funext k
    show upd (fun k => if k < v then wS B k 6 else s.1 34 k) v (wS B v 6) k = if k < v + 1 then wS B k 6 else s.1 34 k
    by_cases e : k = v
    · subst e; rw [q_updS, if_pos (by omega)]
    · rw [q_updN e]
      by_cases e2 : k < v
      · rw [if_pos e2, if_pos (by omega)]
      · rw [if_neg e2, if_neg (by omega)]
  · by_cases h' : a = 35
    · subst h'
      funext k
      show upd (fun k => if k < v then wG B v k else s.1 35 k) v (wG B (v + 1) v) k = if k < v + 1 then wG B (v + 1) k else s.1 35 k
      by_cases e : k = v
      · subst e
        rw [q_updS, if_pos (by omega)]
      · rw [q_updN e]
        by_cases e2 : k < v
        · rw [if_pos e2, if_pos (by omega)]
          show wG B v k = if k = v then _ else wG B v k
          rw [if_neg e]
        · rw [if_neg e2, if_neg (by omega)]
    · simp only [zw_1, zwp, if_neg h, if_neg h']
theorem most_loop {f : Nat → Int32} {v : Nat} (hv : v < 64) (S : zSt) (h35 : ∀ k, k < v → S.1 35 k = f k) : ∀ (m j F : Nat), j + m = 6 → m < F → f_sl_mostGroups_4 F (nI v) (wF f v j) (nI j) S = if S.1 34 v = 0 then some (wF f v 6 + 1, S) else some (wF f v 6, S) := by
  intro m
  induction m with
  | zero =>
    intro j F hj hF
    obtain ⟨F, rfl⟩ : ∃ x, F = x + 1 := ⟨F - 1, by omega⟩
    have e : j = 6 := by omega
    subst e
    unfold f_sl_mostGroups_4
    rw [if_pos (by decide), zld_at hv (by omega), Option.bind_some]
  | succ m ih =>
    intro j F hj hF
    obtain ⟨F, rfl⟩ : ∃ x, F = x + 1 := ⟨F - 1, by omega⟩
    have h6 : ¬ (6 : Int32) ≤ nI j := nI_ge (b := 6) (by omega) (by omega)
    by_cases b : bt v j = true
    · obtain ⟨x1, x2, x3⟩ := bt_xor v hv j (by omega) b
      unfold f_sl_mostGroups_4
      rw [if_neg h6, if_pos ((bt_sh v hv j (by omega)).mpr b), x1, zld_at (show v - 2 ^ j < 64 by omega) (by omega), Option.bind_some, h35 _ x3, nI_1]
      have e : zmax (wF f v j) (f (v - 2 ^ j)) = wF f v (j + 1) := by
        show _ = if bt v j = true then zmax (wF f v j) (f (v - 2 ^ j)) else wF f v j
        rw [if_pos b]
      rw [e]
      exact ih (j + 1) F (by omega) (by omega)
    · unfold f_sl_mostGroups_4
      rw [if_neg h6, if_neg (fun z => b ((bt_sh v hv j (by omega)).mp z)), nI_1]
      have e : wF f v j = wF f v (j + 1) := by
        show _ = if bt v j = true then zmax (wF f v j) (f (v - 2 ^ j)) else wF f v j
        rw [if_neg b]
      rw [e]
      exact ih (j + 1) F (by omega) (by omega)
theorem sets_loop {B : Nat → Int32} {i : Nat} (hi : i < 6) (K : Int32 → zSt → Option (Int32 × zSt)) (s : zSt) : ∀ (m v F : Nat), v + m = 2 ^ (i + 1) → 2 ^ i ≤ v → m < F → f_sl_fewestPayments_21 K F (nI i) (B i) (nI (2 ^ i)) (nI v) (zwp B s v) = K (nI (i + 1)) (zwp B s (2 ^ (i + 1))) := by
  have hp : 2 ^ (i + 1) ≤ 2 ^ 6 := Nat.pow_le_pow_right (by omega) (by omega)
  have hp2 : 2 ^ (i + 1) = 2 * 2 ^ i := by rw [Nat.pow_succ]; omega
  have hp3 : 0 < 2 ^ i := Nat.pow_pos (by omega)
  intro m
  induction m with
  | zero =>
    intro v F hv h1 hF
    obtain ⟨F, rfl⟩ : ∃ x, F = x + 1 := ⟨F - 1, by omega⟩
    have e : v = 2 ^ (i + 1) := by omega
    subst e
    unfold f_sl_fewestPayments_21
    rw [show (2 : Int32) = nI 2 from rfl, pk_mul, ← hp2, if_pos (nI_le (Nat.le_refl _) (by omega)), nI_1]
  | succ m ih =>
    intro v F hv h1 hF
    obtain ⟨F, rfl⟩ : ∃ x, F = x + 1 := ⟨F - 1, by omega⟩
    have hv64 : v < 64 := by omega
    have e34 : (zwp B s v).1 34 (v - 2 ^ i) = wS B (v - 2 ^ i) 6 := by
      show (if v - 2 ^ i < v then wS B (v - 2 ^ i) 6 else s.1 34 (v - 2 ^ i)) = _
      rw [if_pos (by omega)]
    unfold f_sl_fewestPayments_21
    rw [show (2 : Int32) = nI 2 from rfl, pk_mul, ← hp2, if_neg (nI_ge (by omega) (by omega)), pk_sub h1, zld_at (show v - 2 ^ i < 64 by omega) (by omega), Option.bind_some, e34, zst_at hv64 (by omega), Option.bind_some, wS_top B hi hv64 h1 (by omega)]
    have hm : f_sl_mostGroups (nI v) (zw (zwp B s v) 34 v (wS B v 6)) = some ((if wS B v 6 = 0 then wF (wG B v) v 6 + 1 else wF (wG B v) v 6), zw (zwp B s v) 34 v (wS B v 6)) := by
      have := most_loop (f := wG B v) hv64 (zw (zwp B s v) 34 v (wS B v 6)) (fun k hk => by
        show (if k < v then wG B v k else s.1 35 k) = _
        rw [if_pos hk]) 6 0 zFu (by omega) (by have := zFu_big; omega)
      rw [zw_v] at this
      unfold f_sl_mostGroups
      refine Eq.trans this ?_
      by_cases z : wS B v 6 = 0
      · rw [if_pos z, if_pos z]
      · rw [if_neg z, if_neg z]
    rw [hm, Option.bind_some, zst_at hv64 (by omega), Option.bind_some, zwp_s B s (by omega), nI_1]
    exact ih (v + 1) F (by omega) (by omega) (by omega)
theorem wiped_g {B : Nat → Int32} (s : zSt) (hB : ∀ k n, k < 6 → f_sl_balance (nI k) (zwp B s n) = some (B k, zwp B s n)) : ∀ (m i F : Nat), i + m = 6 → m < F → f_sl_fewestPayments_2 F (nI i) (zwp B s (2 ^ i)) = some (6 - wG B 64 63, zwp B s 64) := by
  intro m
  induction m with
  | zero =>
    intro i F hi hF
    obtain ⟨F, rfl⟩ : ∃ x, F = x + 1 := ⟨F - 1, by omega⟩
    have e : i = 6 := by omega
    subst e
    unfold f_sl_fewestPayments_2
    rw [if_pos (by decide), show (63 : Int32) = nI 63 from rfl, zld_at (show 63 < 64 by omega) (by omega), Option.bind_some]
    rfl
  | succ m ih =>
    intro i F hi hF
    obtain ⟨F, rfl⟩ : ∃ x, F = x + 1 := ⟨F - 1, by omega⟩
    have hp : 2 ^ (i + 1) ≤ 2 ^ 6 := Nat.pow_le_pow_right (by omega) (by omega)
    have hp2 : 2 ^ (i + 1) = 2 * 2 ^ i := by rw [Nat.pow_succ]; omega
    unfold f_sl_fewestPayments_2
    rw [if_neg (show ¬ (6 : Int32) ≤ nI i from nI_ge (b := 6) (by omega) (by omega)), hB i _ (by omega), Option.bind_some, bt_one i (by omega), sets_loop (by omega) _ s (2 ^ i) (2 ^ i) zFu (by omega) (Nat.le_refl _) (by have := zFu_big; omega)]
    exact ih (i + 1) F (by omega) (by omega)
/-! the reference's two tables -/
def zmp (B : Nat → Int32) (t : zSt) (n : Nat) : zSt := (fun a => if a = 20 then (fun k => if k < n then wS B k 6 else t.1 20 k) else t.1 a, t.2)
def zmg (B : Nat → Int32) (t : zSt) (n : Nat) : zSt := (fun a => if a = 21 then (fun k => if k < n then wG B n k else t.1 21 k) else t.1 a, t.2)
theorem zw_zw (s : zSt) (k j : Nat) (a b : Int32) : zw (zw s k j a) k j b = zw s k j b := by
  show (_, s.2) = (_, s.2)
  congr 1
  funext c
  by_cases h : c = k
  · subst h
    simp only [if_true]
    funext i
    by_cases e : i = j
    · subst e; rw [zw_1, if_pos rfl, q_updS, q_updS]
    · rw [zw_1, if_pos rfl, q_updN e, q_updN e, q_updN e]
  · simp only [zw_1, if_neg h]
theorem zmp_0 (B : Nat → Int32) (t : zSt) : zmp B t 0 = t := by
  have : (fun a => if a = 20 then (fun k => if k < 0 then wS B k 6 else t.1 20 k) else t.1 a) = t.1 := by
    funext a
    by_cases h : a = 20
    · subst h
      funext k
      rw [if_pos rfl, if_neg (by omega)]
    · rw [if_neg h]
  show (_, t.2) = t
  rw [this]
theorem zmg_0 (B : Nat → Int32) (t : zSt) : zmg B t 0 = t := by
  have : (fun a => if a = 21 then (fun k => if k < 0 then wG B 0 k else t.1 21 k) else t.1 a) = t.1 := by
    funext a
    by_cases h : a = 21
    · subst h
      funext k
      rw [if_pos rfl, if_neg (by omega)]
    · rw [if_neg h]
  show (_, t.2) = t
  rw [this]
theorem zmp_s (B : Nat → Int32) (t : zSt) (v : Nat) : zw (zmp B t v) 20 v (wS B v 6) = zmp B t (v + 1) := by
  show (_, t.2) = (_, t.2)
  congr 1
  funext a
  by_cases h : a = 20
  · subst h
    funext k
    show upd (fun k => if k < v then wS B k 6 else t.1 20 k) v (wS B v 6) k = if k < v + 1 then wS B k 6 else t.1 20 k
    by_cases e : k = v
    · subst e; rw [q_updS, if_pos (by omega)]
    · rw [q_updN e]
      by_cases e2 : k < v
      · rw [if_pos e2, if_pos (by omega)]
      · rw [if_neg e2, if_neg (by omega)]
  · simp only [zmp, if_neg h]
theorem zmg_s (B : Nat → Int32) (t : zSt) (v : Nat) : zw (zmg B t v) 21 v (wG B (v + 1) v) = zmg B t (v + 1) := by
  show (_, t.2) = (_, t.2)
  congr 1
  funext a
  by_cases h : a = 21
  · subst h
    funext k
    show upd (fun k => if k < v then wG B v k else t.1 21 k) v (wG B (v + 1) v) k = if k < v + 1 then wG B (v + 1) k else t.1 21 k
    by_cases e : k = v
    · subst e; rw [q_updS, if_pos (by omega)]
    · rw [q_updN e]
      by_cases e2 : k < v
      · rw [if_pos e2, if_pos (by omega)]
        show wG B v k = if k = v then _ else wG B v k
        rw [if_neg e]
      · rw [if_neg e2, if_neg (by omega)]
  · simp only [zmg, if_neg h]
theorem msum_in {B : Nat → Int32} (t : zSt) (hB : ∀ (k : Nat) (t' : zSt), k < 6 → t'.1 19 = t.1 19 → f_m_owesOf (nI k) t' = some (B k, t')) (K : Int32 → zSt → Option (Int32 × zSt)) {v : Nat} (hv : v < 64) : ∀ (m j F : Nat), j + m = 6 → m < F → f_m_wiped_17 K F (nI v) (nI j) (zw (zmp B t v) 20 v (wS B v j)) = K (nI (v + 1)) (zmp B t (v + 1)) := by
  intro m
  induction m with
  | zero =>
    intro j F hj hF
    obtain ⟨F, rfl⟩ : ∃ x, F = x + 1 := ⟨F - 1, by omega⟩
    have e : j = 6 := by omega
    subst e
    unfold f_m_wiped_17
    rw [if_pos (by decide), zmp_s, nI_1]
  | succ m ih =>
    intro j F hj hF
    obtain ⟨F, rfl⟩ : ∃ x, F = x + 1 := ⟨F - 1, by omega⟩
    have h6 : ¬ (6 : Int32) ≤ nI j := nI_ge (b := 6) (by omega) (by omega)
    unfold f_m_wiped_17
    rw [if_neg h6, zld_at hv (by omega), Option.bind_some, zw_v]
    by_cases b : bt v j = true
    · have e : wS B v j + B j = wS B v (j + 1) := by
        show _ = wS B v j + (if bt v j = true then B j else 0)
        rw [if_pos b]
      rw [if_pos ((bt_sh v hv j (by omega)).mpr b), hB j (zw (zmp B t v) 20 v (wS B v j)) (by omega) rfl, Option.bind_some, zst_at hv (by omega), Option.bind_some, zw_zw, e, nI_1]
      exact ih (j + 1) F (by omega) (by omega)
    · have e : wS B v j + 0 = wS B v (j + 1) := by
        show _ = wS B v j + (if bt v j = true then B j else 0)
        rw [if_neg b]
      rw [if_neg (fun z => b ((bt_sh v hv j (by omega)).mp z)), zst_at hv (by omega), Option.bind_some, zw_zw, e, nI_1]
      exact ih (j + 1) F (by omega) (by omega)
theorem wF_pos {f : Nat → Int32} {v : Nat} : ∀ j, 0 ≤ wF f v j := by
  intro j
  induction j with
  | zero => exact Int32.le_refl 0
  | succ j ih =>
    unfold wF
    by_cases b : bt v j = true
    · rw [if_pos b]
      unfold zmax
      by_cases z : wF f v j < f (v - 2 ^ j)
      · rw [if_pos z]
        rw [q_le] at ih ⊢
        rw [q_lt] at z
        omega
      · rw [if_neg z]; exact ih
    · rw [if_neg b]; exact ih
theorem mmost_in {B : Nat → Int32} (t : zSt) (h20 : ∀ k, k < 64 → t.1 20 k = wS B k 6) (K : Int32 → zSt → Option (Int32 × zSt)) {v : Nat} (hv : v < 64) : ∀ (m j F : Nat), j + m = 6 → m < F → f_m_wiped_74 K F (nI v) (wF (wG B v) v j) (nI j) (zmg B t v) = K (nI (v + 1)) (zmg B t (v + 1)) := by
  intro m
  induction m with
  | zero =>
    intro j F hj hF
    obtain ⟨F, rfl⟩ : ∃ x, F = x + 1 := ⟨F - 1, by omega⟩
    have e : j = 6 := by omega
    subst e
    unfold f_m_wiped_74
    rw [if_pos (by decide)]
    by_cases h0 : v = 0
    · subst h0
      have e : wF (wG B 0) 0 6 + 0 = wG B (0 + 1) 0 := by rfl
      rw [if_pos (by decide), e, zst_at (show 0 < 64 by omega) (by omega), Option.bind_some, zmg_s, nI_1]
    · have ev : wG B (v + 1) v = if wS B v 6 = 0 then wF (wG B v) v 6 + 1 else wF (wG B v) v 6 := by
        show (if v = v then (if v = 0 then 0 else if wS B v 6 = 0 then wF (wG B v) v 6 + 1 else wF (wG B v) v 6) else wG B v v) = _
        rw [if_pos rfl, if_neg h0]
      have e20 : (zmg B t v).1 20 v = wS B v 6 := h20 v hv
      rw [if_neg (nI_nle (by omega) (by omega)), zld_at hv (by omega), Option.bind_some, e20]
      by_cases z : wS B v 6 = 0
      · rw [if_pos z] at ev
        rw [if_pos z, ← ev, zst_at hv (by omega), Option.bind_some, zmg_s, nI_1]
      · rw [if_neg z] at ev
        rw [if_neg z, Int32.add_zero, ← ev, zst_at hv (by omega), Option.bind_some, zmg_s, nI_1]
  | succ m ih =>
    intro j F hj hF
    obtain ⟨F, rfl⟩ : ∃ x, F = x + 1 := ⟨F - 1, by omega⟩
    have h6 : ¬ (6 : Int32) ≤ nI j := nI_ge (b := 6) (by omega) (by omega)
    unfold f_m_wiped_74
    rw [if_neg h6]
    by_cases b : bt v j = true
    · obtain ⟨x1, x2, x3⟩ := bt_xor v hv j (by omega) b
      have e21 : (zmg B t v).1 21 (v - 2 ^ j) = wG B v (v - 2 ^ j) := by
        show (if v - 2 ^ j < v then wG B v (v - 2 ^ j) else t.1 21 (v - 2 ^ j)) = _
        rw [if_pos x3]
      have e : wF (wG B v) v (j + 1) = zmax (wF (wG B v) v j) (wG B v (v - 2 ^ j)) := by
        show (if bt v j = true then zmax (wF (wG B v) v j) (wG B v (v - 2 ^ j)) else wF (wG B v) v j) = _
        rw [if_pos b]
      rw [if_pos ((bt_sh v hv j (by omega)).mpr b), x2, zld_at (show v - 2 ^ j < 64 by omega) (by omega), Option.bind_some, e21, nI_1]
      have hi := ih (j + 1) F (by omega) (by omega)
      rw [e] at hi
      unfold zmax at hi
      by_cases z : wG B v (v - 2 ^ j) ≤ wF (wG B v) v j
      · rw [if_neg (by rw [q_lt]; rw [q_le] at z; omega)] at hi
        rw [if_pos z]
        exact hi
      · rw [if_pos (by rw [q_lt]; rw [q_le] at z; omega)] at hi
        rw [if_neg z]
        exact hi
    · have e : wF (wG B v) v (j + 1) = wF (wG B v) v j := by
        show (if bt v j = true then zmax (wF (wG B v) v j) (wG B v (v - 2 ^ j)) else wF (wG B v) v j) = _
        rw [if_neg b]
      have hi := ih (j + 1) F (by omega) (by omega)
      rw [e] at hi
      rw [if_neg (fun z => b ((bt_sh v hv j (by omega)).mp z)), if_pos (wF_pos j), nI_1]
      exact hi
theorem zmg_at (B : Nat → Int32) (t : zSt) (n k : Nat) (h : k < n) : (zmg B t n).1 21 k = wG B n k := by
  show (if k < n then wG B n k else t.1 21 k) = wG B n k
  rw [if_pos h]
theorem mgroups {B : Nat → Int32} (t : zSt) (h20 : ∀ k, k < 64 → t.1 20 k = wS B k 6) : ∀ (m v F : Nat), v + m = 64 → m < F → f_m_wiped_64 F (nI v) (zmg B t v) = some (6 - wG B 64 63, zmg B t 64) := by
  intro m
  induction m with
  | zero =>
    intro v F hv hF
    obtain ⟨F, rfl⟩ : ∃ x, F = x + 1 := ⟨F - 1, by omega⟩
    have e : v = 64 := by omega
    subst e
    unfold f_m_wiped_64
    rw [if_pos (by decide), show (63 : Int32) = nI 63 from rfl, zld_at (show 63 < 64 by omega) (by omega), Option.bind_some, zmg_at B t 64 63 (by omega)]
  | succ m ih =>
    intro v F hv hF
    obtain ⟨F, rfl⟩ : ∃ x, F = x + 1 := ⟨F - 1, by omega⟩
    unfold f_m_wiped_64
    rw [if_neg (show ¬ (64 : Int32) ≤ nI v from nI_ge (b := 64) (by omega) (by omega))]
    have := mmost_in t h20 (f_m_wiped_64 F) (show v < 64 by omega) 6 0 zFu (by omega) (by have := zFu_big; omega)
    rw [show wF (wG B v) v 0 = 0 from rfl, show nI 0 = (0 : Int32) from rfl] at this
    rw [this]
    exact ih (v + 1) F (by omega) (by omega)
theorem msums {B : Nat → Int32} (t : zSt) (hB : ∀ (k : Nat) (t' : zSt), k < 6 → t'.1 19 = t.1 19 → f_m_owesOf (nI k) t' = some (B k, t')) : ∀ (m v F : Nat), v + m = 64 → m < F → f_m_wiped_2 F (nI v) (zmp B t v) = some (6 - wG B 64 63, zmg B (zmp B t 64) 64) := by
  intro m
  induction m with
  | zero =>
    intro v F hv hF
    obtain ⟨F, rfl⟩ : ∃ x, F = x + 1 := ⟨F - 1, by omega⟩
    have e : v = 64 := by omega
    subst e
    unfold f_m_wiped_2
    rw [if_pos (by decide)]
    have := mgroups (B := B) (zmp B t 64) (fun k hk => by
      show (if k < 64 then wS B k 6 else t.1 20 k) = _
      rw [if_pos hk]) 64 0 zFu (by omega) (by have := zFu_big; omega)
    rw [zmg_0] at this
    exact this
  | succ m ih =>
    intro v F hv hF
    obtain ⟨F, rfl⟩ : ∃ x, F = x + 1 := ⟨F - 1, by omega⟩
    unfold f_m_wiped_2
    rw [if_neg (show ¬ (64 : Int32) ≤ nI v from nI_ge (b := 64) (by omega) (by omega)), zst_at (show v < 64 by omega) (by omega), Option.bind_some]
    have := msum_in t hB (f_m_wiped_2 F) (show v < 64 by omega) 6 0 zFu (by omega) (by have := zFu_big; omega)
    rw [show wS B v 0 = 0 from rfl, show nI 0 = (0 : Int32) from rfl] at this
    rw [this]
    exact ih (v + 1) F (by omega) (by omega)
theorem op_wiped {s t : zSt} (h : yR s t) : yOp f_g_wiped f_m_wiped s t := by
  obtain ⟨h1, h2, h3, h4, h5, h6, h7, h8, ⟨o1, o2, o3, o4⟩, h10⟩ := h
  have hB : ∀ k, k < 6 → ∃ r, (∀ s' : zSt, s'.1 33 = s.1 33 → f_sl_balance (nI k) s' = some (r, s')) ∧ (∀ t' : zSt, t'.1 19 = t.1 19 → f_m_owesOf (nI k) t' = some (r, t')) := by
    intro k hk
    obtain ⟨r, e1, e2⟩ := p_bal s hk
    have e3 : ∀ t' : zSt, t'.1 19 = t.1 19 → f_m_owesOf (nI k) t' = some (r, t') := fun t' ht => e2 t' (fun j hj => by rw [ht]; exact o3 j hj)
    refine ⟨r, fun s' hs => ?_, e3⟩
    obtain ⟨r', e1', e2'⟩ := p_bal s' hk
    have := e2' t (fun j hj => by rw [hs]; exact o3 j hj)
    rw [e3 t rfl] at this
    have er : r = r' := congrArg Prod.fst (Option.some.inj this)
    rw [e1', er]
  let B : Nat → Int32 := fun k => if hk : k < 6 then (hB k hk).choose else 0
  have eB : ∀ k (hk : k < 6), B k = (hB k hk).choose := fun k hk => dif_pos hk
  have hG := wiped_g (B := B) s (fun k n hk => by rw [eB k hk]; exact (hB k hk).choose_spec.1 _ rfl) 6 0 zFu (by omega) (by have := zFu_big; omega)
  have hM := msums (B := B) t (fun k t' hk ht => by rw [eB k hk]; exact (hB k hk).choose_spec.2 _ ht) 64 0 zFu (by omega) (by have := zFu_big; omega)
  rw [Nat.pow_zero, zwp_1 B s o1 o2] at hG
  rw [zmp_0] at hM
  refine ⟨6 - wG B 64 63, zwp B s 64, zmg B (zmp B t 64) 64, ?_, hM, ⟨h1, h2, h3, h4, h5, h6, h7, h8, ⟨?_, ?_, o3, o4⟩, h10⟩⟩
  · unfold f_g_wiped f_sl_fewestPayments
    rw [show (0 : Int32) = nI 0 from rfl, hG]
    rfl
  · rfl
  · rfl
