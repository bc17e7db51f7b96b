/-! PURE: numbers, ranges, loads and stores by places -/
theorem q_lt (a b : Int32) : a < b ↔ a.toInt < b.toInt := Int32.lt_iff_toInt_lt
theorem q_le (a b : Int32) : a ≤ b ↔ a.toInt ≤ b.toInt := Int32.le_iff_toInt_le
theorem q_eq (a b : Int32) : a = b ↔ a.toInt = b.toInt := Int32.toInt_inj.symm
theorem q_rng (x : Int32) : -2147483648 ≤ x.toInt ∧ x.toInt < 2147483648 := ⟨Int32.le_toInt x, Int32.toInt_lt x⟩
theorem q_cmp_lt (x y : Int64) : lg_cmp x y < 0 ↔ x.toInt < y.toInt := by
  unfold lg_cmp
  have e : (x = y) ↔ x.toInt = y.toInt := Int64.toInt_inj.symm
  simp only [gt_iff_lt, Int64.lt_iff_toInt_lt, e]
  by_cases h1 : y.toInt < x.toInt
  · rw [if_pos h1]; constructor
    · intro h; exact absurd h (by decide)
    · intro h; omega
  · rw [if_neg h1]
    by_cases h2 : x.toInt = y.toInt
    · rw [if_pos h2]; constructor
      · intro h; exact absurd h (by decide)
      · intro h; omega
    · rw [if_neg h2]; constructor
      · intro h; omega
      · intro h; decide
theorem q_cmp_gt (x y : Int64) : 0 < lg_cmp x y ↔ y.toInt < x.toInt := by
  unfold lg_cmp
  have e : (x = y) ↔ x.toInt = y.toInt := Int64.toInt_inj.symm
  simp only [gt_iff_lt, Int64.lt_iff_toInt_lt, e]
  by_cases h1 : y.toInt < x.toInt
  · rw [if_pos h1]; constructor
    · intro h; exact h1
    · intro h; decide
  · rw [if_neg h1]
    by_cases h2 : x.toInt = y.toInt
    · rw [if_pos h2]; constructor
      · intro h; exact absurd h (by decide)
      · intro h; omega
    · rw [if_neg h2]; constructor
      · intro h; exact absurd h (by decide)
      · intro h; omega
/-- 1 or 0 -/
def q01 (c : Prop) [Decidable c] : Int32 := if c then 1 else 0
theorem q01_0 (c : Prop) [Decidable c] : (q01 c = 0) ↔ ¬ c := by unfold q01; by_cases h : c <;> simp [h]
theorem q01_t {c : Prop} [Decidable c] (h : c) : q01 c = 1 := if_pos h
theorem q01_f {c : Prop} [Decidable c] (h : ¬ c) : q01 c = 0 := if_neg h
theorem q01_bo (c : Prop) [Decidable c] : zbo (q01 c) = some (q01 c) := by unfold q01 zbo; by_cases h : c <;> simp [h]
theorem p_isWithin (a b c : Int32) (s : zSt) : f_g_isWithin a b c s = some (q01 (b.toInt ≤ a.toInt ∧ a.toInt ≤ c.toInt), s) := by
  unfold f_g_isWithin
  simp only [q_lt]
  by_cases h1 : a.toInt < b.toInt
  · rw [if_pos h1, q01_f (by omega)]
  · rw [if_neg h1]
    by_cases h2 : c.toInt < a.toInt
    · rw [if_pos h2, q01_f (by omega)]
    · rw [if_neg h2, q01_t (by omega)]
theorem p_within (a b c : Int64) (s : zSt) : f_m_within a b c s = some (q01 (b.toInt ≤ a.toInt ∧ a.toInt ≤ c.toInt), s) := by
  unfold f_m_within
  simp only [q_cmp_lt, q_cmp_gt]
  by_cases h1 : a.toInt < b.toInt
  · rw [if_pos h1, q01_f (by omega)]
  · rw [if_neg h1]
    by_cases h2 : c.toInt < a.toInt
    · rw [if_pos h2, q01_f (by omega)]
    · rw [if_neg h2, q01_t (by omega)]
theorem p_gQ (a : Int32) (s : zSt) : f_g_isQuarter a s = some (q01 (0 ≤ a.toInt ∧ a.toInt ≤ 31), s) := by
  unfold f_g_isQuarter
  simp only [p_isWithin, Option.bind_some, q01_bo]
  rfl
theorem p_mQ (a : Int32) (s : zSt) : f_m_isQuarter a s = some (q01 (0 ≤ a.toInt ∧ a.toInt ≤ 31), s) := by
  unfold f_m_isQuarter
  simp only [p_within, Option.bind_some, q01_bo, Int32.toInt_toInt64]
  rfl
/-- a number within, as a place -/
theorem q_ix {x : Int32} {n : Nat} (h : 0 ≤ x.toInt ∧ x.toInt ≤ (n : Int)) : ∃ j : Nat, j ≤ n ∧ x = nI j := by
  refine ⟨x.toInt.toNat, by omega, ?_⟩
  have h1 := q_rng x
  rw [q_eq, nI_toInt (by omega)]
  omega
theorem q_nI {n : Nat} (h : n < 2147483648) : (nI n).toInt = (n : Int) := nI_toInt h
theorem zld_at {s : zSt} {k n j : Nat} (h : j < n) (hn : n < 2147483648) : zld s k n (nI j) = some (s.1 k j) := by
  unfold zld
  rw [if_pos (zin_nI h hn), nI_clamp (by omega)]
theorem zldl_at {s : zSt} {k n j : Nat} (h : j < n) (hn : n < 2147483648) : zldl s k n (nI j) = some (s.2 k j) := by
  unfold zldl
  rw [if_pos (zin_nI h hn), nI_clamp (by omega)]
theorem zst_at {s : zSt} {k n j : Nat} {v : Int32} (h : j < n) (hn : n < 2147483648) : zst s k n (nI j) v = some (zw s k j v) := by
  unfold zst
  rw [if_pos (zin_nI h hn), nI_clamp (by omega)]
theorem zstl_at {s : zSt} {k n j : Nat} {v : Int64} (h : j < n) (hn : n < 2147483648) : zstl s k n (nI j) v = some (zwl s k j v) := by
  unfold zstl
  rw [if_pos (zin_nI h hn), nI_clamp (by omega)]
theorem zlt_at {t : List Int32} {j : Nat} (h : j < t.length) (hn : t.length < 2147483648) : zlt t (nI j) = some (t.getD j 0) := by
  unfold zlt
  rw [if_pos (zin_nI h hn), nI_clamp (by omega)]
theorem zw_1 (s : zSt) (k j : Nat) (v : Int32) (a : Nat) : (zw s k j v).1 a = if a = k then upd (s.1 k) j v else s.1 a := rfl
theorem zw_2 (s : zSt) (k j : Nat) (v : Int32) : (zw s k j v).2 = s.2 := rfl
theorem zwl_1 (s : zSt) (k j : Nat) (v : Int64) : (zwl s k j v).1 = s.1 := rfl
theorem zwl_2 (s : zSt) (k j : Nat) (v : Int64) (a : Nat) : (zwl s k j v).2 a = if a = k then vp_updL (s.2 k) j v else s.2 a := rfl
theorem zrem_at {a d : Nat} (ha : a < 2147483648) (h0 : 0 < d) (hd : d < 2147483648) : zrem (nI a) (nI d) = nI (a % d) := pk_rem ha h0 hd
theorem q_updS (f : Nat → Int32) (k : Nat) (x : Int32) : upd f k x k = x := pk_us
theorem q_updN {f : Nat → Int32} {k j : Nat} {x : Int32} (h : j ≠ k) : upd f k x j = f j := pk_un h
/-- both rows get the same number at the same place -/
theorem q_syn {f g : Nat → Int32} {n : Nat} (h : ∀ j, j < n → f j = g j) (k : Nat) (v : Int32) : ∀ j, j < n → upd f k v j = upd g k v j := by
  intro j hj
  by_cases e : j = k
  · subst e; rw [q_updS, q_updS]
  · rw [q_updN e, q_updN e]; exact h j hj
theorem q_all {P : Nat → Int32 → Prop} {f : Nat → Int32} {n : Nat} (h : ∀ j, j < n → P j (f j)) {k : Nat} {v : Int32} (hv : k < n → P k v) : ∀ j, j < n → P j (upd f k v j) := by
  intro j hj
  by_cases e : j = k
  · subst e; rw [q_updS]; exact hv hj
  · rw [q_updN e]; exact h j hj
/-! THE RELATION of the class's state and the reference's, by parts -/
def zlo (w : Nat) : Int := if w = 2 then 1 else if w = 5 then 1 else 0
def zhi (w : Nat) : Int := if w = 0 then 9 else if w = 1 then 9 else if w = 2 then 20 else if w = 3 then 50 else if w = 4 then 50 else if w = 5 then 32 else if w = 6 then 12 else 9
def zrg (w : Nat) (v : Int32) : Prop := zlo w ≤ v.toInt ∧ v.toInt ≤ zhi w
def yRC (now whats olds news : Nat → Int32) (done known : Int32) (may cA cW cI : Nat → Int32) (done' kept : Int32) : Prop :=
  (∀ j, j < 8 → now j = may j) ∧ (∀ j, j < 8 → zrg j (now j)) ∧ ∃ d k : Nat, d ≤ k ∧ k ≤ 40 ∧ done = nI d ∧ known = nI k ∧ done' = nI d ∧ kept = nI k ∧ ∀ j, j < k → whats j = cA j ∧ olds j = cW j ∧ news j = cI j ∧ ∃ w, w < 8 ∧ cA j = nI w ∧ zrg w (cW j) ∧ zrg w (cI j)
def yRS (heats stands flows : Nat → Int32) (places : Int32) (heat stand flow : Nat → Int32) (places' : Int32) : Prop :=
  (∀ j, j < 32 → heats j = heat j) ∧ (∀ j, j < 32 → stands j = stand j) ∧ (∀ j, j < 128 → flows j = flow j) ∧ (∀ j, j < 128 → 0 ≤ (flow j).toInt ∧ (flow j).toInt ≤ 9) ∧ ∃ p : Nat, p ≤ 4 ∧ places = nI p ∧ places' = nI p
def yRI (iH iS : Nat → Int32) (has : Int32) (iH' iS' : Nat → Int32) (has' : Int32) : Prop := has = has' ∧ (∀ j, j < 32 → iH j = iH' j) ∧ ∀ j, j < 32 → iS j = iS' j
def yRT (letters : Nat → Int32) (length : Int32) (tape : Nat → Int32) (many : Int32) : Prop := ∃ n : Nat, n ≤ 120 ∧ length = nI n ∧ many = nI n ∧ ∀ j, j < n → letters j = tape j ∧ ∃ c : Nat, c < 256 ∧ tape j = nI c
def yRD (hasDay : Int32) (day soldIn : Nat → Int32) (told : Int32) (toldDay toldSold : Nat → Int32) (price : Int32) : Prop :=
  hasDay = told ∧ (¬ told = 0 → toldDay 0 = day 1 ∧ toldDay 1 = day 1 * day 2 ∧ toldDay 2 = day 3 ∧ toldDay 3 = day 4 ∧ toldDay 4 = day 5 ∧ toldDay 5 = day 6 ∧ toldDay 6 = day 6 * day 10 ∧ toldDay 7 = day 1 * day 2 - day 6 * day 10 ∧ price = day 2 ∧ ∀ j, j < 32 → soldIn j = toldSold j)
def yR3 (brought worked brought' minutes : Nat → Int32) : Prop := (∀ j, j < 8 → brought j = brought' j) ∧ (∀ j, j < 8 → 0 ≤ (brought' j).toInt ∧ (brought' j).toInt ≤ 999) ∧ brought' 0 = 0 ∧ (∀ j, j < 3 → worked j = minutes j) ∧ ∀ j, j < 3 → 0 ≤ (minutes j).toInt ∧ (minutes j).toInt ≤ 600
def yRO (debts sums groups slates : Nat → Int32) : Prop := sums 0 = 0 ∧ groups 0 = 0 ∧ (∀ j, j < 36 → debts j = slates j) ∧ (∀ j, j < 36 → 0 ≤ (slates j).toInt ∧ (slates j).toInt ≤ 999)
def yRB (kinds ran : Nat → Int32) (size begun : Int32) (bodyKind trace : Nat → Int32) (bodies ran' : Int32) : Prop :=
  (∃ n : Nat, n ≤ 50 ∧ size = nI n ∧ bodies = nI n ∧ ∀ j, j < n → kinds j = bodyKind j ∧ ∃ c : Nat, c < 8 ∧ bodyKind j = nI c) ∧ ∃ b : Nat, b ≤ 1000 ∧ begun = nI b ∧ ran' = nI b ∧ ∀ j, j < b → j < 24 → ran j = trace j
/-- one shelf: nothing, a glass, a row -/
def yRH1 (body sort length : Int32) (elements : Nat → Int64) (shelf many : Int32) (items : Nat → Int64) (bodies : Int32) : Prop :=
  (shelf = -1 ∧ body = -1 ∧ sort = -1 ∧ length = 0 ∧ many = 0) ∨
  (∃ w n : Nat, w < n ∧ n ≤ 50 ∧ bodies = nI n ∧ shelf = nI w ∧ body = nI w ∧ sort = -1 ∧ length = 0 ∧ many = 0) ∨
  (∃ t n : Nat, t < 5 ∧ n ≤ 60 ∧ shelf = nI (50 + t) ∧ body = -1 ∧ sort = nI t ∧ length = nI n ∧ many = nI n ∧ (∀ j, j < 60 → elements j = items j) ∧ (t = 0 → ∀ j, j < n → -128 ≤ (items j).toInt ∧ (items j).toInt < 128))
/-- the stack machine: the steps from i on, m of them, over a stack (its top first) -/
def vBin (t a b : Int32) : Int32 := if t = 43 then a + b else if t = 45 then a - b else if t = 42 then a * b else if t = 47 then (if b = 0 then 0 else a / b) else if t = 37 then (if b = 0 then 0 else zrem a b) else if t = 60 then (if a < b then 1 else 0) else if t = 61 then (if a = b then 1 else 0) else if t = 62 then (if b < a then 1 else 0) else if t = 38 then (if a = 0 then 0 else if b = 0 then 0 else 1) else (if a = 0 then (if b = 0 then 0 else 1) else 1)
def vRun (names steps : Nat → Int32) : Nat → Nat → List Int32 → Int32
  | 0, _, _ => 0
  | m + 1, i, S =>
    if 0 ≤ steps i then vRun names steps m (i + 1) (steps i :: S)
    else if -9 ≤ steps i then vRun names steps m (i + 1) (names (-1 - steps i).toNatClampNeg :: S)
    else if steps i = -59 then (match S with
      | v :: _ => v
      | [] => vRun names steps m (i + 1) [])
    else if steps i = -63 then (match S with
      | v :: c :: _ => if c = 0 then vRun names steps m (i + 1) [] else v
      | _ => vRun names steps m (i + 1) [])
    else if steps i = -33 then (match S with
      | v :: S => vRun names steps m (i + 1) ((if v = 0 then 1 else 0) :: S)
      | [] => vRun names steps m (i + 1) [])
    else if steps i = -126 then (match S with
      | v :: S => vRun names steps m (i + 1) (-v :: S)
      | [] => vRun names steps m (i + 1) [])
    else (match S with
      | b :: a :: S => vRun names steps m (i + 1) (vBin (-steps i) a b :: S)
      | S => vRun names steps m (i + 1) S)
/-- a law's text: not told; or told, and what the class's steps give is what the reference reads out of the text, with any names -/
def yRL1 (w : Nat) (len told : Int32) (steps : Nat → Int32) (many : Int32) (text : Nat → Int32) : Prop :=
  (told = 0 ∧ many = -1) ∨ (told = 1 ∧ ∃ n k : Nat, n ≤ 120 ∧ many = nI n ∧ k ≤ 121 ∧ len = nI k ∧ ∀ t : zSt, (∀ j, j < n → t.1 9 (120 * w + j) = text (120 * w + j)) → ∃ t' : zSt, f_m_workOut (nI (120 * w)) (nI n) t = some (vRun (t.1 11) steps k 0 [], t') ∧ (∀ a, a ≠ 0 → t'.1 a = t.1 a) ∧ t'.2 = t.2 ∧ ∀ j, (j < 14 ∨ 18 < j) → t'.1 0 j = t.1 0 j)
def yR (s t : zSt) : Prop :=
  yRC (s.1 2) (s.1 3) (s.1 4) (s.1 5) (s.1 1 4) (s.1 1 5) (t.1 1) (t.1 2) (t.1 3) (t.1 4) (t.1 0 5) (t.1 0 4) ∧
  yRS (s.1 7) (s.1 8) (s.1 9) (s.1 6 3) (t.1 5) (t.1 6) (t.1 7) (t.1 0 8) ∧
  yRI (s.1 10) (s.1 11) (s.1 6 6) (t.1 22) (t.1 23) (t.1 0 38) ∧
  yRT (s.1 14) (s.1 13 1) (t.1 8) (t.1 0 11) ∧
  yRL1 0 (s.1 17 2) (s.1 17 3) (s.1 18) (t.1 10 0) (t.1 9) ∧
  yRL1 1 (s.1 20 2) (s.1 20 3) (s.1 21) (t.1 10 1) (t.1 9) ∧
  yRD (s.1 0 6) (s.1 25) (s.1 26) (t.1 0 27) (t.1 13) (t.1 14) (t.1 0 30) ∧
  yR3 (s.1 30) (s.1 31) (t.1 17) (t.1 18) ∧
  yRO (s.1 33) (s.1 34) (s.1 35) (t.1 19) ∧
  yRB (s.1 37) (s.1 38) (s.1 36 1) (s.1 36 3) (t.1 24) (t.1 25) (t.1 0 41) (t.1 0 44) ∧
  yRH1 (s.1 40 0) (s.1 40 1) (s.1 40 2) (s.2 41) (t.1 26 0) (t.1 27 0) (fun j => t.2 28 (0 + j)) (t.1 0 41) ∧
  yRH1 (s.1 42 0) (s.1 42 1) (s.1 42 2) (s.2 43) (t.1 26 1) (t.1 27 1) (fun j => t.2 28 (60 + j)) (t.1 0 41) ∧
  yRH1 (s.1 44 0) (s.1 44 1) (s.1 44 2) (s.2 45) (t.1 26 2) (t.1 27 2) (fun j => t.2 28 (120 + j)) (t.1 0 41) ∧
  yRH1 (s.1 46 0) (s.1 46 1) (s.1 46 2) (s.2 47) (t.1 26 3) (t.1 27 3) (fun j => t.2 28 (180 + j)) (t.1 0 41) ∧
  yRH1 (s.1 48 0) (s.1 48 1) (s.1 48 2) (s.2 49) (t.1 26 4) (t.1 27 4) (fun j => t.2 28 (240 + j)) (t.1 0 41) ∧
  yRH1 (s.1 50 0) (s.1 50 1) (s.1 50 2) (s.2 51) (t.1 26 5) (t.1 27 5) (fun j => t.2 28 (300 + j)) (t.1 0 41)
/-- both give the same answer, and are related again -/
def yOp (f g : zSt → Option (Int32 × zSt)) (s t : zSt) : Prop := ∃ (r : Int32) (s' t' : zSt), f s = some (r, s') ∧ g t = some (r, t') ∧ yR s' t'
def yOpL (f g : zSt → Option (Int64 × zSt)) (s t : zSt) : Prop := ∃ (r : Int64) (s' t' : zSt), f s = some (r, s') ∧ g t = some (r, t') ∧ yR s' t'
theorem yOp_same {f g : zSt → Option (Int32 × zSt)} {s t : zSt} (r : Int32) (hf : f s = some (r, s)) (hg : g t = some (r, t)) (h : yR s t) : yOp f g s t := ⟨r, s, t, hf, hg, h⟩
theorem op_heat {s t : zSt} (h : yR s t) (a b : Int32) : yOp (f_g_heat a b) (f_m_heat a b) s t := by
  by_cases ha : 0 ≤ a.toInt ∧ a.toInt ≤ 31
  · by_cases hb : 0 ≤ b.toInt ∧ b.toInt ≤ 40
    · obtain ⟨j, hj, rfl⟩ := q_ix (n := 31) ha
      obtain ⟨h1, ⟨g1, g2, g3⟩, h3⟩ := h
      refine ⟨s.1 7 j, zw s 7 j b, zw t 5 j b, ?_, ?_, ?_⟩
      · simp [f_g_heat, p_gQ, p_isWithin, q01_0, ha, hb, zld_at (show j < 32 by omega), zst_at (show j < 32 by omega)]
      · simp [f_m_heat, p_mQ, p_within, q01_0, ha, hb, zld_at (show j < 32 by omega), zst_at (show j < 32 by omega), g1 j (by omega)]
      · exact ⟨h1, ⟨q_syn g1 j b, g2, g3⟩, h3⟩
    · exact yOp_same (-1) (by simp [f_g_heat, p_gQ, p_isWithin, q01_0, ha, hb]) (by simp [f_m_heat, p_mQ, p_within, q01_0, ha, hb]) h
  · exact yOp_same (-1) (by simp [f_g_heat, p_gQ, q01_0, ha]) (by simp [f_m_heat, p_mQ, q01_0, ha]) h
