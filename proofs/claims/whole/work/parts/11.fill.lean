/-! Arrays.fill, shelfAt: contracts by hand, and their rows -/
noncomputable def zm_ar_fill : zM := (13, ⟨"java/util/Arrays", "fill", "([II)V"⟩, prog_17_method_103_code, 4, none, [(0, .iconst 0, 1), (1, .istore_n 2, 1), (2, .aload_n 0, 1), (3, .arraylength, 1), (4, .istore_n 3, 1), (5, .iload_n 2, 1), (6, .iload_n 3, 1), (7, .if_icmp .ge 13, 3), (10, .aload_n 0, 1), (11, .iload_n 2, 1), (12, .iload_n 1, 1), (13, .iastore, 1), (14, .iinc 2 1, 3), (17, .goto (-12), 3), (20, .return_, 1)])
noncomputable def zm_ar_fillL : zM := (13, ⟨"java/util/Arrays", "fill", "([JJ)V"⟩, prog_17_method_101_code, 5, none, [(0, .iconst 0, 1), (1, .istore_n 3, 1), (2, .aload_n 0, 1), (3, .arraylength, 1), (4, .istore 4, 2), (6, .iload_n 3, 1), (7, .iload 4, 2), (9, .if_icmp .ge 13, 3), (12, .aload_n 0, 1), (13, .iload_n 3, 1), (14, .lload_n 1, 1), (15, .lastore, 1), (16, .iinc 3 1, 3), (19, .goto (-13), 3), (22, .return_, 1)])
theorem zmk_ar_fill : zMok zm_ar_fill := ⟨by decide +kernel, rfl, List.mem_append_right _ (List.mem_of_getElem? (i := 64) (by decide +kernel)), by decide +kernel⟩
theorem zmk_ar_fillL : zMok zm_ar_fillL := ⟨by decide +kernel, rfl, List.mem_append_right _ (List.mem_of_getElem? (i := 860) (by decide +kernel)), by decide +kernel⟩
theorem zok_ar_fill : zSok zm_ar_fill 2 := ⟨List.mem_of_getElem? (i := 63) (by decide +kernel), List.mem_of_getElem? (i := 4) (by decide +kernel), by decide +kernel, by decide +kernel, by decide +kernel⟩
theorem zok_ar_fillL : zSok zm_ar_fillL 2 := ⟨List.mem_of_getElem? (i := 859) (by decide +kernel), List.mem_of_getElem? (i := 4) (by decide +kernel), by decide +kernel, by decide +kernel, by decide +kernel⟩
section ZFI
variable {M : zM} {Λ : List zD} {d : Nat} {res : Option Value × zSt} {pc : Nat} {ls : List (Nat × Value)} {st rest : List Value} {s : zSt}
theorem zLenX {k kd n b : Nat} (hL : zLok Λ = true) (h : zlk M.2.2.2.2.2 pc = some (.arraylength, 1)) (hc : Λ[k]? = some (.inr (kd, n, b))) (kk : zWA M Λ d res (pc + 1) ls (.int (nI n) :: rest) s) : zWA M Λ d res pc ls (.ref k :: rest) s :=
  fun hM => zstep_ok hL (i := .arraylength) (n := 1) (x := (ls, .ref k :: rest, s)) (y := (ls, .int (nI n) :: rest, s)) (by simp [zstep, zLen, hc, nI]) (zdec hM h) kk hM
end ZFI
theorem zfill_0 (s : zSt) (k : Nat) (v : Int32) : zfill s k 0 v = s := by
  have h : (fun a => if a = k then (fun j => if j < 0 then v else s.1 k j) else s.1 a) = s.1 := by
    funext a
    by_cases h : a = k
    · subst h; simp
    · simp [h]
  show (_, s.2) = s
  rw [h]
theorem zfillL_0 (s : zSt) (k : Nat) (v : Int64) : zfillL s k 0 v = s := by
  have h : (fun a => if a = k then (fun j => if j < 0 then v else s.2 k j) else s.2 a) = s.2 := by
    funext a
    by_cases h : a = k
    · subst h; simp
    · simp [h]
  show (s.1, _) = s
  rw [h]
theorem zfill_s (s : zSt) (k i : Nat) (v : Int32) : zw (zfill s k i v) k i v = zfill s k (i + 1) v := by
  show (_, s.2) = (_, s.2)
  congr 1
  funext a
  by_cases h : a = k
  · subst h
    funext j
    simp only [zfill, if_true, upd]
    by_cases h2 : j = i
    · subst h2; simp
    · by_cases h3 : j < i
      · simp [h2, h3, Nat.lt_succ_of_lt h3]
      · simp only [h2, h3, if_false]
        rw [if_neg (by omega)]
  · simp [zfill, h]
theorem zfillL_s (s : zSt) (k i : Nat) (v : Int64) : zwl (zfillL s k i v) k i v = zfillL s k (i + 1) v := by
  show (s.1, _) = (s.1, _)
  congr 1
  funext a
  by_cases h : a = k
  · subst h
    funext j
    simp only [zfillL, if_true, vp_updL]
    by_cases h2 : j = i
    · subst h2; simp
    · by_cases h3 : j < i
      · simp [h2, h3, Nat.lt_succ_of_lt h3]
      · simp only [h2, h3, if_false]
        rw [if_neg (by omega)]
  · simp [zfillL, h]
theorem zin_nI {i n : Nat} (h : i < n) (hn : n < 2 ^ 31) : 0 ≤ (nI i).toInt ∧ (nI i).toInt < (n : Int) := by
  rw [nI_toInt (by omega)]; omega
theorem k_ar_fill {Λ : List zD} (hL : zLok Λ = true) {k n b : Nat} (hc : Λ[k]? = some (.inr (0, n, b))) (hn : n < 2 ^ 31) (s : zSt) (v : Int32) : zKp zm_ar_fill Λ 0 [.ref k, .int v] s (none, zfill s k n v) := by
  refine zKp_of zmk_ar_fill rfl ?_
  show zWA _ _ _ _ _ [(0, .ref k), (1, .int v)] _ _
  have loop : ∀ m i : Nat, i + m = n → zWA zm_ar_fill Λ 0 (none, zfill s k n v) 5 [(2, .int (nI i)), (3, .int (nI n)), (0, .ref k), (1, .int v)] [] (zfill s k i v) := by
    intro m
    induction m with
    | zero =>
      intro i hi
      have e : i = n := by omega
      subst e
      refine zB hL 2 (pc' := 7) (ls' := [(2, .int (nI i)), (3, .int (nI i)), (0, .ref k), (1, .int v)]) (st' := [.int (nI i), .int (nI i)]) (s' := zfill s k i v) rfl ?_
      refine zCgeT (tgt := 20) (nI_le (Nat.le_refl _) hn) rfl (by decide) ?_
      exact zRetV rfl rfl rfl
    | succ m ih =>
      intro i hi
      have hlt : i < n := by omega
      refine zB hL 2 (pc' := 7) (ls' := [(2, .int (nI i)), (3, .int (nI n)), (0, .ref k), (1, .int v)]) (st' := [.int (nI n), .int (nI i)]) (s' := zfill s k i v) rfl ?_
      refine zCgeF (tgt := 20) (nI_ge hlt hn) rfl (by decide) ?_
      refine zB hL 3 (pc' := 13) (ls' := [(2, .int (nI i)), (3, .int (nI n)), (0, .ref k), (1, .int v)]) (st' := [.int v, .int (nI i), .ref k]) (s' := zfill s k i v) rfl ?_
      refine zIast (r := zfill s k (i + 1) v) (g := some) ?_ rfl hc (fun s' e => ?_)
      · rw [zst, if_pos (zin_nI hlt hn), nI_clamp (by omega), zfill_s]; rfl
      · cases e
        refine zB hL 1 (pc' := 17) (ls' := [(2, .int (nI i + Int32.ofInt 1)), (3, .int (nI n)), (0, .ref k), (1, .int v)]) (st' := []) (s' := zfill s k (i + 1) v) rfl ?_
        refine zGoto (tgt := 5) rfl (by decide) ?_
        have e1 : nI i + Int32.ofInt 1 = nI (i + 1) := nI_1 i
        rw [e1]
        exact ih (i + 1) (by omega)
  refine zB hL 3 (pc' := 3) (ls' := [(2, .int (nI 0)), (0, .ref k), (1, .int v)]) (st' := [.ref k]) (s' := s) rfl ?_
  refine zLenX hL rfl hc ?_
  refine zB hL 1 (pc' := 5) (ls' := [(3, .int (nI n)), (2, .int (nI 0)), (0, .ref k), (1, .int v)]) (st' := []) (s' := s) rfl ?_
  refine zLoc [1, 0, 2, 3] rfl ?_
  have h := loop n 0 (by omega)
  rw [zfill_0] at h
  exact h
theorem k_ar_fillL {Λ : List zD} (hL : zLok Λ = true) {k n b : Nat} (hc : Λ[k]? = some (.inr (1, n, b))) (hn : n < 2 ^ 31) (s : zSt) (v : Int64) : zKp zm_ar_fillL Λ 0 [.ref k, .long v] s (none, zfillL s k n v) := by
  refine zKp_of zmk_ar_fillL rfl ?_
  show zWA _ _ _ _ _ [(0, .ref k), (1, .long v)] _ _
  have loop : ∀ m i : Nat, i + m = n → zWA zm_ar_fillL Λ 0 (none, zfillL s k n v) 6 [(3, .int (nI i)), (4, .int (nI n)), (0, .ref k), (1, .long v)] [] (zfillL s k i v) := by
    intro m
    induction m with
    | zero =>
      intro i hi
      have e : i = n := by omega
      subst e
      refine zB hL 2 (pc' := 9) (ls' := [(3, .int (nI i)), (4, .int (nI i)), (0, .ref k), (1, .long v)]) (st' := [.int (nI i), .int (nI i)]) (s' := zfillL s k i v) rfl ?_
      refine zCgeT (tgt := 22) (nI_le (Nat.le_refl _) hn) rfl (by decide) ?_
      exact zRetV rfl rfl rfl
    | succ m ih =>
      intro i hi
      have hlt : i < n := by omega
      refine zB hL 2 (pc' := 9) (ls' := [(3, .int (nI i)), (4, .int (nI n)), (0, .ref k), (1, .long v)]) (st' := [.int (nI n), .int (nI i)]) (s' := zfillL s k i v) rfl ?_
      refine zCgeF (tgt := 22) (nI_ge hlt hn) rfl (by decide) ?_
      refine zB hL 3 (pc' := 15) (ls' := [(3, .int (nI i)), (4, .int (nI n)), (0, .ref k), (1, .long v)]) (st' := [.long v, .int (nI i), .ref k]) (s' := zfillL s k i v) rfl ?_
      refine zLast (r := zfillL s k (i + 1) v) (g := some) ?_ rfl hc (fun s' e => ?_)
      · rw [zstl, if_pos (zin_nI hlt hn), nI_clamp (by omega), zfillL_s]; rfl
      · cases e
        refine zB hL 1 (pc' := 19) (ls' := [(3, .int (nI i + Int32.ofInt 1)), (4, .int (nI n)), (0, .ref k), (1, .long v)]) (st' := []) (s' := zfillL s k (i + 1) v) rfl ?_
        refine zGoto (tgt := 6) rfl (by decide) ?_
        have e1 : nI i + Int32.ofInt 1 = nI (i + 1) := nI_1 i
        rw [e1]
        exact ih (i + 1) (by omega)
  refine zB hL 3 (pc' := 3) (ls' := [(3, .int (nI 0)), (0, .ref k), (1, .long v)]) (st' := [.ref k]) (s' := s) rfl ?_
  refine zLenX hL rfl hc ?_
  refine zB hL 1 (pc' := 6) (ls' := [(4, .int (nI n)), (3, .int (nI 0)), (0, .ref k), (1, .long v)]) (st' := []) (s' := s) rfl ?_
  refine zLoc [1, 0, 2, 3] rfl ?_
  have h := loop n 0 (by omega)
  rw [zfillL_0] at h
  exact h
section ZFR
variable {M : zM} {Λ : List zD} {d : Nat} {res : Option Value × zSt} {pc : Nat} {ls : List (Nat × Value)} {st rest : List Value} {s : zSt}
theorem zFillI {α : Type} {r : α} {g : zSt → Option α} {k n b idx : Nat} {v : Int32} (hL : zLok Λ = true) (hf : (some (zfill s k n v)).bind g = some r) (hl : Cond.methodLink M.2.1.cls idx ⟨"java/util/Arrays", "fill", "([II)V"⟩ ∈ tables_1) (h : zlk M.2.2.2.2.2 pc = some (.invokestatic idx, 3)) (hd : Nat.ble 1 d = true) (hc : Nat.ble ((rest.map fun v => v.category).sum) 8 = true) (hk : Λ[k]? = some (.inr (0, n, b))) (hn : n < 2 ^ 31) (kk : ∀ s', g s' = some r → zWA M Λ d res (pc + 3) ls rest s') : zWA M Λ d res pc ls (.int v :: .ref k :: rest) s := by
  refine zBd hf fun s' h1 h2 => ?_
  cases h1
  exact zCallS (M' := zm_ar_fill) (d' := 0) (As := [.ref k, .int v]) (res' := (none, zfill s k n v)) 2 zmk_ar_fill zok_ar_fill hl h (by rw [hd]; rfl) hc rfl rfl (k_ar_fill hL hk hn s v) (kk _ h2)
theorem zFillL {α : Type} {r : α} {g : zSt → Option α} {k n b idx : Nat} {v : Int64} (hL : zLok Λ = true) (hf : (some (zfillL s k n v)).bind g = some r) (hl : Cond.methodLink M.2.1.cls idx ⟨"java/util/Arrays", "fill", "([JJ)V"⟩ ∈ tables_1) (h : zlk M.2.2.2.2.2 pc = some (.invokestatic idx, 3)) (hd : Nat.ble 1 d = true) (hc : Nat.ble ((rest.map fun v => v.category).sum) 8 = true) (hk : Λ[k]? = some (.inr (1, n, b))) (hn : n < 2 ^ 31) (kk : ∀ s', g s' = some r → zWA M Λ d res (pc + 3) ls rest s') : zWA M Λ d res pc ls (.long v :: .ref k :: rest) s := by
  refine zBd hf fun s' h1 h2 => ?_
  cases h1
  exact zCallS (M' := zm_ar_fillL) (d' := 0) (As := [.ref k, .long v]) (res' := (none, zfillL s k n v)) 2 zmk_ar_fillL zok_ar_fillL hl h (by rw [hd]; rfl) hc rfl rfl (k_ar_fillL hL hk hn s v) (kk _ h2)
end ZFR
