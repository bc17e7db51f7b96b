/-! THE LAW'S BODY 1: the head of the skeleton, rows over both worlds -/
def R_law : String := "LemonGateLaw"
def lw_P (b : Addr) (xs : List Int32) (args : Array Value) (s : State) : Prop := args = #[.ref b] ∧ s.IntsAt b xs ∧ xs.length ≤ 3072 ∧ (Jvm.Cond.and given_1 narrow_1).before args s = true
def lw_Q (_ : Array Value) (s : State) (o : Outcome) (t : State) : Prop := o = .returned (some (.int 1)) ∧ Framed s o t [] 600000 7302250
def lw_Z (below : List Frame) (a : Array Value) (s : State) : State → Prop := fun t => ∃ o, t.status = .running ∧ Ended t below o ∧ lw_Q a s o t
/-- the law's own end, with 1 on the stack, nothing written that was there before, its room as the claim has it -/
theorem lw_ret {p : Program} {l : Launch} {e : Env} {s : State} {m : MethodId} {below : List Frame} {meth : Method} {c : Code} {b : Nat} (hx : p.tables.exec = Jvm.exec) (hb : c.code = code) (hr : meth.sig.returnType = ret) (hlocks : meth.locks = false) {pc : Nat} {H : Heap} {ls : Array Slot} (hdg : decode code pc = .ok (.ireturn, 1)) : W p l e room_1 s m #[Value.ref b] below meth c H [] 600000 7302250 (lw_Z below #[Value.ref b] s) (F0 m pc ls [.int 1]) := by
  intro T hT X
  obtain ⟨fs, hret, hrun, hended, hW, hframe⟩ := X.leave (v := some (.int 1)) (hlocks := hlocks) (fun h => by rw [hr] at h; cases h)
  have hmeth' : T.vm.method? m = some meth := X.method'
  refine ⟨T.setFrames fs, ?_, .returned (some (.int 1)), hrun, hended, rfl, ⟨_, rfl⟩, hW, hframe⟩
  jvm_step X.here [X.here.top, hx, hb, hdg, hmeth', hr, ret, narrow_b1]
  (try refine ⟨rfl, ?_⟩); (try refine ⟨rfl, ?_⟩)
  first | (intro acts; rw [hret _ acts rfl rfl rfl]) | rw [hret _ _ rfl rfl rfl]
  exact Steps.refl _
/-- what holds at the law's entry: the machine, the code, the tables' words (any of lw_tbl by 'hts w (by decide +kernel)'), the script of L ints xs at the cell b, what the Statement gives of the start (any of its parts by flat_of_before) -/
def lw_At (p : Program) (s : State) (m : MethodId) (meth : Method) (c : Code) (b L : Nat) (xs : Nat → Int32) : Prop :=
  p.tables.exec = Jvm.exec ∧ c.code = code ∧ meth.sig.returnType = ret ∧ c.maxLocals = 4 ∧ s.vm.findClass R_law = some m.cls ∧ (∀ w ∈ lw_tbl, w.before #[Value.ref b] s = true) ∧ va_X b L xs s s.heap ∧ b < s.heap.size ∧ meth.locks = false ∧ (Jvm.Cond.and given_1 narrow_1).before #[Value.ref b] s = true
abbrev zLx : Type := Program × Launch × Env × State × MethodId × List Frame × Method × Code × Nat × Nat × (Nat → Int32) × va_G × (Nat → ClassId) × (Nat → Nat) × (Nat → Nat)
def zLn (s0 : State) : Nat → Prop := fun q => s0.heap.size ≤ q
def zLA (Y : zLx) (pc : Nat) (ls : List (Nat × Value)) (st : List Value) (s t : zSt) : Prop := match Y with
  | (p, l, e, s0, m, below, meth, c, b, _, _, D, cA, aG, aM) => ∀ (H : Heap) (locs : List Loc) (lsC : Array Slot), va_P D zCl (zW aG cA ΛG s) H → va_P D zCl (zW aM cA ΛM t) H → va_S (zLn s0) s0.heap H locs → lv_has lsC 4 ls → W p l e room_1 s0 m #[Value.ref b] below meth c H locs 82 4852 (lw_Z below #[Value.ref b] s0) (F0 m pc lsC st)
def zLc (Y : zLx) : Prop := match Y with
  | (p, _, _, s0, m, _, meth, c, b, L, xs, D, cA, aG, aM) => lw_At p s0 m meth c b L xs ∧ L ≤ 3072 ∧ va_K D zCl (zTy cA) s0 ∧ zSx aG (zLn s0) s0 ∧ zSx aM (zLn s0) s0 ∧ va_D (zLn s0) (zW aG cA ΛG zG0) ∧ va_D (zLn s0) (zW aM cA ΛM zM0) ∧ ∀ i j, i < 52 → j < 30 → aG i ≠ aM j
def yL (Y : zLx) : Nat := Y.2.2.2.2.2.2.2.2.2.1
def yXs (Y : zLx) : Nat → Int32 := Y.2.2.2.2.2.2.2.2.2.2.1
def yGr (Y : zLx) : Value := .ref (Y.2.2.2.2.2.2.2.2.2.2.2.2.2.1 0)
def yMr (Y : zLx) : Value := .ref (Y.2.2.2.2.2.2.2.2.2.2.2.2.2.2 0)
def yBr (Y : zLx) : Value := .ref Y.2.2.2.2.2.2.2.2.1
def lsi (Y : zLx) (i : Nat) : List (Nat × Value) := [(3, .int (nI i)), (2, yMr Y), (1, yGr Y), (0, yBr Y)]
theorem zW_len (ad : Nat → Nat) (cA : Nat → ClassId) (Λ : List zD) (s : zSt) : (zW ad cA Λ s).length = Λ.length := by simp [zW]
theorem zA_cell {ad : Nat → Nat} {cA : Nat → ClassId} {Λ : List zD} {s : zSt} {sz q : Nat} (h : va_A (zW ad cA Λ s) sz q) : (∃ k, k < Λ.length ∧ q = ad k) ∨ sz ≤ q := by
  rcases h with ⟨k, e, h⟩ | h
  · obtain ⟨a1, b1⟩ := zW_at h
    exact Or.inl ⟨k, b1, a1⟩
  · exact Or.inr h
section ZL
variable {Y : zLx} {pc : Nat} {ls : List (Nat × Value)} {st rest : List Value} {s t : zSt}
theorem zl_ld (C : zLc Y) {k : Fin 4} {i j a : Nat} (hdg : decode code pc = .ok (.aload_n k, 1)) (hi : (k : Nat) = i) (hk : ls[j]? = some (i, .ref a)) (kk : zLA Y (pc + 1) ls (.ref a :: st) s t) : zLA Y pc ls st s t := by
  obtain ⟨p, l, e, s0, m, below, meth, c, b, L, xs, D, cA, aG, aM⟩ := Y
  obtain ⟨⟨hx, hb, -⟩, -⟩ := C
  intro H locs lsC hPG hPM hS hl
  exact lv_aload_n hx hb hdg hi (lv_at hl j hk) (kk H locs lsC hPG hPM hS hl)
/-- an argument out of the script: five instructions -/
theorem zl_arg (C : zLc Y) {i kk : Nat} {n : Int} (hi : i + 6 ≤ yL Y) (hk5 : kk ≤ 5) (hn : Int32.ofInt n = nI kk) (h0 : decode code pc = .ok (.aload_n 0, 1)) (h1 : decode code (pc + 1) = .ok (.iload_n 3, 1)) (h2 : decode code (pc + 2) = .ok (.iconst n, 1)) (h3 : decode code (pc + 3) = .ok (.iadd, 1)) (h4 : decode code (pc + 4) = .ok (.iaload, 1)) (k : zLA Y (pc + 5) (lsi Y i) (.int (yXs Y (i + kk)) :: st) s t) : zLA Y pc (lsi Y i) st s t := by
  obtain ⟨p, l, e, s0, m, below, meth, c, b, L, xs, D, cA, aG, aM⟩ := Y
  obtain ⟨⟨hx, hb, hr, hml, hown, hts, hX, hbl, hlo, hgv⟩, hL, -⟩ := C
  intro H locs lsC hPG hPM hS hl
  have hi' : i + 6 ≤ L := hi
  refine lv_aload_n hx hb h0 rfl (lv_at hl 3 rfl) ?_
  refine lv_iload_n hx hb h1 rfl (lv_at hl 0 rfl) ?_
  refine lv_iconst hx hb h2 hn ?_
  refine lv_iadd hx hb h3 ?_
  rw [nI_add]
  refine va_sld hx hb hX hbl (Nat.not_le.mpr hbl) hS (vp_in_nI (show i + kk < L by omega) (by omega)) h4 ?_
  rw [nI_clamp (show i + kk < 2 ^ 31 by omega)]
  exact k H locs lsC hPG hPM hS hl
theorem zl_callG (C : zLc Y) {M : zM} {d idx n : Nat} {As : List Value} {res : Option Value × zSt} (K : zKp M ΛG d (.ref 0 :: As) s res) (hM : zMok M) (hs : zVok M n) (hl' : Cond.methodLink R_law idx M.2.1 ∈ tables_1) (hcl : M.2.1.cls = "LemonGate") (hR : Nat.ble (d + 1) 2048 = true ∧ Nat.ble (8 + (M.2.2.2.1 + 11) + 64 * d) 84000 = true) (hdg : decode code pc = .ok (.invokevirtual idx, 3)) (hAs : ∀ ad : Nat → Nat, As.map (zV ad) = As) (hrv : ∀ ad : Nat → Nat, res.1.map (zV ad) = res.1) (hn : As.length = n) (hst : st = As.reverse ++ yGr Y :: rest) (hc : Nat.ble ((rest.map fun v => v.category).sum) 8 = true) (k : zLA Y (pc + 3) ls (res.1.toList ++ rest) res.2 t) : zLA Y pc ls st s t := by
  obtain ⟨p, l, e, s0, m, below, meth, c, b, L, xs, D, cA, aG, aM⟩ := Y
  obtain ⟨⟨hx, hb, hr, hml, hown, hts, hX, hbl, hlo, hgv⟩, hL, hK, hSG, hSM, hDG0, hDM0, hdis⟩ := C
  intro H locs lsC hPG hPM hS hl
  subst hst
  have hDG : va_D (zLn s0) (zW aG cA ΛG s) := zD_to hDG0
  have hA : ∀ q : Nat, s0.heap.size ≤ q → zLn s0 q := fun q h => h
  have hts' : ∀ w ∈ zTb, w.before #[Value.ref b] s0 = true := fun w hw => hts w (List.mem_filter.mp hw).1
  have hpre := zPre (As := .ref 0 :: As) hPG hK hSG hDG hS hA
  have hRR : (zRm d).frames + 1 ≤ room_1.frames ∧ 8 + (M.2.2.2.1 + 11) + (zRm d).locals ≤ room_1.locals := ⟨Nat.le_of_ble_eq_true hR.1, Nat.le_of_ble_eq_true hR.2⟩
  obtain ⟨fs, hfs⟩ : ∃ fs, ΛG[0]? = some (.inl (11, fs)) := ⟨_, rfl⟩
  have hrun := va_runV (p := p) (e := e) (R := room_1) (m := m) (args := #[Value.ref b]) (below := below) (meth := meth) (c := c) (H := H) (locs := locs) (cells := 82) (slots := 4852) (g := F0 m pc lsC (As.reverse ++ Value.ref (aG 0) :: rest)) (rest := rest) (As := As.map (zV aG)) (b := aG 0) (C := M.2.1.cls) (n := n) (nL := 4) (Ts := zTb) (own := R_law) ⟨hx, hb, hml, hown, hts'⟩ (K l D cA aG H.size) ⟨callB_of n hts' (zTb_call hM) rfl rfl rfl (hts' _ (zTb_of hs.2.2.1 rfl)) (hts' _ (zTb_of hl' rfl)) ⟨hs.2.2.2.1, hs.2.2.2.2.1, hs.2.2.2.2.2⟩ hRR, hts' _ (zTb_of hs.1 rfl), hts' _ (zTb_in hs.2.1 rfl)⟩ ⟨hpre.1, by rw [hcl]; exact va_recv (q := (zR11, zT11, 11)) hK hPG rfl (zW_get hfs), hpre.2⟩ rfl (by rw [List.length_map]; exact hn) hl.1 (by rw [hAs aG]) (lv_room (Nat.le_of_ble_eq_true hc)) hdg ⟨Nat.le_of_ble_eq_true rfl, Nat.le_of_ble_eq_true rfl⟩
  intro T hT Xs
  obtain ⟨v0, st₀, t1, T', Lc, h0', X', hLc, e1, e2, ⟨hv, hP1, hz, hkk⟩, stp⟩ := hrun T hT Xs
  rw [h0'] at hz hkk
  have hv2 : v0 = res.1 := by
    have := hrv aG
    cases hv
    exact this
  subst hv2
  rw [← e1] at hP1 hz hkk
  have hAA : ∀ q, va_A (zW aG cA ΛG s) H.size q → zLn s0 q := fun q h => zA_in hDG (fun q h => hA q (Nat.le_trans hS.1 h)) h
  have hPM1 : va_P D zCl (zW aM cA ΛM t) T'.heap := by
    refine hPM.kept (fun j q hq => hkk q.1 ((hPM j q hq).lt) (fun z => ?_))
    obtain ⟨a1, b1⟩ := zW_at hq
    rcases zA_cell z with ⟨i, hi, ei⟩ | z
    · exact hdis i j hi b1 (ei.symm.trans a1)
    · have := (hPM j q hq).lt
      omega
  obtain ⟨t2, w1, w2⟩ := k T'.heap (locs ++ Lc) lsC hP1 hPM1 ⟨Nat.le_trans hS.1 hz, fun q h1 h2 => by
    rw [hkk q (Nat.lt_of_lt_of_le h1 hS.1) (fun z => h2 (hAA q z))]
    exact hS.2.1 q h1 h2, fun q hq => by
    rcases List.mem_append.mp hq with h | h
    · exact hS.2.2 q h
    · exact hAA _ (hLc q h)⟩ hl T' rfl X'
  exact ⟨t2, stp t2 w1, w2⟩
theorem zl_callM (C : zLc Y) {M : zM} {d idx n : Nat} {As : List Value} {res : Option Value × zSt} (K : zKp M ΛM d (.ref 0 :: As) t res) (hM : zMok M) (hs : zVok M n) (hl' : Cond.methodLink R_law idx M.2.1 ∈ tables_1) (hcl : M.2.1.cls = "LemonGateModel") (hR : Nat.ble (d + 1) 2048 = true ∧ Nat.ble (8 + (M.2.2.2.1 + 11) + 64 * d) 84000 = true) (hdg : decode code pc = .ok (.invokevirtual idx, 3)) (hAs : ∀ ad : Nat → Nat, As.map (zV ad) = As) (hrv : ∀ ad : Nat → Nat, res.1.map (zV ad) = res.1) (hn : As.length = n) (hst : st = As.reverse ++ yMr Y :: rest) (hc : Nat.ble ((rest.map fun v => v.category).sum) 8 = true) (k : zLA Y (pc + 3) ls (res.1.toList ++ rest) s res.2) : zLA Y pc ls st s t := by
  obtain ⟨p, l, e, s0, m, below, meth, c, b, L, xs, D, cA, aG, aM⟩ := Y
  obtain ⟨⟨hx, hb, hr, hml, hown, hts, hX, hbl, hlo, hgv⟩, hL, hK, hSG, hSM, hDG0, hDM0, hdis⟩ := C
  intro H locs lsC hPG hPM hS hl
  subst hst
  have hDM : va_D (zLn s0) (zW aM cA ΛM t) := zD_to hDM0
  have hA : ∀ q : Nat, s0.heap.size ≤ q → zLn s0 q := fun q h => h
  have hts' : ∀ w ∈ zTb, w.before #[Value.ref b] s0 = true := fun w hw => hts w (List.mem_filter.mp hw).1
  have hpre := zPre (As := .ref 0 :: As) hPM hK hSM hDM hS hA
  have hRR : (zRm d).frames + 1 ≤ room_1.frames ∧ 8 + (M.2.2.2.1 + 11) + (zRm d).locals ≤ room_1.locals := ⟨Nat.le_of_ble_eq_true hR.1, Nat.le_of_ble_eq_true hR.2⟩
  obtain ⟨fs, hfs⟩ : ∃ fs, ΛM[0]? = some (.inl (12, fs)) := ⟨_, rfl⟩
  have hrun := va_runV (p := p) (e := e) (R := room_1) (m := m) (args := #[Value.ref b]) (below := below) (meth := meth) (c := c) (H := H) (locs := locs) (cells := 82) (slots := 4852) (g := F0 m pc lsC (As.reverse ++ Value.ref (aM 0) :: rest)) (rest := rest) (As := As.map (zV aM)) (b := aM 0) (C := M.2.1.cls) (n := n) (nL := 4) (Ts := zTb) (own := R_law) ⟨hx, hb, hml, hown, hts'⟩ (K l D cA aM H.size) ⟨callB_of n hts' (zTb_call hM) rfl rfl rfl (hts' _ (zTb_of hs.2.2.1 rfl)) (hts' _ (zTb_of hl' rfl)) ⟨hs.2.2.2.1, hs.2.2.2.2.1, hs.2.2.2.2.2⟩ hRR, hts' _ (zTb_of hs.1 rfl), hts' _ (zTb_in hs.2.1 rfl)⟩ ⟨hpre.1, by rw [hcl]; exact va_recv (q := (zR12, zT12, 51)) hK hPM rfl (zW_get hfs), hpre.2⟩ rfl (by rw [List.length_map]; exact hn) hl.1 (by rw [hAs aM]) (lv_room (Nat.le_of_ble_eq_true hc)) hdg ⟨Nat.le_of_ble_eq_true rfl, Nat.le_of_ble_eq_true rfl⟩
  intro T hT Xs
  obtain ⟨v0, st₀, t1, T', Lc, h0', X', hLc, e1, e2, ⟨hv, hP1, hz, hkk⟩, stp⟩ := hrun T hT Xs
  rw [h0'] at hz hkk
  have hv2 : v0 = res.1 := by
    have := hrv aM
    cases hv
    exact this
  subst hv2
  rw [← e1] at hP1 hz hkk
  have hAA : ∀ q, va_A (zW aM cA ΛM t) H.size q → zLn s0 q := fun q h => zA_in hDM (fun q h => hA q (Nat.le_trans hS.1 h)) h
  have hPG1 : va_P D zCl (zW aG cA ΛG s) T'.heap := by
    refine hPG.kept (fun j q hq => hkk q.1 ((hPG j q hq).lt) (fun z => ?_))
    obtain ⟨a1, b1⟩ := zW_at hq
    rcases zA_cell z with ⟨i, hi, ei⟩ | z
    · exact hdis j i b1 hi (a1.symm.trans ei)
    · have := (hPG j q hq).lt
      omega
  obtain ⟨t2, w1, w2⟩ := k T'.heap (locs ++ Lc) lsC hPG1 hP1 ⟨Nat.le_trans hS.1 hz, fun q h1 h2 => by
    rw [hkk q (Nat.lt_of_lt_of_le h1 hS.1) (fun z => h2 (hAA q z))]
    exact hS.2.1 q h1 h2, fun q hq => by
    rcases List.mem_append.mp hq with h | h
    · exact hS.2.2 q h
    · exact hAA _ (hLc q h)⟩ hl T' rfl X'
  exact ⟨t2, stp t2 w1, w2⟩
theorem zl_end (C : zLc Y) {r : Int32} {off : Int} {tgt : Nat} (hdg : decode code pc = .ok (.if_icmp .eq off, 3)) (ht : (pc : Int) + off = (tgt : Int)) (k : zLA Y tgt ls rest s t) : zLA Y pc ls (.int r :: .int r :: rest) s t := by
  obtain ⟨p, l, e, s0, m, below, meth, c, b, L, xs, D, cA, aG, aM⟩ := Y
  obtain ⟨⟨hx, hb, -⟩, -⟩ := C
  intro H locs lsC hPG hPM hS hl
  exact lv_icmp_eq hx hb hdg ht (fun _ => k H locs lsC hPG hPM hS hl) (fun h => absurd rfl h)
theorem zl_endL (C : zLc Y) {r : Int64} {off : Int} {tgt : Nat} (hdg : decode code pc = .ok (.lcmp, 1)) (hdg2 : decode code (pc + 1) = .ok (.ifCond .eq off, 3)) (ht : ((pc + 1 : Nat) : Int) + off = (tgt : Int)) (k : zLA Y tgt ls rest s t) : zLA Y pc ls (.long r :: .long r :: rest) s t := by
  obtain ⟨p, l, e, s0, m, below, meth, c, b, L, xs, D, cA, aG, aM⟩ := Y
  obtain ⟨⟨hx, hb, -⟩, -⟩ := C
  intro H locs lsC hPG hPM hS hl
  refine W.lcmp hx hb hdg ?_
  have e0 : lg_cmp r r = 0 := (lg_cmp_0 r r).mpr rfl
  refine W.eq (g2 := F0 m (pc + 1) lsC (.int (lg_cmp r r) :: rest)) rfl ?_
  rw [e0]
  exact lv_if_eq hx hb hdg2 ht (fun _ => k H locs lsC hPG hPM hS hl) (fun h => absurd rfl h)
end ZL
