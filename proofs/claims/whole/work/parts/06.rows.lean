/-! a block of straight-line instructions; branches, switches, arrays, answers -/
def zLok (Λ : List zD) : Bool := Λ.all fun d => match d with
  | .inl o => match zCl[o.1]? with
    | some w => decide (o.2.length = w.2.2) && (List.range o.2.length).all fun j => match o.2[j]? with
      | some (.inl kd) => !(w.2.1 j).2.2.2 && decide (zTt o.1 j = if kd = 0 then .int else .boolean)
      | _ => true
    | none => false
  | .inr _ => true
theorem zLok_put {Λ : List zD} (hL : zLok Λ = true) {q : Nat × Nat} {w : vw_C} {o : Nat × List (Nat ⊕ Nat)} {kd : Nat} (hw : zCl[q.1]? = some w) (ho : Sum.inl o ∈ Λ) (e : q.1 = o.1) (hf : o.2[q.2]? = some (.inl kd)) : (w.2.1 q.2).2.2.2 = false ∧ zTt q.1 q.2 = (if kd = 0 then .int else .boolean) ∧ o.2.length = w.2.2 := by
  have h1 := List.all_eq_true.mp hL _ ho
  rw [e] at hw ⊢
  simp only [hw, Bool.and_eq_true, decide_eq_true_eq] at h1
  have h2 := List.all_eq_true.mp h1.2 q.2 (List.mem_range.mpr (List.getElem?_eq_some_iff.mp hf).1)
  simp only [hf, Bool.and_eq_true, Bool.not_eq_true', decide_eq_true_eq] at h2
  exact ⟨h2.1, h2.2, h1.1⟩
section ZB
variable {M : zM} {Λ : List zD} {d : Nat} {res : Option Value × zSt} {pc : Nat}
theorem zs_pur2 {ls : List (Nat × Value)} {st st' : List Value} {s : zSt} {n : Nat} (k : zWA M Λ d res (pc + n) ls st' s)
    (hr : ∀ {p : Program} {l : Launch} {e : Env} {R : Room} {s : State} {m : MethodId} {args : Array Value} {below : List Frame} {meth : Method} {c : Code} {H : Heap} {locs : List Loc} {cells slots : Nat} {Q : State → Prop} {ls : Array Slot} (ad : Nat → Nat), p.tables.exec = Jvm.exec → c.code = M.2.2.1 → W p l e R s m args below meth c H locs cells slots Q (F0 m (pc + n) ls (st'.map (zV ad))) → W p l e R s m args below meth c H locs cells slots Q (F0 m pc ls (st.map (zV ad)))) : zWA M Λ d res pc ls st s := by
  intro hM p l e s m args below meth c D cA ad A C H locs lsC hP hD hS hl
  exact hr ad C.1 C.2.1 (k hM p l e s m args below meth c D cA ad A C H locs lsC hP hD hS hl)
theorem zstep_ok (hL : zLok Λ = true) {i : Instr} {n : Nat} {x y : zS} (hs : zstep M.1 M.2.2.2.1 Λ i x = (n, some y)) (hd : decode M.2.2.1 pc = .ok (i, n)) (k : zWA M Λ d res (pc + n) y.1 y.2.1 y.2.2) : zWA M Λ d res pc x.1 x.2.1 x.2.2 := by
  have hp : ∀ {n0 : Nat} {o : Option zS}, (n0, o) = (n, some y) → n0 = n ∧ o = some y := fun h => by cases h; exact ⟨rfl, rfl⟩
  cases i <;> first
    | (obtain ⟨-, h⟩ := hp hs; cases h; done)
    | skip
  case aconst_null => obtain ⟨rfl, h⟩ := hp hs; cases h; exact zs_push k (fun ad hx hb _ _ z => lv_null hx hb hd z)
  case iconst v => obtain ⟨rfl, h⟩ := hp hs; cases h; exact zs_push k (fun ad hx hb _ _ z => lv_iconst hx hb hd rfl z)
  case bipush v => obtain ⟨rfl, h⟩ := hp hs; cases h; exact zs_push k (fun ad hx hb _ _ z => lv_bipush hx hb hd rfl z)
  case sipush v => obtain ⟨rfl, h⟩ := hp hs; cases h; exact zs_push k (fun ad hx hb _ _ z => lv_sipush hx hb hd rfl z)
  case lconst v => obtain ⟨rfl, h⟩ := hp hs; cases h; exact zs_push k (fun ad hx hb _ _ z => lv_lconst hx hb hd rfl z)
  case ldc idx =>
    obtain ⟨rfl, h⟩ := hp hs
    obtain ⟨v, hv, h⟩ := Option.bind_eq_some_iff.mp h
    cases h
    intro hM
    have h1 := zk_ok M.1
    simp only [zkok, Bool.and_eq_true] at h1
    have h2 := of_decide_eq_true (List.all_eq_true.mp h1.1 _ (zlk_mem hv))
    rw [hM.2.1] at h2
    exact zs_push k (fun ad hx hb hw ht z => W.ldc hx hb hw (ht _ (zTb_of h2 rfl)) rfl hd z) hM
  case ldc2_w idx =>
    obtain ⟨rfl, h⟩ := hp hs
    obtain ⟨v, hv, h⟩ := Option.bind_eq_some_iff.mp h
    cases h
    intro hM
    have h1 := zk_ok M.1
    simp only [zkok, Bool.and_eq_true] at h1
    have h2 := of_decide_eq_true (List.all_eq_true.mp h1.2 _ (zlk_mem hv))
    rw [hM.2.1] at h2
    exact zs_push k (fun ad hx hb hw ht z => W.ldc2 hx hb hw (ht _ (zTb_of h2 rfl)) rfl hd z) hM
  case iload_n v => obtain ⟨rfl, h⟩ := hp hs; exact zs_load h k (fun hx hb hl z => lv_iload_n hx hb hd rfl hl z)
  case iload v => obtain ⟨rfl, h⟩ := hp hs; exact zs_load h k (fun hx hb hl z => lv_iload hx hb hd hl z)
  case lload_n v => obtain ⟨rfl, h⟩ := hp hs; exact zs_loadL h k (fun hx hb hl z => lv_lload_n hx hb hd rfl hl z)
  case lload v => obtain ⟨rfl, h⟩ := hp hs; exact zs_loadL h k (fun hx hb hl z => lv_lload hx hb hd hl z)
  case aload_n v => obtain ⟨rfl, h⟩ := hp hs; exact zs_loadA h k (fun hx hb hl z => lv_aload_n hx hb hd rfl hl z) (fun hx hb hl z => lv_aload_nN hx hb hd rfl hl z)
  case aload v => obtain ⟨rfl, h⟩ := hp hs; exact zs_loadA h k (fun hx hb hl z => lv_aload hx hb hd hl z) (fun hx hb hl z => lv_aloadN hx hb hd hl z)
  case istore_n v => obtain ⟨rfl, h⟩ := hp hs; exact zs_store rfl h k (fun hx hb hl hn e z => lv_istore_n hx hb hd rfl hl hn e z)
  case istore v => obtain ⟨rfl, h⟩ := hp hs; exact zs_store rfl h k (fun hx hb hl hn e z => lv_istore hx hb hd hl hn e z)
  case lstore_n v => obtain ⟨rfl, h⟩ := hp hs; exact zs_storeL rfl h k (fun hx hb hl hn e z => lv_lstore_n hx hb hd rfl hl hn e z)
  case lstore v => obtain ⟨rfl, h⟩ := hp hs; exact zs_storeL rfl h k (fun hx hb hl hn e z => lv_lstore hx hb hd hl hn e z)
  case astore_n v => obtain ⟨rfl, h⟩ := hp hs; exact zs_storeA rfl h k (fun hx hb hl hn e z => lv_astore_n hx hb hd rfl hl hn e z) (fun hx hb hl hn e z => lv_astore_nN hx hb hd rfl hl hn e z)
  case astore v => obtain ⟨rfl, h⟩ := hp hs; exact zs_storeA rfl h k (fun hx hb hl hn e z => lv_astore hx hb hd hl hn e z) (fun hx hb hl hn e z => lv_astoreN hx hb hd hl hn e z)
  case iinc a b => obtain ⟨rfl, h⟩ := hp hs; exact zs_inc rfl hd h k
  case getfield a => obtain ⟨rfl, h⟩ := hp hs; exact zs_get hd h k
  case putfield a => obtain ⟨rfl, h⟩ := hp hs; exact zs_put hd h (fun q w o kd _ hw ho e hf => zLok_put hL hw ho e hf) k
  case getstatic idx =>
    obtain ⟨rfl, h⟩ := hp hs
    obtain ⟨q, hq, h⟩ := Option.bind_eq_some_iff.mp h
    cases h
    have h1 := List.all_eq_true.mp (zs_ok M.1) _ (zlk_mem hq)
    cases hr : zTab[q.1]? with
    | none => simp [hr] at h1
    | some r =>
      simp only [hr] at h1
      intro hM p l e s m args below meth c D cA ad A C H locs lsC hP hD hS hl
      have kk := k hM p l e s m args below meth c D cA ad A C H locs lsC hP hD hS hl
      have hZ := (C.2.2.2.2.2.2.2.2.1.1 q.1 r hr).1
      by_cases hn : q.2 = true
      · rw [if_pos hn] at h1
        have h2 := of_decide_eq_true h1
        rw [hM.2.1] at h2
        exact va_getsN C.1 C.2.1 hZ hS C.2.2.2.2.2.1 (va_Nw.use rfl (C.2.2.2.2.2.2.2.2.1.2 _ (List.mem_filter.mpr ⟨h2, rfl⟩))) (fun _ h => h) hd kk
      · rw [if_neg hn] at h1
        have h2 := of_decide_eq_true h1
        rw [hM.2.1] at h2
        exact va_gets C.1 C.2.1 hZ hS C.2.2.2.2.2.1 (C.2.2.2.2.2.2.1 _ (zTb_of h2 rfl)) (fun _ h => h) hd kk
  case arraylength =>
    obtain ⟨rfl, h⟩ := hp hs
    obtain ⟨ls, st, s0⟩ := x
    unfold zLen at h
    dsimp only at h
    split at h
    · next a r =>
      split at h
      · next q hq =>
        cases h
        intro hM p l e s m args below meth c D cA ad A C H locs lsC hP hD hS hl
        have kk := k hM p l e s m args below meth c D cA ad A C H locs lsC hP hD hS hl
        obtain ⟨kd, n, b⟩ := q
        have g := zW_get (ad := ad) (cA := cA) (s := s0) hq
        rcases kd with _ | _ | kd
        · exact va_alen (tys := zTy cA) C.1 C.2.1 C.2.2.2.2.2.2.2.1 hP a 0 g rfl rfl hd kk
        · exact va_alen (tys := zTy cA) C.1 C.2.1 C.2.2.2.2.2.2.2.1 hP a 1 g rfl rfl hd kk
        · exact va_alen (tys := zTy cA) C.1 C.2.1 C.2.2.2.2.2.2.2.1 hP a 2 g rfl rfl hd kk
      · cases h
    · cases h
  case iadd => obtain ⟨rfl, h⟩ := hp hs; simp only [zBin] at h; split at h <;> first | (cases h; done) | skip; next hst => cases h; exact zs_pur2 k (fun ad hx hb z => by rw [hst]; exact lv_iadd hx hb hd z)
  case isub => obtain ⟨rfl, h⟩ := hp hs; simp only [zBin] at h; split at h <;> first | (cases h; done) | skip; next hst => cases h; exact zs_pur2 k (fun ad hx hb z => by rw [hst]; exact lv_isub hx hb hd z)
  case imul => obtain ⟨rfl, h⟩ := hp hs; simp only [zBin] at h; split at h <;> first | (cases h; done) | skip; next hst => cases h; exact zs_pur2 k (fun ad hx hb z => by rw [hst]; exact lv_imul hx hb hd z)
  case iand => obtain ⟨rfl, h⟩ := hp hs; simp only [zBin] at h; split at h <;> first | (cases h; done) | skip; next hst => cases h; exact zs_pur2 k (fun ad hx hb z => by rw [hst]; exact lv_iand hx hb hd z)
  case ior => obtain ⟨rfl, h⟩ := hp hs; simp only [zBin] at h; split at h <;> first | (cases h; done) | skip; next hst => cases h; exact zs_pur2 k (fun ad hx hb z => by rw [hst]; exact lv_ior hx hb hd z)
  case ixor => obtain ⟨rfl, h⟩ := hp hs; simp only [zBin] at h; split at h <;> first | (cases h; done) | skip; next hst => cases h; exact zs_pur2 k (fun ad hx hb z => by rw [hst]; exact lv_ixor hx hb hd z)
  case ishl => obtain ⟨rfl, h⟩ := hp hs; simp only [zBin] at h; split at h <;> first | (cases h; done) | skip; next hst => cases h; exact zs_pur2 k (fun ad hx hb z => by rw [hst]; exact lv_ishl hx hb hd z)
  case ishr => obtain ⟨rfl, h⟩ := hp hs; simp only [zBin] at h; split at h <;> first | (cases h; done) | skip; next hst => cases h; exact zs_pur2 k (fun ad hx hb z => by rw [hst]; exact lv_ishr hx hb hd z)
  case iushr => obtain ⟨rfl, h⟩ := hp hs; simp only [zBin] at h; split at h <;> first | (cases h; done) | skip; next hst => cases h; exact zs_pur2 k (fun ad hx hb z => by rw [hst]; exact lv_iushr hx hb hd rfl z)
  case idiv => obtain ⟨rfl, h⟩ := hp hs; simp only [zDvi] at h; split at h <;> first | (cases h; done) | skip; next hst => split at h <;> first | (cases h; done) | skip; next hne => cases h; exact zs_pur2 k (fun ad hx hb z => by rw [hst]; exact lv_idiv hx hb hd hne z)
  case irem => obtain ⟨rfl, h⟩ := hp hs; simp only [zDvi] at h; split at h <;> first | (cases h; done) | skip; next hst => split at h <;> first | (cases h; done) | skip; next hne => cases h; exact zs_pur2 k (fun ad hx hb z => by rw [hst]; exact lv_irem hx hb hd hne z)
  case ineg => obtain ⟨rfl, h⟩ := hp hs; simp only [zUn] at h; split at h <;> first | (cases h; done) | skip; next hst => cases h; exact zs_pur2 k (fun ad hx hb z => by rw [hst]; exact lv_ineg hx hb hd z)
  case i2b => obtain ⟨rfl, h⟩ := hp hs; simp only [zUn] at h; split at h <;> first | (cases h; done) | skip; next hst => cases h; exact zs_pur2 k (fun ad hx hb z => by rw [hst]; exact lv_i2b hx hb hd rfl z)
  case i2s => obtain ⟨rfl, h⟩ := hp hs; simp only [zUn] at h; split at h <;> first | (cases h; done) | skip; next hst => cases h; exact zs_pur2 k (fun ad hx hb z => by rw [hst]; exact lv_i2s hx hb hd rfl z)
  case ladd => obtain ⟨rfl, h⟩ := hp hs; simp only [zBinL] at h; split at h <;> first | (cases h; done) | skip; next hst => cases h; exact zs_pur2 k (fun ad hx hb z => by rw [hst]; exact lv_ladd hx hb hd z)
  case lsub => obtain ⟨rfl, h⟩ := hp hs; simp only [zBinL] at h; split at h <;> first | (cases h; done) | skip; next hst => cases h; exact zs_pur2 k (fun ad hx hb z => by rw [hst]; exact lv_lsub hx hb hd z)
  case lmul => obtain ⟨rfl, h⟩ := hp hs; simp only [zBinL] at h; split at h <;> first | (cases h; done) | skip; next hst => cases h; exact zs_pur2 k (fun ad hx hb z => by rw [hst]; exact lv_lmul hx hb hd z)
  case land => obtain ⟨rfl, h⟩ := hp hs; simp only [zBinL] at h; split at h <;> first | (cases h; done) | skip; next hst => cases h; exact zs_pur2 k (fun ad hx hb z => by rw [hst]; exact lv_land hx hb hd z)
  case lor => obtain ⟨rfl, h⟩ := hp hs; simp only [zBinL] at h; split at h <;> first | (cases h; done) | skip; next hst => cases h; exact zs_pur2 k (fun ad hx hb z => by rw [hst]; exact lv_lor hx hb hd z)
  case lneg => obtain ⟨rfl, h⟩ := hp hs; split at h <;> first | (cases h; done) | skip; next hst => cases h; exact zs_pur2 k (fun ad hx hb z => by rw [hst]; exact lv_lneg hx hb hd z)
  case lshl => obtain ⟨rfl, h⟩ := hp hs; split at h <;> first | (cases h; done) | skip; next hst => cases h; exact zs_pur2 k (fun ad hx hb z => by rw [hst]; exact lv_lshl hx hb hd rfl z)
  case lcmp => obtain ⟨rfl, h⟩ := hp hs; split at h <;> first | (cases h; done) | skip; next hst => cases h; exact zs_pur2 k (fun ad hx hb z => by rw [hst]; exact W.lcmp hx hb hd z)
  case i2l => obtain ⟨rfl, h⟩ := hp hs; split at h <;> first | (cases h; done) | skip; next hst => cases h; exact zs_pur2 k (fun ad hx hb z => by rw [hst]; exact lv_i2l hx hb hd rfl z)
  case l2i => obtain ⟨rfl, h⟩ := hp hs; split at h <;> first | (cases h; done) | skip; next hst => cases h; exact zs_pur2 k (fun ad hx hb z => by rw [hst]; exact lv_l2i hx hb hd rfl z)
  case pop => obtain ⟨rfl, h⟩ := hp hs; split at h <;> first | (cases h; done) | skip; next hst => cases h; exact zs_pur2 k (fun ad hx hb z => by rw [hst]; exact lv_pop hx hb hd rfl z)
  case dup => obtain ⟨rfl, h⟩ := hp hs; simp only [zDup] at h; split at h <;> first | (cases h; done) | skip; all_goals (next hst => cases h; exact zs_pur2 k (fun ad hx hb z => by rw [hst]; exact lv_dup hx hb hd rfl z))
  case dup_x1 => obtain ⟨rfl, h⟩ := hp hs; simp only [zDupX] at h; split at h <;> first | (cases h; done) | skip; all_goals (next hst => cases h; exact zs_pur2 k (fun ad hx hb z => by rw [hst]; exact lv_dup_x1 hx hb hd rfl rfl z))
  case dup2 => obtain ⟨rfl, h⟩ := hp hs; simp only [zDup2] at h; split at h <;> first | (cases h; done) | skip; all_goals (next hst => cases h; exact zs_pur2 k (fun ad hx hb z => by rw [hst]; exact lv_dup2_11 hx hb hd rfl rfl z))
end ZB
