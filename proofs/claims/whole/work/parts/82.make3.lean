/-! CONSTRUCTORS 3: cells in another order; Arrays.fill -/
theorem zSx_ad {ad ad' : Nat → Nat} {A : Nat → Prop} {s : State} (h : zSx ad A s) (e : ∀ j, ad' (1000 + j) = ad (1000 + j)) : zSx ad' A s := by
  refine ⟨fun j x hx => ?_, h.2⟩
  rw [e j]
  exact h.1 j x hx
section ZGP
variable {X : zGx} {own : String} {cc : ByteArray} {cA : Nat → ClassId} {ad : Nat → Nat} {pc : Nat} {ls : List (Nat × Value)} {st rest : List Value} {w : va_W} {cells slots : Nat}
theorem zg_perm {w' : va_W} (is : List Nat) (h1 : is.filterMap (fun i => w[i]?) = w') (hn : va_nd is = true) (h2 : is.map (fun i => w[i]?) = w'.map some) (k : zG X pc ls st w' cells slots) : zG X pc ls st w cells slots := by
  obtain ⟨p, l, e, R, s0, m, args, below, meth, c, Q, D, A, nL⟩ := X
  intro H locs lsC hP hD hS hl
  exact k H locs lsC (hP.sub is h1) (hD.sub is hn h2) hS hl
theorem zg_fill (C : zGc X own cc cA ad) {idx n a : Nat} {f : Nat → Int32} {v : Int32} {wr : va_W} (hl' : Cond.methodLink own idx ⟨"java/util/Arrays", "fill", "([II)V"⟩ ∈ tables_1) (hR : Nat.ble 1 (zGr X).frames = true ∧ Nat.ble 23 (zGr X).locals = true) (hdg : decode cc pc = .ok (.invokestatic idx, 3)) (hst : Nat.ble ((rest.map fun v => v.category).sum) 8 = true) (hn : n < 2000) (hcap : Nat.ble cells (zGr X).cells = true ∧ Nat.ble slots (zGr X).slots = true)
    (k : zG X (pc + 3) ls rest (wr ++ [(a, .inl (cA 0, n, .inl (fun j => if j < n then v else f j)))]) cells slots) : zG X pc ls (.int v :: .ref a :: rest) (wr ++ [(a, .inl (cA 0, n, .inl f))]) cells slots := by
  obtain ⟨p, l, e, R, s0, m, args, below, meth, c, Q, D, A, nL⟩ := X
  obtain ⟨hx, hb, hml, hown, hts, hK, hA, hSx, hAO⟩ := C
  intro H locs lsC hP hD hS hl
  obtain ⟨hPc, hDc⟩ := zsub_r hP hD
  have hFc := zA_free hDc hS hA
  let ad' : Nat → Nat := fun k => if k = 0 then a else ad k
  let σ : zSt := (fun _ => f, fun _ _ => 0)
  have hW : zW ad' cA [.inr (0, n, 0)] σ = [(a, .inl (cA 0, n, .inl f))] := rfl
  have hW1 : zW ad' cA [.inr (0, n, 0)] (zfill σ 0 n v) = [(a, .inl (cA 0, n, .inl (fun j => if j < n then v else f j)))] := rfl
  have hSx' : zSx ad' A s0 := zSx_ad hSx (fun j => if_neg (by omega))
  have hpre := zPre (As := [.ref 0, .int v]) (s := σ) (Λ := [.inr (0, n, 0)]) (ad := ad') (by rw [hW]; exact hPc) hK hSx' (by rw [hW]; exact hDc) hS hA
  have hzl : zLok [.inr (0, n, 0)] = true := rfl
  have hkp := k_ar_fill (Λ := [.inr (0, n, 0)]) hzl (k := 0) (b := 0) rfl (by omega) σ v
  have hr := va_runS (p := p) (e := e) (R := R) (m := m) (args := args) (below := below) (meth := meth) (c := c) (H := H) (locs := locs) (cells := cells) (slots := slots) (g := F0 m pc lsC (.int v :: .ref a :: rest)) (rest := rest) (As := [.ref a, .int v]) (n := 2) (nL := nL) (Ts := zTb) (own := own) ⟨hx, hb, hml, hown, hts⟩ (hkp l D cA ad' H.size) ⟨callB_of 2 hts (zTb_call zmk_ar_fill) rfl rfl rfl (hts _ (zTb_of zok_ar_fill.2.1 rfl)) (hts _ (zTb_of hl' rfl)) ⟨zok_ar_fill.2.2.1, zok_ar_fill.2.2.2.1, zok_ar_fill.2.2.2.2⟩ ⟨Nat.le_of_ble_eq_true hR.1, Nat.le_of_ble_eq_true hR.2⟩, hts _ (zTb_of zok_ar_fill.1 rfl)⟩ hpre rfl rfl hl.1 rfl (lv_room (Nat.le_of_ble_eq_true hst)) hdg ⟨Nat.le_of_ble_eq_true hcap.1, Nat.le_of_ble_eq_true hcap.2⟩
  intro T hT Xs
  obtain ⟨v0, st₀, t, T', L, h0', X', hL, e1, e2, ⟨hv, hP1, hz, hkk⟩, stp⟩ := hr T hT Xs
  rw [h0'] at hz hkk
  rw [hW] at hkk hL
  rw [hW1] at hP1
  have hv2 : v0 = none := by cases hv; rfl
  subst hv2
  rw [← e1] at hP1 hz hkk
  have hD1 : va_D (va_A [(a, .inl (cA 0, n, .inl f))] H.size) [(a, .inl (cA 0, n, .inl (fun j => if j < n then v else f j)))] := by
    refine ⟨fun i j x y hx hy _ => ?_, fun k q hq => ?_⟩
    · have h1 := (List.getElem?_eq_some_iff.mp hx).1
      have h2 := (List.getElem?_eq_some_iff.mp hy).1
      simp at h1 h2
      omega
    · have h1 := (List.getElem?_eq_some_iff.mp hq).1
      simp at h1
      subst h1
      cases hq
      exact Or.inl ⟨0, _, rfl⟩
  obtain ⟨hP2, hD2⟩ := zjoin (H1 := T'.heap) hP hD hkk hFc hP1 hD1
  obtain ⟨t2, a1, b1⟩ := k T'.heap (locs ++ L) lsC hP2 hD2 ⟨Nat.le_trans hS.1 hz, fun q h1 h2 => by
    rw [hkk q (Nat.lt_of_lt_of_le h1 hS.1) (fun z => h2 (hFc q z))]
    exact hS.2.1 q h1 h2, fun q hq => by
    rcases List.mem_append.mp hq with h | h
    · exact hS.2.2 q h
    · exact hFc _ (hL q h)⟩ hl T' rfl X'
  exact ⟨t2, stp t2 a1, b1⟩
end ZGP
