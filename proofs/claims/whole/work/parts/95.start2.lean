/-! THE START 2: the law's two objects, and its loop -/
theorem zfL_7 : Cond.classLink "LemonGateLaw" 7 "LemonGate" ∈ tables_1 := List.mem_of_getElem? (i := 17) (by decide +kernel)
theorem zfL_10 : Cond.classLink "LemonGateLaw" 10 "LemonGateModel" ∈ tables_1 := List.mem_of_getElem? (i := 896) (by decide +kernel)
theorem zfL_9 : Cond.methodLink "LemonGateLaw" 9 ⟨"LemonGate", "<init>", "()V"⟩ ∈ tables_1 := List.mem_of_getElem? (i := 19) (by decide +kernel)
theorem zfL_12 : Cond.methodLink "LemonGateLaw" 12 ⟨"LemonGateModel", "<init>", "()V"⟩ ∈ tables_1 := List.mem_of_getElem? (i := 898) (by decide +kernel)
theorem zfI_9 : Cond.instanceMethod ⟨"LemonGate", "<init>", "()V"⟩ ∈ tables_1 := List.mem_of_getElem? (i := 20) (by decide +kernel)
theorem zfI_12 : Cond.instanceMethod ⟨"LemonGateModel", "<init>", "()V"⟩ ∈ tables_1 := List.mem_of_getElem? (i := 899) (by decide +kernel)
theorem gi_g_len (cA : Nat → ClassId) (h0 : Nat) (q : List Nat) : (gi_g_init cA h0 q).length = 52 := by unfold gi_g_init; rfl
set_option maxRecDepth 100000 in
set_option maxHeartbeats 4000000 in
/-- both worlds, out of the cells that the constructors made -/
theorem both_worlds {A : Nat → Prop} {D : va_G} {cA : Nat → ClassId} {q1 q2 : Nat} {rG rM : List Nat} {H : Heap} (sta : Nat → Nat) (hP : va_P D zCl (([] ++ gi_g_init cA q1 rG) ++ gi_m_init cA q2 rM) H) (hD : va_D A (([] ++ gi_g_init cA q1 rG) ++ gi_m_init cA q2 rM)) :
    va_P D zCl (zW (adOf q1 rG sta) cA ΛG zG0) H ∧ va_P D zCl (zW (adOf q2 rM sta) cA ΛM zM0) H ∧ va_D A (zW (adOf q1 rG sta) cA ΛG zG0) ∧ va_D A (zW (adOf q2 rM sta) cA ΛM zM0) ∧ ∀ i j, i < 52 → j < 30 → adOf q1 rG sta i ≠ adOf q2 rM sta j := by
  rw [List.nil_append] at hP hD
  have hlen := gi_g_len cA q1 rG
  have h39 : (gi_g_init cA q1 rG)[39]? = some (rG.getD 38 0, .inl (cA 2, 6, .inr (.inr (.inr (.inr (va_up (va_up (va_up (va_up (va_up (va_up (fun _ => none) 0 (some (rG.getD 39 0))) 1 (some (rG.getD 41 0))) 2 (some (rG.getD 43 0))) 3 (some (rG.getD 45 0))) 4 (some (rG.getD 47 0))) 5 (some (rG.getD 49 0)))))))) := by unfold gi_g_init; rfl
  have h39' : (gi_g_init cA q1 rG ++ gi_m_init cA q2 rM)[39]? = some (rG.getD 38 0, .inl (cA 2, 6, .inr (.inr (.inr (.inr (va_up (va_up (va_up (va_up (va_up (va_up (fun _ => none) 0 (some (rG.getD 39 0))) 1 (some (rG.getD 41 0))) 2 (some (rG.getD 43 0))) 3 (some (rG.getD 45 0))) 4 (some (rG.getD 47 0))) 5 (some (rG.getD 49 0)))))))) := by
    rw [List.getElem?_append_left (by omega)]
    exact h39
  have hP1 := zPQ (f' := fun j => some (adOf q1 rG sta (40 + 2 * j))) hP h39' (zSh_e q1 rG sta)
  have hD1 := zDQ (e' := .inl (cA 2, 6, .inr (.inr (.inr (.inr (fun j => some (adOf q1 rG sta (40 + 2 * j)))))))) hD h39'
  rw [List.set_append_left _ _ (by omega), ← zG0_w cA q1 rG sta, ← zM0_w cA q2 rM sta] at hP1 hD1
  obtain ⟨g1, g2⟩ := zsub_l hP1 hD1
  obtain ⟨m1, m2⟩ := zsub_r hP1 hD1
  refine ⟨g1, m1, g2, m2, fun i j hi hj e => ?_⟩
  have lG : ΛG.length = 52 := rfl
  have lM : ΛM.length = 30 := rfl
  obtain ⟨x, hx⟩ := zW_at2 (ad := adOf q1 rG sta) (cA := cA) (s := zG0) (Λ := ΛG) (k := i) (by omega)
  obtain ⟨y, hy⟩ := zW_at2 (ad := adOf q2 rM sta) (cA := cA) (s := zM0) (Λ := ΛM) (k := j) (by omega)
  have l1 : (zW (adOf q1 rG sta) cA ΛG zG0).length = 52 := by rw [zW_len]; exact lG
  have hx' : (zW (adOf q1 rG sta) cA ΛG zG0 ++ zW (adOf q2 rM sta) cA ΛM zM0)[i]? = some (adOf q1 rG sta i, x) := by
    rw [List.getElem?_append_left (by omega)]; exact hx
  have hy' : (zW (adOf q1 rG sta) cA ΛG zG0 ++ zW (adOf q2 rM sta) cA ΛM zM0)[52 + j]? = some (adOf q2 rM sta j, y) := by
    rw [List.getElem?_append_right (by omega), l1, show 52 + j - 52 = j by omega]; exact hy
  have := hD1.1 i (52 + j) _ _ hx' hy' e
  omega
set_option maxRecDepth 100000 in
set_option maxHeartbeats 4000000 in
/-- THE LAW, from its entry -/
theorem whole_start {p : Program} {e : Env} {s : State} {m : MethodId} {below : List Frame} {meth : Method} {c : Code} (l : Launch) (hflags : l.flags = flags0) {b L : Nat} {xs : Nat → Int32} (hL : L ≤ 3072) (C0 : lw_At p s m meth c b L xs) : W p l e room_1 s m #[Value.ref b] below meth c s.heap [] 0 0 (lw_Z below #[Value.ref b] s) (entryFrame m ([Value.ref b] : List Value).toArray 4) := by
  obtain ⟨hx, hb, hr, hml, hown, hts, hX, hbl, hlo, hgv⟩ := id C0
  obtain ⟨D, cA, hK⟩ := zKall hts
  obtain ⟨sta, hSx⟩ := zTabs (A := zLn s) hts hgv (fun a ha => Nat.not_le.mpr ha)
  have C : zGc (p, l, e, room_1, s, m, #[Value.ref b], below, meth, c, lw_Z below #[Value.ref b] s, D, zLn s, 4) R_law code cA (fun k => sta (k - 1000)) := ⟨hx, hb, hml, hown, fun w hw => hts w (List.mem_filter.mp hw).1, hK, fun q hq => hq, hSx, va_AO.of (hts _ (List.mem_append_right _ zArO))⟩
  have hl := lv_entry ([.ref b]) (n := 4) (Nat.le_of_ble_eq_true rfl)
  rw [lg_entry_eq]
  generalize (lg_sl ([.ref b]) ++ List.replicate (4 - (lg_sl ([.ref b])).length) Slot.unset).toArray = ls at hl ⊢
  have K : zG (p, l, e, room_1, s, m, #[Value.ref b], below, meth, c, lw_Z below #[Value.ref b] s, D, zLn s, 4) 0 [(0, .ref b)] [] [] 0 0 := by
    refine zg_new (ci := 11) (fs := [.null, .null, .null, .null, .null, .null, .int 0, .null, .null, .null, .null]) C zt11 zto11 rfl zfL_7 zin_11 zci_11 zfs_11 (zdl zlwk_h rfl) ⟨rfl, rfl⟩ (fun q1 => ?_)
    refine zg_dup C (zdl zlwk_h rfl) rfl ?_
    refine zg_init (wr := []) (M := zm_g_init) C ki_g_init zmk_g_init (Or.inl zfL_9) zfI_9 zci_11 rfl ⟨zcn_11.1, zcn_11.2, by decide +kernel⟩ rfl ⟨rfl, rfl⟩ rfl rfl (zdl zlwk_h rfl) ⟨rfl, rfl⟩ rfl (fun rG _ => ?_)
    refine zg_astore (ls' := [(1, .ref q1), (0, .ref b)]) C (zdl zlwk_h rfl) rfl (Nat.le_of_ble_eq_true rfl) rfl ?_
    refine zg_new (ci := 12) (fs := [.null, .null, .null, .null, .int 0, .int 0, .null, .null, .int 0, .null, .null, .int 0, .null, .null, .int 0, .int 0, .int 0, .int 0, .int 0, .null, .null, .int 0, .int 0, .int 0, .int 0, .int 0, .int 0, .int 0, .null, .null, .int 0, .null, .null, .null, .null, .null, .null, .null, .int 0, .null, .null, .int 0, .null, .null, .int 0, .int 0, .int 0, .null, .null, .null, .null]) C zt12 zto12 rfl zfL_10 zin_12 zci_12 zfs_12 (zdl zlwk_h rfl) ⟨rfl, rfl⟩ (fun q2 => ?_)
    refine zg_dup C (zdl zlwk_h rfl) rfl ?_
    refine zg_init (M := zm_m_init) C ki_m_init zmk_m_init (Or.inl zfL_12) zfI_12 zci_12 rfl ⟨zcn_12.1, zcn_12.2, by decide +kernel⟩ rfl ⟨rfl, rfl⟩ rfl rfl (zdl zlwk_h rfl) ⟨rfl, rfl⟩ rfl (fun rM _ => ?_)
    refine zg_astore (ls' := [(2, .ref q2), (1, .ref q1), (0, .ref b)]) C (zdl zlwk_h rfl) rfl (Nat.le_of_ble_eq_true rfl) rfl ?_
    refine zg_iconst (v := 0) C (zdl zlwk_h rfl) rfl ?_
    refine zg_istore (ls' := [(3, .int 0), (2, .ref q2), (1, .ref q1), (0, .ref b)]) C (zdl zlwk_h rfl) rfl (Nat.le_of_ble_eq_true rfl) rfl ?_
    intro H locs lsC hP hD hS hl
    obtain ⟨g1, m1, g2, m2, hdis⟩ := both_worlds sta hP hD
    have ea : ∀ (h0 : Nat) (q : List Nat) (j : Nat), adOf h0 q sta (1000 + j) = (fun k => sta (k - 1000)) (1000 + j) := fun h0 q j => by
      unfold adOf
      rw [if_neg (by omega), if_neg (by omega)]
    have CL : zLc (p, l, e, s, m, below, meth, c, b, L, xs, D, cA, adOf q1 rG sta, adOf q2 rM sta) := ⟨C0, hL, hK, zSx_ad hSx (ea q1 rG), zSx_ad hSx (ea q2 rM), g2, m2, hdis⟩
    exact law_loop CL L 0 zG0 zM0 (by show L ≤ 0 + L; omega) (Nat.zero_le _) yR_0 H locs lsC g1 m1 hS hl
  exact K s.heap [] ls (fun k q h => by simp at h) ⟨fun i j p q h => by simp at h, fun k q h => by simp at h⟩ va_S.rf hl
