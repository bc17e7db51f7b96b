/-! THE LAW'S BODY 4: its loop -/
theorem law_exit {Y : zLx} (C : zLc Y) {i : Nat} (hi : ¬ i + 6 ≤ yL Y) (hiL : i ≤ yL Y) (s t : zSt) : zLA Y 18 (lsi Y i) [] s t := by
  obtain ⟨p, l, e, s0, m, below, meth, c, b, L, xs, D, cA, aG, aM⟩ := Y
  obtain ⟨⟨hx, hb, hr, hml, hown, hts, hX, hbl, hlo, hgv⟩, hL, -⟩ := C
  intro H locs lsC hPG hPM hS hl
  have hi' : ¬ i + 6 ≤ L := hi
  have hiL' : i ≤ L := hiL
  refine lv_iload_n hx hb (zdl zlwk_h rfl) rfl (lv_at hl 0 rfl) ?_
  refine lv_aload_n hx hb (zdl zlwk_h rfl) rfl (lv_at hl 3 rfl) ?_
  refine va_slen hx hb hX hbl (Nat.not_le.mpr hbl) hS (zdl zlwk_h rfl) ?_
  refine lv_bipush (v := 6) hx hb (zdl zlwk_h rfl) rfl ?_
  refine lv_isub hx hb (zdl zlwk_h rfl) ?_
  have e6 : (nI L - 6 : Int32).toInt = (L : Int) - 6 := by
    have h6 : (6 : Int32).toInt = 6 := rfl
    rw [q_subI (by rw [q_nI (by omega), h6]; omega) (by rw [q_nI (by omega), h6]; omega), q_nI (by omega), h6]
  refine lv_icmp_gt (tgt := 1382) hx hb (zdl zlwk_h rfl) (by decide) (fun _ => ?_) (fun hc => absurd ?_ hc)
  · refine lv_iconst (v := 1) hx hb (zdl zlwk_t rfl) rfl ?_
    refine va_forget (fun q hq => hS.2.2 q hq) ?_
    refine W.widen (k := 600000) (n := 7302250) (Nat.le_of_ble_eq_true rfl) (Nat.le_of_ble_eq_true rfl) ?_
    exact lw_ret hx hb hr hlo (zdl zlwk_t rfl)
  · show nI L - 6 < nI i
    rw [q_lt, e6, q_nI (by omega)]
    omega
set_option maxRecDepth 100000 in
theorem law_body {Y : zLx} (C : zLc Y) {i : Nat} (hi : i + 6 ≤ yL Y) {s t : zSt} (h : yR s t) (next : ∀ s' t', yR s' t' → zLA Y 1376 (lsi Y i) [] s' t') : zLA Y 18 (lsi Y i) [] s t := by
  have c0 := lc_0 C hi h next
  have c1 := lc_1 C hi h next
  have c2 := lc_2 C hi h next
  have c3 := lc_3 C hi h next
  have c4 := lc_4 C hi h next
  have c5 := lc_5 C hi h next
  have c6 := lc_6 C hi h next
  have c7 := lc_7 C hi h next
  have c8 := lc_8 C hi h next
  have c9 := lc_9 C hi h next
  have c10 := lc_10 C hi h next
  have c11 := lc_11 C hi h next
  have c12 := lc_12 C hi h next
  have c13 := lc_13 C hi h next
  have c14 := lc_14 C hi h next
  have c15 := lc_15 C hi h next
  have c16 := lc_16 C hi h next
  have c17 := lc_17 C hi h next
  have c18 := lc_18 C hi h next
  have c19 := lc_19 C hi h next
  have c20 := lc_20 C hi h next
  have c21 := lc_21 C hi h next
  have c22 := lc_22 C hi h next
  have c23 := lc_23 C hi h next
  have c24 := lc_24 C hi h next
  have c25 := lc_25 C hi h next
  have c26 := lc_26 C hi h next
  have c27 := lc_27 C hi h next
  have c28 := lc_28 C hi h next
  have c29 := lc_29 C hi h next
  have c30 := lc_30 C hi h next
  have c31 := lc_31 C hi h next
  have c32 := lc_32 C hi h next
  have c33 := lc_33 C hi h next
  have c34 := lc_34 C hi h next
  have c35 := lc_35 C hi h next
  have c36 := lc_36 C hi h next
  have c37 := lc_37 C hi h next
  have cn := next s t h
  obtain ⟨p, l, e, s0, m, below, meth, c, b, L, xs, D, cA, aG, aM⟩ := Y
  obtain ⟨⟨hx, hb, hr, hml, hown, hts, hX, hbl, hlo, hgv⟩, hL, -⟩ := C
  intro H locs lsC hPG hPM hS hl
  have hi' : i + 6 ≤ L := hi
  refine lv_iload_n hx hb (zdl zlwk_h rfl) rfl (lv_at hl 0 rfl) ?_
  refine lv_aload_n hx hb (zdl zlwk_h rfl) rfl (lv_at hl 3 rfl) ?_
  refine va_slen hx hb hX hbl (Nat.not_le.mpr hbl) hS (zdl zlwk_h rfl) ?_
  refine lv_bipush (v := 6) hx hb (zdl zlwk_h rfl) rfl ?_
  refine lv_isub hx hb (zdl zlwk_h rfl) ?_
  have e6 : (nI L - 6 : Int32).toInt = (L : Int) - 6 := by
    have h6 : (6 : Int32).toInt = 6 := rfl
    rw [q_subI (by rw [q_nI (by omega), h6]; omega) (by rw [q_nI (by omega), h6]; omega), q_nI (by omega), h6]
  refine lv_icmp_gt (tgt := 1382) hx hb (zdl zlwk_h rfl) (by decide) (fun hc => absurd (show nI L - 6 < nI i from hc) ?_) (fun _ => ?_)
  · rw [q_lt, e6, q_nI (by omega)]
    omega
  refine lv_aload_n hx hb (zdl zlwk_h rfl) rfl (lv_at hl 3 rfl) ?_
  refine lv_iload_n hx hb (zdl zlwk_h rfl) rfl (lv_at hl 0 rfl) ?_
  refine va_sld hx hb hX hbl (Nat.not_le.mpr hbl) hS (vp_in_nI (show i < L by omega) (by omega)) (zdl zlwk_h rfl) ?_
  refine lv_bipush (v := 63) hx hb (zdl zlwk_h rfl) rfl ?_
  refine lv_iand hx hb (zdl zlwk_h rfl) ?_
  generalize xs (nI i).toNatClampNeg &&& 63 = x
  by_cases ho : x.toInt < 0 ∨ 37 < x.toInt
  · exact lv_tableOut (tgt := 1376) hx hb (zdl zlwk_h rfl) ho (by decide) (cn H locs lsC hPG hPM hS hl)
  · obtain ⟨k, hk, rfl⟩ := q_ix (x := x) (n := 37) (by omega)
    clear ho
    have hk' : k = 0 ∨ k = 1 ∨ k = 2 ∨ k = 3 ∨ k = 4 ∨ k = 5 ∨ k = 6 ∨ k = 7 ∨ k = 8 ∨ k = 9 ∨ k = 10 ∨ k = 11 ∨ k = 12 ∨ k = 13 ∨ k = 14 ∨ k = 15 ∨ k = 16 ∨ k = 17 ∨ k = 18 ∨ k = 19 ∨ k = 20 ∨ k = 21 ∨ k = 22 ∨ k = 23 ∨ k = 24 ∨ k = 25 ∨ k = 26 ∨ k = 27 ∨ k = 28 ∨ k = 29 ∨ k = 30 ∨ k = 31 ∨ k = 32 ∨ k = 33 ∨ k = 34 ∨ k = 35 ∨ k = 36 ∨ k = 37 := by omega
    clear hk
    rcases hk' with rfl | rfl | rfl | rfl | rfl | rfl | rfl | rfl | rfl | rfl | rfl | rfl | rfl | rfl | rfl | rfl | rfl | rfl | rfl | rfl | rfl | rfl | rfl | rfl | rfl | rfl | rfl | rfl | rfl | rfl | rfl | rfl | rfl | rfl | rfl | rfl | rfl | rfl
    · exact lv_tableIn (tgt := 200) hx hb (zdl zlwk_h rfl) (by decide) (by decide) rfl (by decide) (c0 H locs lsC hPG hPM hS hl)
    · exact lv_tableIn (tgt := 233) hx hb (zdl zlwk_h rfl) (by decide) (by decide) rfl (by decide) (c1 H locs lsC hPG hPM hS hl)
    · exact lv_tableIn (tgt := 276) hx hb (zdl zlwk_h rfl) (by decide) (by decide) rfl (by decide) (c2 H locs lsC hPG hPM hS hl)
    · exact lv_tableIn (tgt := 289) hx hb (zdl zlwk_h rfl) (by decide) (by decide) rfl (by decide) (c3 H locs lsC hPG hPM hS hl)
    · exact lv_tableIn (tgt := 332) hx hb (zdl zlwk_h rfl) (by decide) (by decide) rfl (by decide) (c4 H locs lsC hPG hPM hS hl)
    · exact lv_tableIn (tgt := 365) hx hb (zdl zlwk_h rfl) (by decide) (by decide) rfl (by decide) (c5 H locs lsC hPG hPM hS hl)
    · exact lv_tableIn (tgt := 398) hx hb (zdl zlwk_h rfl) (by decide) (by decide) rfl (by decide) (c6 H locs lsC hPG hPM hS hl)
    · exact lv_tableIn (tgt := 421) hx hb (zdl zlwk_h rfl) (by decide) (by decide) rfl (by decide) (c7 H locs lsC hPG hPM hS hl)
    · exact lv_tableIn (tgt := 444) hx hb (zdl zlwk_h rfl) (by decide) (by decide) rfl (by decide) (c8 H locs lsC hPG hPM hS hl)
    · exact lv_tableIn (tgt := 467) hx hb (zdl zlwk_h rfl) (by decide) (by decide) rfl (by decide) (c9 H locs lsC hPG hPM hS hl)
    · exact lv_tableIn (tgt := 510) hx hb (zdl zlwk_h rfl) (by decide) (by decide) rfl (by decide) (c10 H locs lsC hPG hPM hS hl)
    · exact lv_tableIn (tgt := 533) hx hb (zdl zlwk_h rfl) (by decide) (by decide) rfl (by decide) (c11 H locs lsC hPG hPM hS hl)
    · exact lv_tableIn (tgt := 556) hx hb (zdl zlwk_h rfl) (by decide) (by decide) rfl (by decide) (c12 H locs lsC hPG hPM hS hl)
    · exact lv_tableIn (tgt := 589) hx hb (zdl zlwk_h rfl) (by decide) (by decide) rfl (by decide) (c13 H locs lsC hPG hPM hS hl)
    · exact lv_tableIn (tgt := 622) hx hb (zdl zlwk_h rfl) (by decide) (by decide) rfl (by decide) (c14 H locs lsC hPG hPM hS hl)
    · exact lv_tableIn (tgt := 655) hx hb (zdl zlwk_h rfl) (by decide) (by decide) rfl (by decide) (c15 H locs lsC hPG hPM hS hl)
    · exact lv_tableIn (tgt := 678) hx hb (zdl zlwk_h rfl) (by decide) (by decide) rfl (by decide) (c16 H locs lsC hPG hPM hS hl)
    · exact lv_tableIn (tgt := 722) hx hb (zdl zlwk_h rfl) (by decide) (by decide) rfl (by decide) (c17 H locs lsC hPG hPM hS hl)
    · exact lv_tableIn (tgt := 755) hx hb (zdl zlwk_h rfl) (by decide) (by decide) rfl (by decide) (c18 H locs lsC hPG hPM hS hl)
    · exact lv_tableIn (tgt := 788) hx hb (zdl zlwk_h rfl) (by decide) (by decide) rfl (by decide) (c19 H locs lsC hPG hPM hS hl)
    · exact lv_tableIn (tgt := 821) hx hb (zdl zlwk_h rfl) (by decide) (by decide) rfl (by decide) (c20 H locs lsC hPG hPM hS hl)
    · exact lv_tableIn (tgt := 864) hx hb (zdl zlwk_h rfl) (by decide) (by decide) rfl (by decide) (c21 H locs lsC hPG hPM hS hl)
    · exact lv_tableIn (tgt := 897) hx hb (zdl zlwk_h rfl) (by decide) (by decide) rfl (by decide) (c22 H locs lsC hPG hPM hS hl)
    · exact lv_tableIn (tgt := 920) hx hb (zdl zlwk_h rfl) (by decide) (by decide) rfl (by decide) (c23 H locs lsC hPG hPM hS hl)
    · exact lv_tableIn (tgt := 933) hx hb (zdl zlwk_h rfl) (by decide) (by decide) rfl (by decide) (c24 H locs lsC hPG hPM hS hl)
    · exact lv_tableIn (tgt := 946) hx hb (zdl zlwk_h rfl) (by decide) (by decide) rfl (by decide) (c25 H locs lsC hPG hPM hS hl)
    · exact lv_tableIn (tgt := 959) hx hb (zdl zlwk_h rfl) (by decide) (by decide) rfl (by decide) (c26 H locs lsC hPG hPM hS hl)
    · exact lv_tableIn (tgt := 972) hx hb (zdl zlwk_h rfl) (by decide) (by decide) rfl (by decide) (c27 H locs lsC hPG hPM hS hl)
    · exact lv_tableIn (tgt := 985) hx hb (zdl zlwk_h rfl) (by decide) (by decide) rfl (by decide) (c28 H locs lsC hPG hPM hS hl)
    · exact lv_tableIn (tgt := 1008) hx hb (zdl zlwk_h rfl) (by decide) (by decide) rfl (by decide) (c29 H locs lsC hPG hPM hS hl)
    · exact lv_tableIn (tgt := 1051) hx hb (zdl zlwk_h rfl) (by decide) (by decide) rfl (by decide) (c30 H locs lsC hPG hPM hS hl)
    · exact lv_tableIn (tgt := 1074) hx hb (zdl zlwk_h rfl) (by decide) (by decide) rfl (by decide) (c31 H locs lsC hPG hPM hS hl)
    · exact lv_tableIn (tgt := 1107) hx hb (zdl zlwk_h rfl) (by decide) (by decide) rfl (by decide) (c32 H locs lsC hPG hPM hS hl)
    · exact lv_tableIn (tgt := 1150) hx hb (zdl zlwk_h rfl) (by decide) (by decide) rfl (by decide) (c33 H locs lsC hPG hPM hS hl)
    · exact lv_tableIn (tgt := 1223) hx hb (zdl zlwk_h rfl) (by decide) (by decide) rfl (by decide) (c34 H locs lsC hPG hPM hS hl)
    · exact lv_tableIn (tgt := 1257) hx hb (zdl zlwk_h rfl) (by decide) (by decide) rfl (by decide) (c35 H locs lsC hPG hPM hS hl)
    · exact lv_tableIn (tgt := 1320) hx hb (zdl zlwk_h rfl) (by decide) (by decide) rfl (by decide) (c36 H locs lsC hPG hPM hS hl)
    · exact lv_tableIn (tgt := 1353) hx hb (zdl zlwk_h rfl) (by decide) (by decide) rfl (by decide) (c37 H locs lsC hPG hPM hS hl)
theorem law_loop {Y : zLx} (C : zLc Y) : ∀ (k i : Nat) (s t : zSt), yL Y ≤ i + k → i ≤ yL Y → yR s t → zLA Y 18 (lsi Y i) [] s t := by
  intro k
  induction k with
  | zero =>
    intro i s t h1 h2 h
    exact law_exit C (by omega) h2 s t
  | succ k ih =>
    intro i s t h1 h2 h
    by_cases hi : i + 6 ≤ yL Y
    · refine law_body C hi h (fun s' t' h' => ?_)
      have N := ih (i + 6) s' t' (by omega) hi h'
      obtain ⟨p, l, e, s0, m, below, meth, c, b, L, xs, D, cA, aG, aM⟩ := Y
      obtain ⟨⟨hx, hb, hr, hml, hown, hts, hX, hbl, hlo, hgv⟩, hL, -⟩ := C
      intro H locs lsC hPG hPM hS hl
      refine lv_iinc (v := nI (i + 6)) (lv' := lsi (p, l, e, s0, m, below, meth, c, b, L, xs, D, cA, aG, aM) (i + 6)) hx hb (zdl zlwk_t rfl) hl (k := 0) rfl (nI_add i 6) (by decide) rfl (fun ls hl => ?_)
      refine lv_goto (tgt := 18) hx hb (zdl zlwk_t rfl) (by decide) ?_
      exact N H locs ls hPG hPM hS hl
    · exact law_exit C hi h2 s t
