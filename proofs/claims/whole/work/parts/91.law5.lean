/-! THE LAW'S BODY 2b: the long argument of put -/
def yPv (a b : Int32) : Int64 := (a.toInt64 <<< ((32 : Int32).toInt64 &&& 63)) ||| (b.toInt64 &&& 4294967295)
theorem zlConst : Cond.constantLong R_law 150 4294967295 ∈ tables_1 := List.mem_of_getElem? (i := 1415) (by decide +kernel)
section ZLL
variable {Y : zLx} {pc : Nat} {st : List Value} {s t : zSt}
theorem zl_long (C : zLc Y) {i kk : Nat} {a : Int32} {n : Int} (hi : i + 6 ≤ yL Y) (hk5 : kk ≤ 5) (hn : Int32.ofInt n = nI kk) (g0 : decode code pc = .ok (.i2l, 1)) (g1 : decode code (pc + 1) = .ok (.bipush 32, 2)) (g2 : decode code (pc + 3) = .ok (.lshl, 1)) (h0 : decode code (pc + 4) = .ok (.aload_n 0, 1)) (h1 : decode code (pc + 4 + 1) = .ok (.iload_n 3, 1)) (h2 : decode code (pc + 4 + 2) = .ok (.iconst n, 1)) (h3 : decode code (pc + 4 + 3) = .ok (.iadd, 1)) (h4 : decode code (pc + 4 + 4) = .ok (.iaload, 1)) (g3 : decode code (pc + 9) = .ok (.i2l, 1)) (g4 : decode code (pc + 10) = .ok (.ldc2_w 150, 3)) (g5 : decode code (pc + 13) = .ok (.land, 1)) (g6 : decode code (pc + 14) = .ok (.lor, 1)) (k : zLA Y (pc + 15) (lsi Y i) (.long (yPv a (yXs Y (i + kk))) :: st) s t) : zLA Y pc (lsi Y i) (.int a :: st) s t := by
  have Z : zLA Y (pc + 4) (lsi Y i) (.long (a.toInt64 <<< ((32 : Int32).toInt64 &&& 63)) :: st) s t := by
    refine zl_arg (kk := kk) C hi hk5 hn h0 h1 h2 h3 h4 ?_
    obtain ⟨p, l, e, s0, m, below, meth, c, b, L, xs, D, cA, aG, aM⟩ := Y
    obtain ⟨⟨hx, hb, hr, hml, hown, hts, -⟩, -⟩ := C
    intro H locs lsC hPG hPM hS hl
    refine lv_i2l hx hb g3 rfl ?_
    refine lv_ldc2 hx hb hown (hts _ (List.mem_append_right _ zlConst)) g4 ?_
    refine lv_land hx hb g5 ?_
    refine lv_lor hx hb g6 ?_
    exact k H locs lsC hPG hPM hS hl
  obtain ⟨p, l, e, s0, m, below, meth, c, b, L, xs, D, cA, aG, aM⟩ := Y
  obtain ⟨⟨hx, hb, hr, hml, hown, hts, -⟩, -⟩ := C
  intro H locs lsC hPG hPM hS hl
  refine lv_i2l hx hb g0 rfl ?_
  refine lv_bipush (v := 32) hx hb g1 rfl ?_
  refine lv_lshl hx hb g2 rfl ?_
  exact Z H locs lsC hPG hPM hS hl
end ZLL
