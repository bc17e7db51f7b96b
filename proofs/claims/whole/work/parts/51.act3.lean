/-! OPS 21: act, shares, sells, tells -/
theorem ar_sr0 {c0 d F F' : Nat} (hd : d ≤ 40) : ∀ c, (c = 0 ∨ c = 1 ∨ c = 2 ∨ c = 6) → yAr c0 1 (fun x => F_gl (F + 1) (nI c) (nI 2) x (nI d)) (fun x => F_sr (F' + 1) (nI c) x) := by
  intro c h
  rcases h with rfl | rfl | rfl | rfl <;> exact ar_step (a := 2) (v := 11) (ab := -1) (by omega) (by omega) hd rfl rfl (B := fun x t => some (x ^^^ t.1 0 46, t)) (fun x t => rfl) (ar_xor _ _ _ _)
theorem ar_sr {c0 d F F' : Nat} (hc0 : c0 < 8) (hd : d ≤ 38) : ∀ c, c < 8 → yAr c0 4 (fun x => F_gl (F + 3) (nI c) (nI 2) x (nI d)) (fun x => F_sr (F' + 2) (nI c) x) := by
  intro c hc
  have ow : ∀ c, (c = 0 ∨ c = 1 ∨ c = 2 ∨ c = 6) → yAr c0 4 (fun x => F_gl (F + 3) (nI c) (nI 2) x (nI d)) (fun x => F_sr (F' + 2) (nI c) x) :=
    fun c h => yAr_le (ar_sr0 (F := F + 2) (F' := F' + 1) (by omega) c h) (by omega)
  have dr : ∀ c, (c = 3 ∨ c = 5) → yAr c0 4 (fun x => F_gl (F + 3) (nI c) (nI 2) x (nI d)) (fun x => F_sr (F' + 2) (nI c) x) := by
    intro c h
    have hb := ar_one (fun x => x) (fun r => r * 3) (ar_sr0 (c0 := c0) (d := d + 1) (F := F + 1) (F' := F') (by omega) 2 (by omega))
    rcases h with rfl | rfl <;> exact yAr_le (ar_step (a := 2) (v := 40) (ab := 2) (by omega) (by omega) (by omega) rfl rfl (B := fun x t => (F_sr (F' + 1) (nI 2) x t).bind fun r => some (r.1 * 3, r.2)) (fun x t => rfl) hb) (by omega)
  have gi : ∀ c, (c = 4 ∨ c = 7) → yAr c0 4 (fun x => F_gl (F + 3) (nI c) (nI 2) x (nI d)) (fun x => F_sr (F' + 2) (nI c) x) := by
    intro c h
    have hb := ar_two (gk := f_m_makesAs) 2 (fun r q => r - q) (ar_sr0 (c0 := c0) (d := d + 1) (F := F + 1) (F' := F') (by omega) 1 (by omega)) (ar_mk (c0 := c0) (d := d + 1) (F := F) (F' := 18) (by omega) c0 hc0)
    rcases h with rfl | rfl <;> exact yAr_le (ar_step (a := 2) (v := 50) (ab := 1) (by omega) (by omega) (by omega) rfl rfl (B := fun x t => (F_sr (F' + 1) (nI 1) x t).bind fun r => (f_m_makesAs (r.2.1 0 45) 2 r.2).bind fun q => some (r.1 - q.1, q.2)) (fun x t => rfl) hb) (by omega)
  have hc' : c = 0 ∨ c = 1 ∨ c = 2 ∨ c = 3 ∨ c = 4 ∨ c = 5 ∨ c = 6 ∨ c = 7 := by omega
  rcases hc' with rfl | rfl | rfl | rfl | rfl | rfl | rfl | rfl
  · exact ow 0 (by omega)
  · exact ow 1 (by omega)
  · exact ow 2 (by omega)
  · exact dr 3 (by omega)
  · exact gi 4 (by omega)
  · exact dr 5 (by omega)
  · exact ow 6 (by omega)
  · exact gi 7 (by omega)
theorem ar_sl0 {c0 d F F' : Nat} (hc0 : c0 < 8) (hd : d ≤ 38) : ∀ c, (c = 0 ∨ c = 1 ∨ c = 4 ∨ c = 6) → yAr c0 3 (fun x => F_gl (F + 3) (nI c) (nI 1) x (nI d)) (fun x => F_sl (F' + 1) (nI c) x) := by
  intro c h
  have hb := ar_oneK (gk := f_m_makesAs) (fun r => r * 2) (ar_mk (c0 := c0) (d := d + 1) (F := F) (F' := 18) (by omega) c0 hc0)
  rcases h with rfl | rfl | rfl | rfl <;> exact ar_step (a := 1) (v := 10) (ab := -1) (by omega) (by omega) (by omega) rfl rfl (B := fun x t => (f_m_makesAs (t.1 0 45) x t).bind fun r => some (r.1 * 2, r.2)) (fun x t => rfl) hb
theorem ar_sl2 {c0 d F F' : Nat} (hc0 : c0 < 8) (hd : d ≤ 37) : yAr c0 4 (fun x => F_gl (F + 4) (nI 2) (nI 1) x (nI d)) (fun x => F_sl (F' + 2) (nI 2) x) :=
  ar_step (c := 2) (a := 1) (v := 30) (ab := 0) (by omega) (by omega) (by omega) rfl rfl (B := fun x t => (F_sl (F' + 1) (nI 0) x t).bind fun r => some (-r.1, r.2)) (fun x t => rfl) (ar_one (fun x => x) (fun r => -r) (ar_sl0 (c0 := c0) (d := d + 1) (F := F) (F' := F') hc0 (by omega) 0 (by omega)))
theorem ar_sl {c0 d F F' : Nat} (hc0 : c0 < 8) (hd : d ≤ 36) : ∀ c, c < 8 → yAr c0 8 (fun x => F_gl (F + 5) (nI c) (nI 1) x (nI d)) (fun x => F_sl (F' + 3) (nI c) x) := by
  intro c hc
  have ow : ∀ c, (c = 0 ∨ c = 1 ∨ c = 4 ∨ c = 6) → yAr c0 8 (fun x => F_gl (F + 5) (nI c) (nI 1) x (nI d)) (fun x => F_sl (F' + 3) (nI c) x) :=
    fun c h => yAr_le (ar_sl0 (F := F + 2) (F' := F' + 2) hc0 (by omega) c h) (by omega)
  have sp : ∀ c, (c = 3 ∨ c = 5) → yAr c0 8 (fun x => F_gl (F + 5) (nI c) (nI 1) x (nI d)) (fun x => F_sl (F' + 3) (nI c) x) := by
    intro c h
    have hb := ar_one (fun x => x + 1) (fun r => r) (ar_sl2 (c0 := c0) (d := d + 1) (F := F) (F' := F') hc0 (by omega))
    rcases h with rfl | rfl <;> exact yAr_le (ar_step (a := 1) (v := 41) (ab := 2) (by omega) (by omega) (by omega) rfl rfl (B := fun x t => (F_sl (F' + 2) (nI 2) (x + 1) t).bind fun r => some (r.1, r.2)) (fun x t => rfl) hb) (by omega)
  have hc' : c = 0 ∨ c = 1 ∨ c = 2 ∨ c = 3 ∨ c = 4 ∨ c = 5 ∨ c = 6 ∨ c = 7 := by omega
  rcases hc' with rfl | rfl | rfl | rfl | rfl | rfl | rfl | rfl
  · exact ow 0 (by omega)
  · exact ow 1 (by omega)
  · exact yAr_le (ar_sl2 (F := F + 1) (F' := F' + 1) hc0 (by omega)) (by omega)
  · exact sp 3 (by omega)
  · exact ow 4 (by omega)
  · exact sp 5 (by omega)
  · exact ow 6 (by omega)
  · exact ar_step (c := 7) (a := 1) (v := 80) (ab := 4) (by omega) (by omega) (by omega) rfl rfl (B := fun x t => (F_sl (F' + 2) (nI 4) x t).bind fun r => (f_m_sharesAs (r.2.1 0 45) 2 r.2).bind fun q => some (r.1 + q.1, q.2)) (fun x t => rfl)
      (ar_two (gk := f_m_sharesAs) 2 (fun r q => r + q) (ar_sl0 (c0 := c0) (d := d + 1) (F := F + 1) (F' := F' + 1) hc0 (by omega) 4 (by omega)) (ar_sr (c0 := c0) (d := d + 1) (F := F + 1) (F' := 18) hc0 (by omega) c0 hc0))
theorem ar_tl0 {c0 d F F' : Nat} (hc0 : c0 < 8) (hd : d ≤ 35) : ∀ c, (c = 0 ∨ c = 1 ∨ c = 2 ∨ c = 3 ∨ c = 4 ∨ c = 6) → yAr c0 13 (fun x => F_gl (F + 6) (nI c) (nI 3) x (nI d)) (fun x => F_tl (F' + 1) (nI c) x) := by
  intro c h
  have hb := ar_twoK (gk' := f_m_sellsAs) (gk := f_m_sharesAs) 1 (fun r q => r - q) (ar_sl (c0 := c0) (d := d + 1) (F := F) (F' := 17) hc0 (by omega) c0 hc0) (ar_sr (c0 := c0) (d := d + 1) (F := F + 2) (F' := 18) hc0 (by omega) c0 hc0)
  rcases h with rfl | rfl | rfl | rfl | rfl | rfl <;> exact ar_step (a := 3) (v := 2) (ab := -1) (by omega) (by omega) (by omega) rfl rfl (B := fun x t => (f_m_sellsAs (t.1 0 45) x t).bind fun r => (f_m_sharesAs (r.2.1 0 45) 1 r.2).bind fun q => some (r.1 - q.1, q.2)) (fun x t => rfl) hb
theorem ar_tl {c0 d F F' : Nat} (hc0 : c0 < 8) (hd : d ≤ 34) : ∀ c, c < 8 → yAr c0 14 (fun x => F_gl (F + 7) (nI c) (nI 3) x (nI d)) (fun x => F_tl (F' + 2) (nI c) x) := by
  intro c hc
  have ow : ∀ c, (c = 0 ∨ c = 1 ∨ c = 2 ∨ c = 3 ∨ c = 4 ∨ c = 6) → yAr c0 14 (fun x => F_gl (F + 7) (nI c) (nI 3) x (nI d)) (fun x => F_tl (F' + 2) (nI c) x) :=
    fun c h => yAr_le (ar_tl0 (F := F + 1) (F' := F' + 1) hc0 (by omega) c h) (by omega)
  have hc' : c = 0 ∨ c = 1 ∨ c = 2 ∨ c = 3 ∨ c = 4 ∨ c = 5 ∨ c = 6 ∨ c = 7 := by omega
  rcases hc' with rfl | rfl | rfl | rfl | rfl | rfl | rfl | rfl
  · exact ow 0 (by omega)
  · exact ow 1 (by omega)
  · exact ow 2 (by omega)
  · exact ow 3 (by omega)
  · exact ow 4 (by omega)
  · exact ar_step (c := 5) (a := 3) (v := 60) (ab := 3) (by omega) (by omega) (by omega) rfl rfl (B := fun x t => (F_tl (F' + 1) (nI 3) x t).bind fun r => some (r.1 ^^^ 5, r.2)) (fun x t => rfl) (ar_one (fun x => x) (fun r => r ^^^ 5) (ar_tl0 (c0 := c0) (d := d + 1) (F := F) (F' := F') hc0 (by omega) 3 (by omega)))
  · exact ow 6 (by omega)
  · exact ar_step (c := 7) (a := 3) (v := 81) (ab := 4) (by omega) (by omega) (by omega) rfl rfl (B := fun x t => (F_tl (F' + 1) (nI 4) x t).bind fun r => some (r.1 - 1, r.2)) (fun x t => rfl) (ar_one (fun x => x) (fun r => r - 1) (ar_tl0 (c0 := c0) (d := d + 1) (F := F) (F' := F') hc0 (by omega) 4 (by omega)))
theorem op_act {s t : zSt} (h : yR s t) (a k x : Int32) : yOp (f_g_act a k x) (f_m_act a k x) s t := by
  obtain ⟨h1, h2, h3, h4, h5, h6, h7, h8, h9, ⟨⟨n, hn, e1, e2, g⟩, gb⟩, h11⟩ := id h
  have hR : yR (zw s 36 3 0) (zw t 0 44 0) := ⟨h1, h2, h3, h4, h5, h6, h7, h8, h9, ⟨⟨n, hn, e1, e2, g⟩, 0, by omega, rfl, rfl, fun j hj => absurd hj (by omega)⟩, h11⟩
  have hG : f_g_act a k x s = (f_gl_enact a k x s).bind fun x1 => some (x1.1, x1.2) := rfl
  by_cases ha : 0 ≤ a.toInt ∧ a.toInt < (n : Int)
  · obtain ⟨w, hw, rfl⟩ := q_ixl ha
    obtain ⟨c1, c, hc, c3⟩ := g w hw
    have hzt : zld (zw t 0 44 0) 24 50 (nI w) = some (nI c) := by
      rw [zld_at (show w < 50 by omega) (by omega)]
      congr 1
    by_cases hk : 0 ≤ k.toInt ∧ k.toInt ≤ 3
    · obtain ⟨a, ha4, rfl⟩ := q_ix (x := k) (n := 3) hk
      have hA : yAc c 0 (zw (zw s 36 3 0) 36 4 (nI w)) (zw (zw (zw t 0 44 0) 0 45 (nI c)) 0 46 (nI w)) :=
        ⟨⟨h1, h2, h3, h4, h5, h6, h7, h8, h9, ⟨⟨n, hn, e1, e2, g⟩, 0, by omega, rfl, rfl, fun j hj => absurd hj (by omega)⟩, h11⟩, rfl, rfl, ⟨w, by omega, rfl, rfl, c1.trans c3⟩, rfl⟩
      have hG2 : f_gl_enact (nI w) (nI a) x s = (F_gl 60 (nI c) (nI a) x (nI 0) (zw (zw s 36 3 0) 36 4 (nI w))).bind fun x4 => some (x4.1, x4.2) := by
        unfold f_gl_enact
        rw [p_hasB hn (show (zw s 36 3 0).1 36 1 = nI n from e1), Option.bind_some, q01_t ha, if_neg q_neg10', p_isWithin, Option.bind_some, l0, l3, q01_t hk, if_neg q_neg10']
        dsimp only
        rw [zld_at (show w < 50 by omega) (by omega), Option.bind_some]
        have : (zw (zw s 36 3 0) 36 4 (nI w)).1 37 w = nI c := c1.trans c3
        rw [this]
        rfl
      have hM2 : f_m_act (nI w) (nI a) x t = if nI a = 0 then (f_m_makesAs (nI c) x (zw (zw (zw t 0 44 0) 0 45 (nI c)) 0 46 (nI w))).bind fun x3 => some (x3.1, x3.2) else if nI a = 1 then (f_m_sellsAs (nI c) x (zw (zw (zw t 0 44 0) 0 45 (nI c)) 0 46 (nI w))).bind fun x3 => some (x3.1, x3.2) else if nI a = 2 then (f_m_sharesAs (nI c) x (zw (zw (zw t 0 44 0) 0 45 (nI c)) 0 46 (nI w))).bind fun x3 => some (x3.1, x3.2) else if nI a = 3 then (f_m_tellsAs (nI c) x (zw (zw (zw t 0 44 0) 0 45 (nI c)) 0 46 (nI w))).bind fun x3 => some (x3.1, x3.2) else none := by
        unfold f_m_act
        rw [p_isB hn (show (zw t 0 44 0).1 0 41 = nI n from e2), Option.bind_some, q01_t ha, if_neg q_neg10']
        dsimp only
        rw [hzt, Option.bind_some, if_neg (by omega)]
        rfl
      have fin : ∀ {k : Nat} {g : Int32 → zSt → Option (Int32 × zSt)}, k ≤ 1000 → yAr c k (fun x => F_gl 60 (nI c) (nI a) x (nI 0)) g → f_m_act (nI w) (nI a) x t = (g x (zw (zw (zw t 0 44 0) 0 45 (nI c)) 0 46 (nI w))).bind (fun x3 => some (x3.1, x3.2)) → yOp (f_g_act (nI w) (nI a) x) (f_m_act (nI w) (nI a) x) s t := by
        intro k g hk2 hr hm
        obtain ⟨r, s', t', b', i1, i2, i3, i4⟩ := hr x _ _ 0 hA (by omega)
        refine ⟨r, s', t', ?_, ?_, i4.1⟩
        · have i2' : F_gl 60 (nI c) (nI a) x (nI 0) (zw (zw s 36 3 0) 36 4 (nI w)) = some (r, s') := i2
          rw [hG, hG2, i2', Option.bind_some, Option.bind_some]
        · rw [hm, i3, Option.bind_some]
      have ha' : a = 0 ∨ a = 1 ∨ a = 2 ∨ a = 3 := by omega
      rcases ha' with rfl | rfl | rfl | rfl
      · rw [if_pos (by rfl)] at hM2
        exact fin (by omega) (ar_mk (c0 := c) (d := 0) (F := 58) (F' := 18) (by omega) c hc) hM2
      · rw [if_neg (by decide), if_pos (by rfl)] at hM2
        exact fin (by omega) (ar_sl (c0 := c) (d := 0) (F := 55) (F' := 17) hc (by omega) c hc) hM2
      · rw [if_neg (by decide), if_neg (by decide), if_pos (by rfl)] at hM2
        exact fin (by omega) (ar_sr (c0 := c) (d := 0) (F := 57) (F' := 18) hc (by omega) c hc) hM2
      · rw [if_neg (by decide), if_neg (by decide), if_neg (by decide), if_pos (by rfl)] at hM2
        exact fin (by omega) (ar_tl (c0 := c) (d := 0) (F := 53) (F' := 18) hc (by omega) c hc) hM2
    · refine ⟨0, zw s 36 3 0, zw (zw (zw t 0 44 0) 0 45 (nI c)) 0 46 (nI w), ?_, ?_, hR⟩
      · rw [hG]
        unfold f_gl_enact
        rw [p_hasB hn (show (zw s 36 3 0).1 36 1 = nI n from e1), Option.bind_some, q01_t ha, if_neg q_neg10', p_isWithin, Option.bind_some, l0, l3, q01_f hk, if_pos rfl]
        rfl
      · unfold f_m_act
        rw [p_isB hn (show (zw t 0 44 0).1 0 41 = nI n from e2), Option.bind_some, q01_t ha, if_neg q_neg10']
        dsimp only
        rw [hzt, Option.bind_some, if_pos (by omega)]
  · refine ⟨0, zw s 36 3 0, zw t 0 44 0, ?_, ?_, hR⟩
    · rw [hG]
      unfold f_gl_enact
      rw [p_hasB hn (show (zw s 36 3 0).1 36 1 = nI n from e1), Option.bind_some, q01_f ha, if_pos rfl]
      rfl
    · unfold f_m_act
      rw [p_isB hn (show (zw t 0 44 0).1 0 41 = nI n from e2), Option.bind_some, q01_f ha, if_pos rfl]
