/-! LAWS 2: what a law is worth -/
theorem q_n1 (n : Nat) : nI (n + 1) + (-1) = nI n := by
  rw [← nI_pred n, Int32.sub_eq_add_neg]
/-- one step of the stack machine -/
def vOne (R : List Int32 → Int32) (names : Nat → Int32) (S : List Int32) (x : Int32) : Int32 :=
  if 0 ≤ x then R (x :: S) else if -9 ≤ x then R (names (-1 - x).toNatClampNeg :: S)
  else if x = -59 then (match S with
      | v :: _ => v
      | [] => R [])
  else if x = -63 then (match S with
      | v :: c :: _ => if c = 0 then R [] else v
      | _ => R [])
  else if x = -33 then (match S with
      | v :: S => R ((if v = 0 then 1 else 0) :: S)
      | [] => R [])
  else if x = -126 then (match S with
      | v :: S => R (-v :: S)
      | [] => R [])
  else (match S with
      | b :: a :: S => R (vBin (-x) a b :: S)
      | S => R S)
theorem vRun_s (names steps : Nat → Int32) (m i : Nat) (S : List Int32) : vRun names steps (m + 1) i S = vOne (fun S => vRun names steps m (i + 1) S) names S (steps i) := rfl
theorem worth_loop {s : zSt} {o k : Nat} (hk : k ≤ 121) (hl : s.1 o 2 = nI k) (ho : o + 2 ≠ 23) : ∀ (m i F : Nat) (f : Nat → Int32) (S : List Int32), i + m = k → m < F → S.length ≤ i → zStk f S →
    ∃ f', f_lw_worth_4 o F (nI S.length) (nI i) (zcO s o f) = some (vRun (s.1 23) (s.1 (o + 1)) m i S, zcO s o f') := by
  intro m
  induction m with
  | zero =>
    intro i F f S hi hF hS hst
    obtain ⟨F, rfl⟩ : ∃ x, F = x + 1 := ⟨F - 1, by omega⟩
    have ei : i = k := by omega
    subst ei
    refine ⟨f, ?_⟩
    unfold f_lw_worth_4
    rw [zcO_n s o f (show o ≠ o + 2 by omega), hl, if_pos (nI_le (Nat.le_refl _) (by omega))]
    rfl
  | succ m ih =>
    intro i F f S hi hF hS hst
    obtain ⟨F, rfl⟩ : ∃ x, F = x + 1 := ⟨F - 1, by omega⟩
    have hx1 : zld (zcO s o f) (o + 1) 121 (nI i) = some (s.1 (o + 1) i) := by
      rw [zld_at (show i < 121 by omega) (by omega), zcO_n s o f (show o + 1 ≠ o + 2 by omega)]
    have h0 : f_lw_worth_4 o (F + 1) (nI S.length) (nI i) (zcO s o f) = (fun x1 => if 0 ≤ x1 then f_lw_worth_44 o (f_lw_worth_4 o F) (nI S.length) (nI i) x1 ((-1) - x1) (zcO s o f) else if 9 ≤ ((-1) - x1) then (f_lw_isLineThatCounts o x1 (nI S.length) (zcO s o f)).bind fun x2 => if x2.1 = 0 then if x1 = (-59) then (f_lw_worth_4 o F) (0) (nI i + 1) x2.2 else if x1 = (-63) then (f_lw_worth_4 o F) (0) (nI i + 1) x2.2 else if nI S.length ≤ 0 then f_lw_worth_146 o (f_lw_worth_4 o F) (nI S.length) (nI i) x1 x2.2 else if x1 = (-33) then (zld x2.2 (o + 2) 121 (nI S.length - 1)).bind fun x3 => if x3 = 0 then (zst x2.2 (o + 2) 121 (nI S.length - 1) 1).bind fun s4 => (f_lw_worth_4 o F) (nI S.length) (nI i + 1) s4 else (zst x2.2 (o + 2) 121 (nI S.length - 1) 0).bind fun s5 => (f_lw_worth_4 o F) (nI S.length) (nI i + 1) s5 else f_lw_worth_146 o (f_lw_worth_4 o F) (nI S.length) (nI i) x1 x2.2 else (zld x2.2 (o + 2) 121 (nI S.length - 1)).bind fun x6 => some (x6, x2.2) else f_lw_worth_44 o (f_lw_worth_4 o F) (nI S.length) (nI i) x1 ((-1) - x1) (zcO s o f)) (s.1 (o + 1) i) := by
      conv => lhs; unfold f_lw_worth_4
      rw [zcO_n s o f (show o ≠ o + 2 by omega), hl, if_neg (nI_ge (by omega) (by omega)), if_neg (show ¬ (121 : Int32) ≤ nI S.length from nI_ge (b := 121) (by omega) (by omega)), hx1, Option.bind_some]
    have hv0 := vRun_s (s.1 23) (s.1 (o + 1)) m i S
    rw [h0, hv0]
    generalize s.1 (o + 1) i = x
    dsimp only
    clear h0 hv0 hx1
    unfold vOne
    have push : ∀ w : Int32, ∃ f', f_lw_worth_4 o F (nI S.length + 1) (nI i + 1) (zcO s o (upd f S.length w)) = some (vRun (s.1 23) (s.1 (o + 1)) m (i + 1) (w :: S), zcO s o f') := by
      intro w
      have := ih (i + 1) F (upd f S.length w) (w :: S) (by omega) (by omega) (by show S.length + 1 ≤ i + 1; omega) (zStk_push rfl hst)
      rw [nI_1, nI_1]
      exact this
    have empty : ∃ f', f_lw_worth_4 o F 0 (nI i + 1) (zcO s o f) = some (vRun (s.1 23) (s.1 (o + 1)) m (i + 1) [], zcO s o f') := by
      have := ih (i + 1) F f [] (by omega) (by omega) (by show 0 ≤ i + 1; omega) trivial
      rw [nI_1]
      exact this
    by_cases c0 : 0 ≤ x
    · rw [if_pos c0, if_pos c0]
      unfold f_lw_worth_44
      rw [if_neg (by rw [q_lt]; rw [q_le] at c0; rw [l0] at *; omega), zst_at (show S.length < 121 by omega) (by omega), Option.bind_some, zcO_w]
      exact push x
    · rw [if_neg c0, if_neg c0]
      have xneg : x.toInt < 0 := by rw [q_le, l0] at c0; omega
      have rx := q_rng x
      have e1 : ((-1) - x : Int32).toInt = -1 - x.toInt := by
        rw [q_subI (by rw [show (-1 : Int32).toInt = -1 from rfl]; omega) (by rw [show (-1 : Int32).toInt = -1 from rfl]; omega), show (-1 : Int32).toInt = -1 from rfl]
      by_cases c9 : -9 ≤ x
      · have h9 : -9 ≤ x.toInt := by rw [q_le, show (-9 : Int32).toInt = -9 from rfl] at c9; exact c9
        rw [if_neg (by rw [q_le, e1, l9]; omega), if_pos c9]
        obtain ⟨j, hj, ej⟩ := q_ix (x := (-1) - x) (n := 8) (by rw [e1]; omega)
        unfold f_lw_worth_44
        rw [if_pos (by rw [q_lt, l0]; exact xneg), ej, zld_at (show j < 9 by omega) (by omega), Option.bind_some, zst_at (show S.length < 121 by omega) (by omega), Option.bind_some, zcO_w, zcO_n s o f (show 23 ≠ o + 2 by omega), nI_clamp (by omega)]
        exact push _
      · have h9 : x.toInt < -9 := by rw [q_le, show (-9 : Int32).toInt = -9 from rfl] at c9; omega
        rw [if_pos (by rw [q_le, e1, l9]; omega), if_neg c9]
        match S, hS, hst, push with
        | [], hS, hst, push =>
          have hcnt : f_lw_isLineThatCounts o x (nI ([] : List Int32).length) (zcO s o f) = some (0, zcO s o f) := by
            unfold f_lw_isLineThatCounts
            by_cases z1 : x = -59
            · rw [if_pos z1, if_pos (by decide)]
            · rw [if_neg z1]
              by_cases z2 : x = -63
              · rw [if_pos z2, if_pos (by decide)]
              · rw [if_neg z2]
          have h146 : f_lw_worth_146 o (f_lw_worth_4 o F) (nI ([] : List Int32).length) (nI i) x (zcO s o f) = f_lw_worth_4 o F 0 (nI i + 1) (zcO s o f) := by
            unfold f_lw_worth_146
            rw [if_pos (by decide)]
            unfold f_lw_worth_177
            rw [if_pos (by decide)]
            rfl
          rw [hcnt, Option.bind_some]
          dsimp only
          rw [if_pos rfl, if_pos (show nI ([] : List Int32).length ≤ 0 by decide), h146]
          by_cases z1 : x = -59
          · rw [if_pos z1, if_pos z1]; exact empty
          · rw [if_neg z1, if_neg z1]
            by_cases z2 : x = -63
            · rw [if_pos z2, if_pos z2]; exact empty
            · rw [if_neg z2, if_neg z2]
              by_cases z3 : x = -33
              · rw [if_pos z3]; exact empty
              · rw [if_neg z3]
                by_cases z4 : x = -126
                · rw [if_pos z4]; exact empty
                · rw [if_neg z4]; exact empty
        | b :: T, hS, hst, push =>
          have hd : (b :: T).length = T.length + 1 := rfl
          have hTi : T.length + 1 ≤ i := hS
          have hd1 : nI (b :: T).length - 1 = nI T.length := nI_pred _
          have hpos : ¬ nI (b :: T).length ≤ 0 := nI_nle (by omega) (by omega)
          have htop : zld (zcO s o f) (o + 2) 121 (nI T.length) = some b := by
            rw [zld_at (show T.length < 121 by omega) (by omega), zcO_s, hst.1]
          have setTop : ∀ w : Int32, ∃ f', ((zst (zcO s o f) (o + 2) 121 (nI T.length) w).bind fun s4 => f_lw_worth_4 o F (nI (b :: T).length) (nI i + 1) s4) = some (vRun (s.1 23) (s.1 (o + 1)) m (i + 1) (w :: T), zcO s o f') := by
            intro w
            rw [zst_at (show T.length < 121 by omega) (by omega), Option.bind_some, zcO_w, nI_1]
            exact ih (i + 1) F (upd f T.length w) (w :: T) (by omega) (by omega) (by show T.length + 1 ≤ i + 1; omega) (zStk_push rfl hst.2)
          by_cases z1 : x = -59
          · have hcnt : f_lw_isLineThatCounts o x (nI (b :: T).length) (zcO s o f) = some (1, zcO s o f) := by
              unfold f_lw_isLineThatCounts
              rw [if_pos z1, if_neg hpos]
            rw [hcnt, Option.bind_some]
            dsimp only
            rw [if_neg q_neg10', hd1, htop, Option.bind_some, if_pos z1]
            exact ⟨f, rfl⟩
          · by_cases z2 : x = -63
            · rw [if_neg z1, if_pos z2]
              match T, hst, hTi, hd1, htop with
              | [], hst, hTi, hd1, htop =>
                have hcnt : f_lw_isLineThatCounts o x (nI ([b] : List Int32).length) (zcO s o f) = some (0, zcO s o f) := by
                  unfold f_lw_isLineThatCounts
                  rw [if_neg z1, if_pos z2, if_pos (show nI ([b] : List Int32).length ≤ 1 from (by decide : nI 1 ≤ (1 : Int32)))]
                rw [hcnt, Option.bind_some]
                dsimp only
                rw [if_pos rfl, if_neg z1, if_pos z2]
                exact empty
              | a :: U, hst, hTi, hd1, htop =>
                have hTi' : U.length + 2 ≤ i := hTi
                have hsec : zld (zcO s o f) (o + 2) 121 (nI (b :: a :: U).length - 2) = some a := by
                  rw [show nI (b :: a :: U).length - 2 = nI U.length from pk_sub (a := U.length + 2) (b := 2) (by omega), zld_at (show U.length < 121 by omega) (by omega), zcO_s, hst.2.1]
                have hcnt : f_lw_isLineThatCounts o x (nI (b :: a :: U).length) (zcO s o f) = if a = 0 then some (0, zcO s o f) else some (1, zcO s o f) := by
                  unfold f_lw_isLineThatCounts
                  rw [if_neg z1, if_pos z2, if_neg (show ¬ nI (b :: a :: U).length ≤ (1 : Int32) from nI_ge (a := 1) (b := U.length + 2) (by omega) (by omega)), hsec, Option.bind_some]
                rw [hcnt]
                dsimp only
                by_cases za : a = 0
                · rw [if_pos za, if_pos za, Option.bind_some]
                  dsimp only
                  rw [if_pos rfl, if_neg z1, if_pos z2]
                  exact empty
                · rw [if_neg za, if_neg za, Option.bind_some]
                  dsimp only
                  rw [if_neg q_neg10', hd1, htop, Option.bind_some]
                  exact ⟨f, rfl⟩
            · have hcnt : f_lw_isLineThatCounts o x (nI (b :: T).length) (zcO s o f) = some (0, zcO s o f) := by
                unfold f_lw_isLineThatCounts
                rw [if_neg z1, if_neg z2]
              rw [hcnt, Option.bind_some]
              dsimp only
              rw [if_pos rfl, if_neg z1, if_neg z2, if_neg z1, if_neg z2, if_neg hpos]
              by_cases z3 : x = -33
              · rw [if_pos z3, if_pos z3, hd1, htop, Option.bind_some]
                by_cases zb : b = 0
                · rw [if_pos zb, if_pos zb]; exact setTop 1
                · rw [if_neg zb, if_neg zb]; exact setTop 0
              · rw [if_neg z3, if_neg z3]
                unfold f_lw_worth_146
                rw [if_neg hpos]
                by_cases z4 : x = -126
                · rw [if_pos z4, if_pos z4, hd1, htop, Option.bind_some]; exact setTop (-b)
                · rw [if_neg z4, if_neg z4]
                  unfold f_lw_worth_177
                  match T, hst, hTi, hd1, htop with
                  | [], hst, hTi, hd1, htop =>
                    rw [if_pos (show nI ([b] : List Int32).length ≤ 1 from (by decide : nI 1 ≤ (1 : Int32))), nI_1]
                    exact ih (i + 1) F f [b] (by omega) (by omega) (by show 1 ≤ i + 1; omega) hst
                  | a :: U, hst, hTi, hd1, htop =>
                    have hTi' : U.length + 2 ≤ i := hTi
                    rw [if_neg (show ¬ nI (b :: a :: U).length ≤ (1 : Int32) from nI_ge (a := 1) (b := U.length + 2) (by omega) (by omega)), show nI (b :: a :: U).length - 2 = nI U.length from pk_sub (a := U.length + 2) (b := 2) (by omega), zld_at (show U.length < 121 by omega) (by omega), Option.bind_some, hd1, htop, Option.bind_some, p_joined, Option.bind_some]
                    dsimp only
                    rw [zst_at (show U.length < 121 by omega) (by omega), Option.bind_some, zcO_w, zcO_s, hst.2.1, nI_1, show nI (b :: a :: U).length + (-1) = nI (U.length + 1) from q_n1 (U.length + 1)]
                    exact ih (i + 1) F (upd f U.length (vBin (-x) a b)) (vBin (-x) a b :: U) (by omega) (by omega) (by show U.length + 1 ≤ i + 1; omega) (zStk_push rfl hst.2.2)
