/-! LAWS 4: taste and buys, the reference; the op -/
/-- the reference's state with its nine names set -/
def zNam (t : zSt) (q a v : Int32) (h : Int32) : zSt := zw (zw (zw (zw (zw (zw (zw (zw (zw t 11 0 (t.1 1 0)) 11 1 (t.1 1 1)) 11 2 (t.1 1 2)) 11 3 a) 11 4 h) 11 5 v) 11 6 (t.1 1 3)) 11 7 (t.1 1 4)) 11 8 q
theorem m_names {q : Nat} (hq : q < 32) (a v : Int32) (t : zSt) : f_m_namesAll (nI q) a v t = some (zNam t (nI q) a v (t.1 5 q)) := by
  have L : ∀ (s : zSt) (j : Nat), j < 8 → zld s 1 8 (nI j) = some (s.1 1 j) := fun s j hj => zld_at hj (by omega)
  have S : ∀ (s : zSt) (j : Nat) (w : Int32), j < 9 → zst s 11 9 (nI j) w = some (zw s 11 j w) := fun s j w hj => zst_at hj (by omega)
  unfold f_m_namesAll
  rw [show (0 : Int32) = nI 0 from rfl, show (1 : Int32) = nI 1 from rfl, show (2 : Int32) = nI 2 from rfl, show (3 : Int32) = nI 3 from rfl, show (4 : Int32) = nI 4 from rfl, show (5 : Int32) = nI 5 from rfl, show (6 : Int32) = nI 6 from rfl, show (7 : Int32) = nI 7 from rfl, show (8 : Int32) = nI 8 from rfl]
  rw [L _ 0 (by omega), Option.bind_some, S _ 0 _ (by omega), Option.bind_some, L _ 1 (by omega), Option.bind_some, S _ 1 _ (by omega), Option.bind_some, L _ 2 (by omega), Option.bind_some, S _ 2 _ (by omega), Option.bind_some, S _ 3 _ (by omega), Option.bind_some, zld_at hq (by omega), Option.bind_some, S _ 4 _ (by omega), Option.bind_some, S _ 5 _ (by omega), Option.bind_some, L _ 3 (by omega), Option.bind_some, S _ 6 _ (by omega), Option.bind_some, L _ 4 (by omega), Option.bind_some, S _ 7 _ (by omega), Option.bind_some, S _ 8 _ (by omega), Option.bind_some]
  rfl
theorem zNam_f (t : zSt) (q a v h : Int32) : yMf t (zNam t q a v h) :=
  ⟨rfl, fun x _ h1 => by simp only [zNam, zw_1, if_neg h1], fun j _ => rfl⟩
theorem zNam_n (t : zSt) (q a v h : Int32) : ∀ j, j < 9 → (zNam t q a v h).1 11 j = nmOf (t.1 1 0) (t.1 1 1) (t.1 1 2) a h v (t.1 1 3) (t.1 1 4) q j :=
  nm_of ⟨rfl, rfl, rfl, rfl, rfl, rfl, rfl, rfl, rfl⟩
theorem m_work {w : Nat} {len told : Int32} {steps : Nat → Int32} {t : zSt} (h : yRL1 w len told steps (t.1 10 w) (t.1 9)) (hn : ¬ t.1 10 w < 0) (q a v hh : Int32) : ∃ t', f_m_workOut (nI (120 * w)) (t.1 10 w) (zNam t q a v hh) = some (vRun (nmOf (t.1 1 0) (t.1 1 1) (t.1 1 2) a hh v (t.1 1 3) (t.1 1 4) q) steps len.toNatClampNeg 0 [], t') ∧ yMf t t' := by
  rcases h with ⟨-, h2⟩ | ⟨-, n, k, hn1, hn2, hk, hl, hw⟩
  · rw [h2] at hn; exact absurd (by decide) hn
  · obtain ⟨t', e1, e2, e3, e4⟩ := hw (zNam t q a v hh) (fun j hj => rfl)
    rw [hn2, e1, hl, nI_clamp (by omega), vRun_cg (zNam_n t q a v hh)]
    exact ⟨t', rfl, yMf_t (zNam_f t q a v hh) ⟨e3, fun x x1 _ => e2 x x1, e4⟩⟩
theorem yL_t {w : Nat} {len told : Int32} {steps : Nat → Int32} {many : Int32} {text : Nat → Int32} (h : yRL1 w len told steps many text) : (told = 0 ↔ many < 0) := by
  rcases h with ⟨h1, h2⟩ | ⟨h1, n, k, hn, h2, -⟩
  · rw [h1, h2]; exact ⟨fun _ => by decide, fun _ => rfl⟩
  · rw [h1, h2]; exact ⟨fun z => absurd z (by decide), fun z => absurd z (nI_pos (by omega))⟩
theorem m_tasteOf {s t : zSt} (h : yLw s t) {q : Nat} (hq : q < 32) (a : Int32) : ∃ t', f_m_tasteOf (nI q) a t = some (zTas s (nI q) (s.1 7 q) a, t') ∧ yMf t t' := by
  obtain ⟨⟨n0, n1, n2, n6, n7, n5⟩, hh, l0', l1'⟩ := h
  have Lz : ∀ (j : Nat), j < 8 → zld t 1 8 (nI j) = some (t.1 1 j) := fun j hj => zld_at hj (by omega)
  have L5 : zld t 1 8 5 = some (t.1 1 5) := Lz 5 (by omega)
  have L0 : zld t 1 8 0 = some (t.1 1 0) := Lz 0 (by omega)
  have L1 : zld t 1 8 1 = some (t.1 1 1) := Lz 1 (by omega)
  have L2 : zld t 1 8 2 = some (t.1 1 2) := Lz 2 (by omega)
  have L10 : ∀ t' : zSt, zld t' 10 2 0 = some (t'.1 10 0) := fun t' => zld_at (j := 0) (by omega) (by omega)
  unfold f_m_tasteOf zTas
  rw [L5, Option.bind_some, n5]
  by_cases c : a < t.1 1 5
  · rw [if_pos c, if_pos c, L0, Option.bind_some, L1, Option.bind_some, L2, Option.bind_some, L10, Option.bind_some]
    by_cases d : t.1 10 0 < 0
    · rw [if_pos d, if_pos ((yL_t l0').mpr d), m_held (by decide), Option.bind_some, n0, n1, n2]
      exact ⟨t, rfl, rfl, fun _ _ _ => rfl, fun _ _ => rfl⟩
    · obtain ⟨t', w1, w2⟩ := m_work l0' d (nI q) a 0 (t.1 5 q)
      rw [show nI (120 * 0) = (0 : Int32) from rfl] at w1
      rw [if_neg d, if_neg (fun z => d ((yL_t l0').mp z)), m_names hq, Option.bind_some, L10, Option.bind_some, show (zNam t (nI q) a 0 (t.1 5 q)).1 10 0 = t.1 10 0 from rfl, w1, Option.bind_some, m_held (by decide), Option.bind_some, n0, n1, n2, n6, n7, hh q hq]
      exact ⟨t', rfl, w2⟩
  · rw [if_neg c, if_neg c]
    exact ⟨t, rfl, rfl, fun _ _ _ => rfl, fun _ _ => rfl⟩
theorem m_buysOf {s t : zSt} (h : yLw s t) {q : Nat} (hq : q < 32) (a : Int32) : ∃ t', f_m_buysOf (nI q) a t = some (zBuy s (nI q) (s.1 7 q) a, t') ∧ yMf t t' := by
  obtain ⟨t1, e1, e2⟩ := m_tasteOf h hq a
  obtain ⟨⟨n0, n1, n2, n6, n7, n5⟩, hh, l0', l1'⟩ := h
  obtain ⟨f1, f2, f3⟩ := id e2
  have F1 := f2 1 (by omega) (by omega)
  have F5 := f2 5 (by omega) (by omega)
  have F10 := f2 10 (by omega) (by omega)
  have F9 := f2 9 (by omega) (by omega)
  have Lz : ∀ (j : Nat), j < 8 → zld t1 1 8 (nI j) = some (t1.1 1 j) := fun j hj => zld_at hj (by omega)
  have L3 : zld t1 1 8 3 = some (t1.1 1 3) := Lz 3 (by omega)
  have L4 : zld t1 1 8 4 = some (t1.1 1 4) := Lz 4 (by omega)
  have L10 : ∀ t' : zSt, zld t' 10 2 1 = some (t'.1 10 1) := fun t' => zld_at (j := 1) (by omega) (by omega)
  have LQ : zld t1 5 32 (nI q) = some (t1.1 5 q) := zld_at hq (by omega)
  unfold f_m_buysOf zBuy
  rw [e1, Option.bind_some]
  dsimp only
  rw [LQ, Option.bind_some, L3, Option.bind_some, L4, Option.bind_some, L10, Option.bind_some]
  have l1'' : yRL1 1 (s.1 20 2) (s.1 20 3) (s.1 21) (t1.1 10 1) (t1.1 9) := by rw [F10, F9]; exact l1'
  by_cases d : t1.1 10 1 < 0
  · rw [if_pos d, if_pos ((yL_t l1'').mpr d), m_held (by decide), Option.bind_some, F5, F1, hh q hq, n6, n7]
    exact ⟨t1, rfl, e2⟩
  · obtain ⟨t', w1, w2⟩ := m_work l1'' d (nI q) a (zTas s (nI q) (s.1 7 q) a) (t1.1 5 q)
    rw [show nI (120 * 1) = (120 : Int32) from rfl] at w1
    rw [if_neg d, if_neg (fun z => d ((yL_t l1'').mp z)), m_names hq, Option.bind_some, L10, Option.bind_some, show (zNam t1 (nI q) a (zTas s (nI q) (s.1 7 q) a) (t1.1 5 q)).1 10 1 = t1.1 10 1 from rfl, w1, Option.bind_some, m_held (by decide), Option.bind_some, F1, F5, n0, n1, n2, n6, n7, hh q hq]
    exact ⟨t', rfl, yMf_t e2 w2⟩
theorem g_buysOf {s : zSt} (hk : ¬ s.1 17 3 = 0 → ∃ k, k ≤ 121 ∧ s.1 17 2 = nI k) (hk2 : ¬ s.1 20 3 = 0 → ∃ k, k ≤ 121 ∧ s.1 20 2 = nI k) {q A : Nat} (hq : q < 32) (hA : A ≤ 32) (h : Int32) (hf : s.1 24 (q * 33 + A) = -1 ∨ s.1 24 (q * 33 + A) = zBuy s (nI q) h (nI A)) :
    ∃ s', f_ls_buysOf (nI q) h (nI A) s = some (zBuy s (nI q) h (nI A), s') ∧ yGf s s' ∧ (∀ j, s'.1 24 j = s.1 24 j ∨ (j = q * 33 + A ∧ s'.1 24 j = zBuy s (nI q) h (nI A))) := by
  have hix : nI q * 33 + nI A = nI (q * 33 + A) := by rw [show (33 : Int32) = nI 33 from rfl, pk_mul, nI_add]
  have LF : ∀ x : zSt, zld x 24 1056 (nI (q * 33 + A)) = some (x.1 24 (q * 33 + A)) := fun x => zld_at (by omega) (by omega)
  have SF : ∀ (x : zSt) (v : Int32), zst x 24 1056 (nI (q * 33 + A)) v = some (zw x 24 (q * 33 + A) v) := fun x v => zst_at (by omega) (by omega)
  have store : ∀ (x : zSt) (v : Int32), yGf s x → x.1 24 = s.1 24 → v = zBuy s (nI q) h (nI A) → ∃ s', ((zst x 24 1056 (nI (q * 33 + A)) v).bind fun s9 => (zld s9 24 1056 (nI (q * 33 + A))).bind fun x10 => some (x10, s9)) = some (zBuy s (nI q) h (nI A), s') ∧ yGf s s' ∧ (∀ j, s'.1 24 j = s.1 24 j ∨ (j = q * 33 + A ∧ s'.1 24 j = zBuy s (nI q) h (nI A))) := by
    intro x v hx hx24 hv
    rw [SF, Option.bind_some, LF, Option.bind_some, zw_v, hv]
    refine ⟨_, rfl, yGf_t hx ⟨rfl, fun y _ _ _ h4 => by simp only [zw_1, if_neg h4], rfl, rfl, rfl, rfl, rfl⟩, fun j => ?_⟩
    by_cases ej : j = q * 33 + A
    · exact Or.inr ⟨ej, by rw [ej, zw_v]⟩
    · left
      show upd (x.1 24) (q * 33 + A) _ j = _
      rw [q_updN ej, hx24]
  unfold f_ls_buysOf
  rw [p_gQ, Option.bind_some, q01_t (by rw [q_nI (by omega)]; omega), if_neg q_neg10', p_isWithin, Option.bind_some, l0, l32, q01_t (by rw [q_nI (by omega)]; omega), if_neg q_neg10']
  dsimp only
  rw [hix, LF, Option.bind_some]
  by_cases c : s.1 24 (q * 33 + A) = -1
  · rw [if_pos c]
    obtain ⟨s1, t1, t2, s24⟩ := g_tasteOf hk (nI q) h (nI A)
    rw [t1, Option.bind_some]
    dsimp only
    rw [g_look, Option.bind_some]
    have hLf := yGf_t t2 (zLk_f s1 (nI q) h (nI A) (zTas s (nI q) h (nI A)))
    have hb := zBuy_f t2 (nI q) h (nI A)
    have ht := zTas_f t2 (nI q) h (nI A)
    have z6 : zld (zLk s1 (nI q) h (nI A) (zTas s (nI q) h (nI A))) 23 9 6 = some (s1.1 23 6) := zld_at (j := 6) (by omega) (by omega)
    have z7 : zld (zLk s1 (nI q) h (nI A) (zTas s (nI q) h (nI A))) 23 9 7 = some (s1.1 23 7) := zld_at (j := 7) (by omega) (by omega)
    rw [z6, Option.bind_some, z7, Option.bind_some, show (zLk s1 (nI q) h (nI A) (zTas s (nI q) h (nI A))).1 20 3 = s1.1 20 3 from rfl]
    unfold zBuy at hb
    rw [ht] at hb
    have e20 : s1.1 20 = s.1 20 := t2.2.1 20 (by omega) (by omega) (by omega) (by omega)
    by_cases d : s1.1 20 3 = 0
    · rw [if_pos d, g_held, Option.bind_some]
      refine store _ _ hLf s24 ?_
      rw [if_pos d] at hb
      rw [hb]
      rfl
    · obtain ⟨k, hk1, hk3⟩ := hk2 (by rw [← e20]; exact d)
      rw [← e20] at hk3
      obtain ⟨f', hw⟩ := p_worth (s := zLk s1 (nI q) h (nI A) (zTas s (nI q) h (nI A))) (o := 20) hk1 hk3 (by omega)
      rw [if_neg d, hw, Option.bind_some, g_held, Option.bind_some, vRun_cg (zLk_n s1 (nI q) h (nI A) (zTas s (nI q) h (nI A)))]
      refine store _ _ (yGf_t hLf ⟨rfl, fun x _ _ h3 _ => zcO_n _ _ _ h3, rfl, rfl, rfl, rfl, rfl⟩) s24 ?_
      rw [if_neg d, hk3, nI_clamp (by omega)] at hb
      rw [show zBuy s (nI q) h (nI A) = _ from hb.symm]
      rfl
  · rw [if_neg c, Option.bind_some]
    rcases hf with hf | hf
    · exact absurd hf c
    · rw [hf]
      exact ⟨s, rfl, ⟨rfl, fun _ _ _ _ _ => rfl, rfl, rfl, rfl, rfl, rfl⟩, fun j => Or.inl rfl⟩
