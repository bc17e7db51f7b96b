/-! FIRST STATES -/
def adOf (h0 : Nat) (q : List Nat) (sta : Nat → Nat) (k : Nat) : Nat := if k = 0 then h0 else if k < 1000 then q.getD (k - 1) 0 else sta (k - 1000)
def zShF : Nat → Int32 := fun j => match j with
  | 0 => -1
  | 1 => -1
  | _ => 0
def zG0 : zSt := (fun a => match a with
  | 2 => (upd (upd (upd (upd (upd (upd (upd (upd (fun _ => 0) 0 3) 1 3) 2 10) 3 10) 4 0) 5 8) 6 3) 7 3)
  | 7 => (fun j => if j < 32 then 20 else (fun _ => 0) j)
  | 40 => zShF
  | 42 => zShF
  | 44 => zShF
  | 46 => zShF
  | 48 => zShF
  | 50 => zShF
  | _ => fun _ => 0, fun _ _ => 0)
def zM0 : zSt := (fun a => match a with
  | 1 => (upd (upd (upd (upd (upd (upd (upd (fun _ => 0) 0 3) 1 3) 2 10) 3 10) 5 8) 6 3) 7 3)
  | 5 => (fun j => if j < 32 then (20 : Int32) else 0)
  | 10 => (upd (upd (fun _ => 0) 0 (-1)) 1 (-1))
  | 26 => (upd (upd (upd (upd (upd (upd (fun _ => 0) 0 (-1)) 1 (-1)) 2 (-1)) 3 (-1)) 4 (-1)) 5 (-1))
  | _ => fun _ => 0, fun _ _ => 0)
theorem zPQ {D : va_G} {w : va_W} {H : Heap} {k a n : Nat} {c : ClassId} {f f' : Nat → Option Nat} (hP : va_P D zCl w H) (hk : w[k]? = some (a, .inl (c, n, .inr (.inr (.inr (.inr f)))))) (e : ∀ j, j < n → f j = f' j) : va_P D zCl (w.set k (a, .inl (c, n, .inr (.inr (.inr (.inr f')))))) H := by
  intro i q hq
  by_cases hi : i = k
  · subst hi
    have hl : i < w.length := (List.getElem?_eq_some_iff.mp hk).1
    rw [List.getElem?_set_self hl] at hq
    cases hq
    have h := hP i _ hk
    show H[a]? = some (vp_cell c (n, .inr (.inr (.inr (.inr f')))))
    have h' : H[a]? = some (vp_cell c (n, .inr (.inr (.inr (.inr f))))) := h
    rw [h', vp_cell_q, vp_cell_q]
    unfold arrV
    have e2 : (fun j : Fin n => va_rf (f j.1)) = (fun j : Fin n => va_rf (f' j.1)) := funext (fun j => by rw [e j.1 j.2])
    congr 2
    exact congrArg Array.ofFn e2
  · rw [List.getElem?_set_ne (Ne.symm hi)] at hq
    exact hP i q hq
theorem zDQ {A : Nat → Prop} {w : va_W} {k a : Nat} {e e' : va_E} (hD : va_D A w) (hk : w[k]? = some (a, e)) : va_D A (w.set k (a, e')) := hD.set hk
def zShA (q : List Nat) : Nat → Option Nat := fun j => some (q.getD (39 + 2 * j) 0)
theorem zSh_e (h0 : Nat) (q : List Nat) (sta : Nat → Nat) : ∀ j, j < 6 → va_up (va_up (va_up (va_up (va_up (va_up (fun _ => none) 0 (some (q.getD 39 0))) 1 (some (q.getD 41 0))) 2 (some (q.getD 43 0))) 3 (some (q.getD 45 0))) 4 (some (q.getD 47 0))) 5 (some (q.getD 49 0)) j = some (adOf h0 q sta (40 + 2 * j)) := by
  intro j hj
  match j, hj with
  | 0, _ => rfl
  | 1, _ => rfl
  | 2, _ => rfl
  | 3, _ => rfl
  | 4, _ => rfl
  | 5, _ => rfl
theorem yR_0 : yR zG0 zM0 := by
  have F0 : ∀ j, j < 8 → zG0.1 2 j = zM0.1 1 j := by decide
  have F1 : ∀ j, j < 8 → zrg j (zG0.1 2 j) := by
    unfold zrg zlo zhi
    decide
  have F2 : ∀ j, j < 32 → zG0.1 7 j = zM0.1 5 j := by decide
  have Sh : ∀ k, k < 6 → zM0.1 26 k = -1 := by decide
  refine ⟨⟨F0, F1, 0, 0, by omega, by omega, rfl, rfl, rfl, rfl, fun j hj => absurd hj (by omega)⟩, ⟨F2, fun _ _ => rfl, fun _ _ => rfl, fun _ _ => ⟨show (0 : Int) ≤ (0 : Int32).toInt by decide, show (0 : Int32).toInt ≤ 9 by decide⟩, 0, by omega, rfl, rfl⟩, ⟨rfl, fun _ _ => rfl, fun _ _ => rfl⟩, ⟨0, by omega, rfl, rfl, fun j hj => absurd hj (by omega)⟩, Or.inl ⟨rfl, rfl⟩, Or.inl ⟨rfl, rfl⟩, ⟨rfl, fun h => absurd rfl h⟩, ⟨fun _ _ => rfl, fun _ _ => ⟨show (0 : Int) ≤ (0 : Int32).toInt by decide, show (0 : Int32).toInt ≤ 999 by decide⟩, rfl, fun _ _ => rfl, fun _ _ => ⟨show (0 : Int) ≤ (0 : Int32).toInt by decide, show (0 : Int32).toInt ≤ 600 by decide⟩⟩, ⟨rfl, rfl, fun _ _ => rfl, fun _ _ => ⟨show (0 : Int) ≤ (0 : Int32).toInt by decide, show (0 : Int32).toInt ≤ 999 by decide⟩⟩, ⟨⟨0, by omega, rfl, rfl, fun j hj => absurd hj (by omega)⟩, 0, by omega, rfl, rfl, fun j hj => absurd hj (by omega)⟩, Or.inl ⟨Sh 0 (by omega), rfl, rfl, rfl, rfl⟩, Or.inl ⟨Sh 1 (by omega), rfl, rfl, rfl, rfl⟩, Or.inl ⟨Sh 2 (by omega), rfl, rfl, rfl, rfl⟩, Or.inl ⟨Sh 3 (by omega), rfl, rfl, rfl, rfl⟩, Or.inl ⟨Sh 4 (by omega), rfl, rfl, rfl, rfl⟩, Or.inl ⟨Sh 5 (by omega), rfl, rfl, rfl, rfl⟩⟩
def zFn (ad : Nat → Nat) (s : zSt) (k : Nat) : Nat → List (Nat ⊕ Nat) → List Value
  | _, [] => []
  | j, f :: fs => zF ad s k j f :: zFn ad s k (j + 1) fs
def zCn (ad : Nat → Nat) (cA : Nat → ClassId) (s : zSt) (k : Nat) : zD → va_E
  | .inl o => .inr (o.1, zFn ad s k 0 o.2)
  | .inr (0, n, _) => .inl (cA 0, n, .inl (s.1 k))
  | .inr (1, n, _) => .inl (cA 1, n, .inr (.inl (s.2 k)))
  | .inr (_ + 2, n, b) => .inl (cA 2, n, .inr (.inr (.inr (.inr (fun j => some (ad (b + 2 * j)))))))
def zWn (ad : Nat → Nat) (cA : Nat → ClassId) (s : zSt) : Nat → List zD → va_W
  | _, [] => []
  | k, d :: Λ => (ad k, zCn ad cA s k d) :: zWn ad cA s (k + 1) Λ
theorem zFn_eq (ad : Nat → Nat) (s : zSt) (k : Nat) : ∀ (fs : List (Nat ⊕ Nat)) (j : Nat), fs.mapIdx (fun i f => zF ad s k (i + j) f) = zFn ad s k j fs := by
  intro fs
  induction fs with
  | nil => intro j; rfl
  | cons f fs ih =>
    intro j
    rw [List.mapIdx_cons, Nat.zero_add]
    show _ :: _ = _ :: _
    congr 1
    rw [← ih (j + 1)]
    congr 1
    funext i f
    rw [show i + 1 + j = i + (j + 1) by omega]
theorem zCn_eq (ad : Nat → Nat) (cA : Nat → ClassId) (s : zSt) (k : Nat) (d : zD) : zC ad cA s k d = zCn ad cA s k d := by
  rcases d with o | ⟨_ | _ | n, m, b⟩
  · show Sum.inr _ = Sum.inr _
    congr 2
    exact zFn_eq ad s k o.2 0
  · rfl
  · rfl
  · rfl
theorem zWn_eq (ad : Nat → Nat) (cA : Nat → ClassId) (s : zSt) : ∀ (Λ : List zD) (k : Nat), Λ.mapIdx (fun i d => (ad (i + k), zC ad cA s (i + k) d)) = zWn ad cA s k Λ := by
  intro Λ
  induction Λ with
  | nil => intro k; rfl
  | cons d Λ ih =>
    intro k
    rw [List.mapIdx_cons, Nat.zero_add, zCn_eq]
    show _ :: _ = _ :: _
    congr 1
    rw [← ih (k + 1)]
    congr 1
    funext i d
    rw [show i + 1 + k = i + (k + 1) by omega]
theorem zW_n (ad : Nat → Nat) (cA : Nat → ClassId) (Λ : List zD) (s : zSt) : zW ad cA Λ s = zWn ad cA s 0 Λ := zWn_eq ad cA s Λ 0
