/-! straight-line instructions, by computing -/
def zlk {α : Type} : List (Nat × α) → Nat → Option α
  | [], _ => none
  | q :: l, i => cond (Nat.beq q.1 i) (some q.2) (zlk l i)
theorem zlk_mem {α : Type} {i : Nat} {v : α} : ∀ {l : List (Nat × α)}, zlk l i = some v → (i, v) ∈ l
  | [], h => by cases h
  | q :: l, h => by
    unfold zlk at h
    cases hb : Nat.beq q.1 i with
    | true =>
      rw [hb] at h
      have e : q.1 = i := Nat.eq_of_beq_eq_true hb
      cases h
      rw [← e]
      exact List.mem_cons_self
    | false =>
      rw [hb] at h
      exact List.mem_cons_of_mem _ (zlk_mem (l := l) h)
abbrev zS : Type := List (Nat × Value) × List Value × zSt
def zrm (i : Nat) (l : List (Nat × Value)) : List (Nat × Value) := l.filter (fun q => !(q.1 == i) && !(q.1 + 1 == i && q.2.category == 2))
def zrm2 (i : Nat) (l : List (Nat × Value)) : List (Nat × Value) := l.filter (fun q => !(q.1 == i) && (!(q.1 == i + 1) && !(q.1 + 1 == i && q.2.category == 2)))
def zLoad (i : Nat) (x : zS) : Option zS := match zlk x.1 i with
  | some (.int v) => some (x.1, .int v :: x.2.1, x.2.2)
  | _ => none
def zLoadL (i : Nat) (x : zS) : Option zS := match zlk x.1 i with
  | some (.long v) => some (x.1, .long v :: x.2.1, x.2.2)
  | _ => none
def zLoadA (i : Nat) (x : zS) : Option zS := match zlk x.1 i with
  | some (.ref v) => some (x.1, .ref v :: x.2.1, x.2.2)
  | some .null => some (x.1, .null :: x.2.1, x.2.2)
  | _ => none
def zStore (nL i : Nat) (x : zS) : Option zS := match x.2.1 with
  | .int v :: r => cond (Nat.blt i nL) (some ((i, .int v) :: zrm i x.1, r, x.2.2)) none
  | _ => none
def zStoreL (nL i : Nat) (x : zS) : Option zS := match x.2.1 with
  | .long v :: r => cond (Nat.blt (i + 1) nL) (some ((i, .long v) :: zrm2 i x.1, r, x.2.2)) none
  | _ => none
def zStoreA (nL i : Nat) (x : zS) : Option zS := match x.2.1 with
  | .ref v :: r => cond (Nat.blt i nL) (some ((i, .ref v) :: zrm i x.1, r, x.2.2)) none
  | .null :: r => cond (Nat.blt i nL) (some ((i, .null) :: zrm i x.1, r, x.2.2)) none
  | _ => none
def zInc (nL i : Nat) (n : Int) (x : zS) : Option zS := match zlk x.1 i with
  | some (.int v) => cond (Nat.blt i nL) (some ((i, .int (v + Int32.ofInt n)) :: zrm i x.1, x.2.1, x.2.2)) none
  | _ => none
def zBin (f : Int32 → Int32 → Int32) (x : zS) : Option zS := match x.2.1 with
  | .int b :: .int a :: r => some (x.1, .int (f a b) :: r, x.2.2)
  | _ => none
def zBinL (f : Int64 → Int64 → Int64) (x : zS) : Option zS := match x.2.1 with
  | .long b :: .long a :: r => some (x.1, .long (f a b) :: r, x.2.2)
  | _ => none
def zDvi (f : Int32 → Int32 → Int32) (x : zS) : Option zS := match x.2.1 with
  | .int b :: .int a :: r => if b = 0 then none else some (x.1, .int (f a b) :: r, x.2.2)
  | _ => none
def zrem (a b : Int32) : Int32 := a - a / b * b
def zremL (a b : Int64) : Int64 := a - a / b * b
def zush (x y : Int32) : Int32 := (x.toUInt32 >>> (y.toUInt32 &&& Int32.toUInt32 31)).toInt32
def zPush (v : Value) (x : zS) : Option zS := some (x.1, v :: x.2.1, x.2.2)
def zGet (own : Nat) (Λ : List zD) (idx : Nat) (x : zS) : Option zS := match x.2.1 with
  | .ref k :: r => match zlk (zfl own) idx, Λ[k]? with
    | some q, some (.inl o) => cond (Nat.beq q.1 o.1) (match o.2[q.2]? with
      | some (.inl _) => some (x.1, .int (x.2.2.1 k q.2) :: r, x.2.2)
      | some (.inr b) => some (x.1, .ref b :: r, x.2.2)
      | none => none) none
    | _, _ => none
  | _ => none
def zPut (own : Nat) (Λ : List zD) (idx : Nat) (x : zS) : Option zS := match x.2.1 with
  | .int v :: .ref k :: r => match zlk (zfl own) idx, Λ[k]? with
    | some q, some (.inl o) => cond (Nat.beq q.1 o.1) (match o.2[q.2]? with
      | some (.inl 0) => some (x.1, r, zw x.2.2 k q.2 v)
      | some (.inl 1) => if v = 0 ∨ v = 1 then some (x.1, r, zw x.2.2 k q.2 v) else none
      | _ => none) none
    | _, _ => none
  | _ => none
def zLen (Λ : List zD) (x : zS) : Option zS := match x.2.1 with
  | .ref k :: r => match Λ[k]? with
    | some (.inr q) => some (x.1, .int (Int32.ofNat q.2.1) :: r, x.2.2)
    | _ => none
  | _ => none
def zDup (x : zS) : Option zS := match x.2.1 with
  | .int a :: r => some (x.1, .int a :: .int a :: r, x.2.2)
  | .ref a :: r => some (x.1, .ref a :: .ref a :: r, x.2.2)
  | _ => none
def zDupX (x : zS) : Option zS := match x.2.1 with
  | .int a :: .ref b :: r => some (x.1, .int a :: .ref b :: .int a :: r, x.2.2)
  | _ => none
def zDup2 (x : zS) : Option zS := match x.2.1 with
  | .int a :: .ref b :: r => some (x.1, .int a :: .ref b :: .int a :: .ref b :: r, x.2.2)
  | _ => none
def zUn (f : Int32 → Int32) (x : zS) : Option zS := match x.2.1 with
  | .int a :: r => some (x.1, .int (f a) :: r, x.2.2)
  | _ => none
/-- one instruction: its length, and what it does -/
def zstep (own nL : Nat) (Λ : List zD) (i : Instr) (x : zS) : Nat × Option zS := match i with
  | .iconst n => (1, zPush (.int (Int32.ofInt n)) x)
  | .bipush n => (2, zPush (.int (Int8.ofInt n).toInt32) x)
  | .sipush n => (3, zPush (.int (Int16.ofInt n).toInt32) x)
  | .lconst n => (1, zPush (.long (Int64.ofNat n.val)) x)
  | .ldc k => (2, (zlk (zki own) k).bind fun v => zPush (.int v) x)
  | .ldc2_w k => (3, (zlk (zkl own) k).bind fun v => zPush (.long v) x)
  | .aconst_null => (1, zPush .null x)
  | .iload_n n => (1, zLoad n.val x)
  | .iload n => (2, zLoad n x)
  | .lload_n n => (1, zLoadL n.val x)
  | .lload n => (2, zLoadL n x)
  | .aload_n n => (1, zLoadA n.val x)
  | .aload n => (2, zLoadA n x)
  | .istore_n n => (1, zStore nL n.val x)
  | .istore n => (2, zStore nL n x)
  | .lstore_n n => (1, zStoreL nL n.val x)
  | .lstore n => (2, zStoreL nL n x)
  | .astore_n n => (1, zStoreA nL n.val x)
  | .astore n => (2, zStoreA nL n x)
  | .iinc k n => (3, zInc nL k n x)
  | .iadd => (1, zBin (fun a b => a + b) x)
  | .isub => (1, zBin (fun a b => a - b) x)
  | .imul => (1, zBin (fun a b => a * b) x)
  | .iand => (1, zBin (fun a b => a &&& b) x)
  | .ior => (1, zBin (fun a b => a ||| b) x)
  | .ixor => (1, zBin (fun a b => a ^^^ b) x)
  | .ishl => (1, zBin (fun a b => a <<< (b &&& 31)) x)
  | .ishr => (1, zBin (fun a b => a >>> (b &&& 31)) x)
  | .iushr => (1, zBin zush x)
  | .idiv => (1, zDvi (fun a b => a / b) x)
  | .irem => (1, zDvi zrem x)
  | .ineg => (1, zUn (fun a => -a) x)
  | .i2b => (1, zUn (fun a => a.toInt8.toInt32) x)
  | .i2s => (1, zUn (fun a => a.toInt16.toInt32) x)
  | .ladd => (1, zBinL (fun a b => a + b) x)
  | .lsub => (1, zBinL (fun a b => a - b) x)
  | .lmul => (1, zBinL (fun a b => a * b) x)
  | .land => (1, zBinL (fun a b => a &&& b) x)
  | .lor => (1, zBinL (fun a b => a ||| b) x)
  | .lneg => (1, match x.2.1 with
    | .long a :: r => some (x.1, .long (-a) :: r, x.2.2)
    | _ => none)
  | .lshl => (1, match x.2.1 with
    | .int b :: .long a :: r => some (x.1, .long (a <<< (b.toInt64 &&& 63)) :: r, x.2.2)
    | _ => none)
  | .lcmp => (1, match x.2.1 with
    | .long b :: .long a :: r => some (x.1, .int (lg_cmp a b) :: r, x.2.2)
    | _ => none)
  | .i2l => (1, match x.2.1 with
    | .int a :: r => some (x.1, .long a.toInt64 :: r, x.2.2)
    | _ => none)
  | .l2i => (1, match x.2.1 with
    | .long a :: r => some (x.1, .int a.toInt32 :: r, x.2.2)
    | _ => none)
  | .dup => (1, zDup x)
  | .dup_x1 => (1, zDupX x)
  | .dup2 => (1, zDup2 x)
  | .pop => (1, match x.2.1 with
    | .int _ :: r => some (x.1, r, x.2.2)
    | _ => none)
  | .arraylength => (1, zLen Λ x)
  | .getfield k => (3, zGet own Λ k x)
  | .putfield k => (3, zPut own Λ k x)
  | .getstatic k => (3, (zlk (zsl own) k).bind fun q => zPush (.ref (1000 + q.1)) x)
  | _ => (0, none)
/-- the field links are the tables' -/
def zflok (own : Nat) : Bool := (zfl own).all fun q => match zCl[q.2.1]? with
  | some r => decide (q.2.2 < r.2.2) && (decide ((r.2.1 q.2.2).1 = r.1) && (decide (Cond.fieldLink (zNm own) q.1 r.1 (r.2.1 q.2.2).2.1 (r.2.1 q.2.2).2.2.1 ∈ tables_1)))
  | none => false
theorem zfl_ok : ∀ own : Nat, zflok own = true
  | 0 => by decide +kernel
  | 1 => by decide +kernel
  | 2 => by decide +kernel
  | 3 => by decide +kernel
  | 4 => by decide +kernel
  | 5 => by decide +kernel
  | 6 => by decide +kernel
  | 7 => by decide +kernel
  | 8 => by decide +kernel
  | 9 => by decide +kernel
  | 10 => by decide +kernel
  | 11 => by decide +kernel
  | 12 => by decide +kernel
  | _ + 13 => rfl
def zkok (own : Nat) : Bool := (zki own).all (fun q => decide (Cond.constant (zNm own) q.1 q.2 ∈ tables_1)) && (zkl own).all (fun q => decide (Cond.constantLong (zNm own) q.1 q.2 ∈ tables_1))
theorem zk_ok : ∀ own : Nat, zkok own = true
  | 0 => by decide +kernel
  | 1 => by decide +kernel
  | 2 => by decide +kernel
  | 3 => by decide +kernel
  | 4 => by decide +kernel
  | 5 => by decide +kernel
  | 6 => by decide +kernel
  | 7 => by decide +kernel
  | 8 => by decide +kernel
  | 9 => by decide +kernel
  | 10 => by decide +kernel
  | 11 => by decide +kernel
  | 12 => by decide +kernel
  | _ + 13 => rfl
def zsok (own : Nat) : Bool := (zsl own).all fun q => match zTab[q.2.1]? with
  | some r => if q.2.2 = true then decide (Cond.fieldLinkNest (zNm own) q.1 r.1 r.2.1 r.2.2.1 "LemonGate" ∈ tables_1) else decide (Cond.fieldLink (zNm own) q.1 r.1 r.2.1 r.2.2.1 ∈ tables_1)
  | none => false
theorem zs_ok : ∀ own : Nat, zsok own = true
  | 0 => by decide +kernel
  | 1 => by decide +kernel
  | 2 => by decide +kernel
  | 3 => by decide +kernel
  | 4 => by decide +kernel
  | 5 => by decide +kernel
  | 6 => by decide +kernel
  | 7 => by decide +kernel
  | 8 => by decide +kernel
  | 9 => by decide +kernel
  | 10 => by decide +kernel
  | 11 => by decide +kernel
  | 12 => by decide +kernel
  | _ + 13 => rfl
def zlays : Bool := (List.range 13).all fun ci => match zCl[ci]? with
  | some r => (u_ws r.1 r.2.1 r.2.2).all fun w => decide (w ∈ tables_1)
  | none => false
theorem zlays_ok : zlays = true := by decide +kernel
theorem zTb_of {w : Cond} (h : w ∈ tables_1) (hg : goodWord w = true) : w ∈ zTb := zTb_in (List.mem_append_right _ h) hg
theorem zCl_len {ci : Nat} {r : vw_C} (h : zCl[ci]? = some r) : ci < 13 := (List.getElem?_eq_some_iff.mp h).1
theorem zlays_in {ci : Nat} {r : vw_C} (h : zCl[ci]? = some r) : ∀ w ∈ u_ws r.1 r.2.1 r.2.2, w ∈ zTb := by
  intro w hw
  have h1 := List.all_eq_true.mp zlays_ok ci (List.mem_range.mpr (zCl_len h))
  rw [h] at h1
  have h2 := List.all_eq_true.mp h1 w hw
  refine zTb_of (of_decide_eq_true h2) ?_
  obtain ⟨k, -, rfl⟩ := List.mem_map.mp hw
  unfold u_lay
  split <;> rfl
def zNmOk (ci : Nat) : Prop := ∀ r, zCl[ci]? = some r → (∀ k, k < r.2.2 → parseFieldDescriptor (r.2.1 k).2.2.1 = some (zTt ci k)) ∧ ∀ a, a < r.2.2 → ∀ b, b < r.2.2 → a ≠ b → (r.2.1 a).2.1 ≠ (r.2.1 b).2.1
theorem zNm_ok (ci : Nat) : zNmOk ci := by
  intro r h
  match ci, h with
  | 0, h => cases h; exact ⟨zto0, zn0⟩
  | 1, h => cases h; exact ⟨zto1, zn1⟩
  | 2, h => cases h; exact ⟨zto2, zn2⟩
  | 3, h => cases h; exact ⟨zto3, zn3⟩
  | 4, h => cases h; exact ⟨zto4, zn4⟩
  | 5, h => cases h; exact ⟨zto5, zn5⟩
  | 6, h => cases h; exact ⟨zto6, zn6⟩
  | 7, h => cases h; exact ⟨zto7, zn7⟩
  | 8, h => cases h; exact ⟨fun k hk => absurd hk (Nat.not_lt_zero k), fun a ha => absurd ha (Nat.not_lt_zero a)⟩
  | 9, h => cases h; exact ⟨zto9, zn9⟩
  | 10, h => cases h; exact ⟨zto10, zn10⟩
  | 11, h => cases h; exact ⟨zto11, zn11⟩
  | 12, h => cases h; exact ⟨zto12, zn12⟩
  | n + 13, h => simp [zCl] at h
