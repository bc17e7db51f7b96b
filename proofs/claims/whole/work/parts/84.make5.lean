/-! CONSTRUCTORS 5: the class's inner ones (printed by wip/whole/gen_init.py) -/
def gi_rc_init (cA : Nat → ClassId) (h0 : Nat) (q : List Nat) : va_W := [(h0, .inr (4, [.ref (q.getD 0 0), .ref (q.getD 1 0), .ref (q.getD 2 0), .ref (q.getD 3 0), .int 0, .int 0])), ((q.getD 0 0), .inl (cA 0, 8, .inl (upd (upd (upd (upd (upd (upd (upd (upd (fun _ => 0) 0 3) 1 3) 2 10) 3 10) 4 0) 5 8) 6 3) 7 3))), ((q.getD 1 0), .inl (cA 0, 40, .inl (fun _ => 0))), ((q.getD 2 0), .inl (cA 0, 40, .inl (fun _ => 0))), ((q.getD 3 0), .inl (cA 0, 40, .inl (fun _ => 0)))]
set_option maxHeartbeats 4000000 in
set_option maxRecDepth 100000 in
theorem ki_rc_init : zKi zm_rc_init ({ frames := 1, cells := 4, slots := 128, locals := 64 }) 4 128 4 (4, [.null, .null, .null, .null, .int 0, .int 0]) gi_rc_init := by
  refine zKi_of zmk_rc_init rfl rfl rfl (fun p l e s m args below meth c D cA ad A h0 C hin hr hlo => ?_)
  refine zg_aload (j := 0) C (zdec zmk_rc_init rfl) rfl rfl ?_
  refine zg_obj C zfk_30 (zdec zmk_rc_init rfl) rfl rfl ?_
  refine zg_aload (j := 0) C (zdec zmk_rc_init rfl) rfl rfl ?_
  refine zg_bipush (v := 8) C (zdec zmk_rc_init rfl) rfl ?_
  refine zg_newI (N := 8) C (by decide) rfl rfl (zdec zmk_rc_init rfl) ⟨rfl, rfl⟩ (fun q1 => ?_)
  show zG _ 9 [(0, .ref h0)] [.ref q1, .ref h0] [(h0, .inr (4, [.null, .null, .null, .null, .int 0, .int 0])), (q1, .inl (cA 0, 8, .inl (fun _ => 0)))] 1 8
  refine zg_dup C (zdec zmk_rc_init rfl) rfl ?_
  refine zg_iconst (v := 0) C (zdec zmk_rc_init rfl) rfl ?_
  refine zg_iconst (v := 3) C (zdec zmk_rc_init rfl) rfl ?_
  refine zg_iast (q0 := 1) (j := 0) C rfl (vp_in_nI (n := 0) (N := 8) (by decide) (by decide)) rfl (zdec zmk_rc_init rfl) ?_
  show zG _ 13 [(0, .ref h0)] [.ref q1, .ref h0] [(h0, .inr (4, [.null, .null, .null, .null, .int 0, .int 0])), (q1, .inl (cA 0, 8, .inl (upd (fun _ => 0) 0 3)))] 1 8
  refine zg_dup C (zdec zmk_rc_init rfl) rfl ?_
  refine zg_iconst (v := 1) C (zdec zmk_rc_init rfl) rfl ?_
  refine zg_iconst (v := 3) C (zdec zmk_rc_init rfl) rfl ?_
  refine zg_iast (q0 := 1) (j := 1) C rfl (vp_in_nI (n := 1) (N := 8) (by decide) (by decide)) rfl (zdec zmk_rc_init rfl) ?_
  show zG _ 17 [(0, .ref h0)] [.ref q1, .ref h0] [(h0, .inr (4, [.null, .null, .null, .null, .int 0, .int 0])), (q1, .inl (cA 0, 8, .inl (upd (upd (fun _ => 0) 0 3) 1 3)))] 1 8
  refine zg_dup C (zdec zmk_rc_init rfl) rfl ?_
  refine zg_iconst (v := 2) C (zdec zmk_rc_init rfl) rfl ?_
  refine zg_bipush (v := 10) C (zdec zmk_rc_init rfl) rfl ?_
  refine zg_iast (q0 := 1) (j := 2) C rfl (vp_in_nI (n := 2) (N := 8) (by decide) (by decide)) rfl (zdec zmk_rc_init rfl) ?_
  show zG _ 22 [(0, .ref h0)] [.ref q1, .ref h0] [(h0, .inr (4, [.null, .null, .null, .null, .int 0, .int 0])), (q1, .inl (cA 0, 8, .inl (upd (upd (upd (fun _ => 0) 0 3) 1 3) 2 10)))] 1 8
  refine zg_dup C (zdec zmk_rc_init rfl) rfl ?_
  refine zg_iconst (v := 3) C (zdec zmk_rc_init rfl) rfl ?_
  refine zg_bipush (v := 10) C (zdec zmk_rc_init rfl) rfl ?_
  refine zg_iast (q0 := 1) (j := 3) C rfl (vp_in_nI (n := 3) (N := 8) (by decide) (by decide)) rfl (zdec zmk_rc_init rfl) ?_
  show zG _ 27 [(0, .ref h0)] [.ref q1, .ref h0] [(h0, .inr (4, [.null, .null, .null, .null, .int 0, .int 0])), (q1, .inl (cA 0, 8, .inl (upd (upd (upd (upd (fun _ => 0) 0 3) 1 3) 2 10) 3 10)))] 1 8
  refine zg_dup C (zdec zmk_rc_init rfl) rfl ?_
  refine zg_iconst (v := 4) C (zdec zmk_rc_init rfl) rfl ?_
  refine zg_iconst (v := 0) C (zdec zmk_rc_init rfl) rfl ?_
  refine zg_iast (q0 := 1) (j := 4) C rfl (vp_in_nI (n := 4) (N := 8) (by decide) (by decide)) rfl (zdec zmk_rc_init rfl) ?_
  show zG _ 31 [(0, .ref h0)] [.ref q1, .ref h0] [(h0, .inr (4, [.null, .null, .null, .null, .int 0, .int 0])), (q1, .inl (cA 0, 8, .inl (upd (upd (upd (upd (upd (fun _ => 0) 0 3) 1 3) 2 10) 3 10) 4 0)))] 1 8
  refine zg_dup C (zdec zmk_rc_init rfl) rfl ?_
  refine zg_iconst (v := 5) C (zdec zmk_rc_init rfl) rfl ?_
  refine zg_bipush (v := 8) C (zdec zmk_rc_init rfl) rfl ?_
  refine zg_iast (q0 := 1) (j := 5) C rfl (vp_in_nI (n := 5) (N := 8) (by decide) (by decide)) rfl (zdec zmk_rc_init rfl) ?_
  show zG _ 36 [(0, .ref h0)] [.ref q1, .ref h0] [(h0, .inr (4, [.null, .null, .null, .null, .int 0, .int 0])), (q1, .inl (cA 0, 8, .inl (upd (upd (upd (upd (upd (upd (fun _ => 0) 0 3) 1 3) 2 10) 3 10) 4 0) 5 8)))] 1 8
  refine zg_dup C (zdec zmk_rc_init rfl) rfl ?_
  refine zg_bipush (v := 6) C (zdec zmk_rc_init rfl) rfl ?_
  refine zg_iconst (v := 3) C (zdec zmk_rc_init rfl) rfl ?_
  refine zg_iast (q0 := 1) (j := 6) C rfl (vp_in_nI (n := 6) (N := 8) (by decide) (by decide)) rfl (zdec zmk_rc_init rfl) ?_
  show zG _ 41 [(0, .ref h0)] [.ref q1, .ref h0] [(h0, .inr (4, [.null, .null, .null, .null, .int 0, .int 0])), (q1, .inl (cA 0, 8, .inl (upd (upd (upd (upd (upd (upd (upd (fun _ => 0) 0 3) 1 3) 2 10) 3 10) 4 0) 5 8) 6 3)))] 1 8
  refine zg_dup C (zdec zmk_rc_init rfl) rfl ?_
  refine zg_bipush (v := 7) C (zdec zmk_rc_init rfl) rfl ?_
  refine zg_iconst (v := 3) C (zdec zmk_rc_init rfl) rfl ?_
  refine zg_iast (q0 := 1) (j := 7) C rfl (vp_in_nI (n := 7) (N := 8) (by decide) (by decide)) rfl (zdec zmk_rc_init rfl) ?_
  show zG _ 46 [(0, .ref h0)] [.ref q1, .ref h0] [(h0, .inr (4, [.null, .null, .null, .null, .int 0, .int 0])), (q1, .inl (cA 0, 8, .inl (upd (upd (upd (upd (upd (upd (upd (upd (fun _ => 0) 0 3) 1 3) 2 10) 3 10) 4 0) 5 8) 6 3) 7 3)))] 1 8
  refine zg_putF (ci := 4) (q0 := 0) (kf := 0) C hin zto4 zn4 rfl rfl (Nat.le_of_ble_eq_true rfl) zfk_31 rfl rfl (zto4 0 (Nat.le_of_ble_eq_true rfl)) rfl rfl (Nat.le_of_ble_eq_true rfl) (zdec zmk_rc_init rfl) ?_
  show zG _ 49 [(0, .ref h0)] [] [(h0, .inr (4, [.ref q1, .null, .null, .null, .int 0, .int 0])), (q1, .inl (cA 0, 8, .inl (upd (upd (upd (upd (upd (upd (upd (upd (fun _ => 0) 0 3) 1 3) 2 10) 3 10) 4 0) 5 8) 6 3) 7 3)))] 1 8
  refine zg_aload (j := 0) C (zdec zmk_rc_init rfl) rfl rfl ?_
  refine zg_bipush (v := 40) C (zdec zmk_rc_init rfl) rfl ?_
  refine zg_newI (N := 40) C (by decide) rfl rfl (zdec zmk_rc_init rfl) ⟨rfl, rfl⟩ (fun q2 => ?_)
  show zG _ 54 [(0, .ref h0)] [.ref q2, .ref h0] [(h0, .inr (4, [.ref q1, .null, .null, .null, .int 0, .int 0])), (q1, .inl (cA 0, 8, .inl (upd (upd (upd (upd (upd (upd (upd (upd (fun _ => 0) 0 3) 1 3) 2 10) 3 10) 4 0) 5 8) 6 3) 7 3))), (q2, .inl (cA 0, 40, .inl (fun _ => 0)))] 2 48
  refine zg_putF (ci := 4) (q0 := 0) (kf := 1) C hin zto4 zn4 rfl rfl (Nat.le_of_ble_eq_true rfl) zfk_35 rfl rfl (zto4 1 (Nat.le_of_ble_eq_true rfl)) rfl rfl (Nat.le_of_ble_eq_true rfl) (zdec zmk_rc_init rfl) ?_
  show zG _ 57 [(0, .ref h0)] [] [(h0, .inr (4, [.ref q1, .ref q2, .null, .null, .int 0, .int 0])), (q1, .inl (cA 0, 8, .inl (upd (upd (upd (upd (upd (upd (upd (upd (fun _ => 0) 0 3) 1 3) 2 10) 3 10) 4 0) 5 8) 6 3) 7 3))), (q2, .inl (cA 0, 40, .inl (fun _ => 0)))] 2 48
  refine zg_aload (j := 0) C (zdec zmk_rc_init rfl) rfl rfl ?_
  refine zg_bipush (v := 40) C (zdec zmk_rc_init rfl) rfl ?_
  refine zg_newI (N := 40) C (by decide) rfl rfl (zdec zmk_rc_init rfl) ⟨rfl, rfl⟩ (fun q3 => ?_)
  show zG _ 62 [(0, .ref h0)] [.ref q3, .ref h0] [(h0, .inr (4, [.ref q1, .ref q2, .null, .null, .int 0, .int 0])), (q1, .inl (cA 0, 8, .inl (upd (upd (upd (upd (upd (upd (upd (upd (fun _ => 0) 0 3) 1 3) 2 10) 3 10) 4 0) 5 8) 6 3) 7 3))), (q2, .inl (cA 0, 40, .inl (fun _ => 0))), (q3, .inl (cA 0, 40, .inl (fun _ => 0)))] 3 88
  refine zg_putF (ci := 4) (q0 := 0) (kf := 2) C hin zto4 zn4 rfl rfl (Nat.le_of_ble_eq_true rfl) zfk_36 rfl rfl (zto4 2 (Nat.le_of_ble_eq_true rfl)) rfl rfl (Nat.le_of_ble_eq_true rfl) (zdec zmk_rc_init rfl) ?_
  show zG _ 65 [(0, .ref h0)] [] [(h0, .inr (4, [.ref q1, .ref q2, .ref q3, .null, .int 0, .int 0])), (q1, .inl (cA 0, 8, .inl (upd (upd (upd (upd (upd (upd (upd (upd (fun _ => 0) 0 3) 1 3) 2 10) 3 10) 4 0) 5 8) 6 3) 7 3))), (q2, .inl (cA 0, 40, .inl (fun _ => 0))), (q3, .inl (cA 0, 40, .inl (fun _ => 0)))] 3 88
  refine zg_aload (j := 0) C (zdec zmk_rc_init rfl) rfl rfl ?_
  refine zg_bipush (v := 40) C (zdec zmk_rc_init rfl) rfl ?_
  refine zg_newI (N := 40) C (by decide) rfl rfl (zdec zmk_rc_init rfl) ⟨rfl, rfl⟩ (fun q4 => ?_)
  show zG _ 70 [(0, .ref h0)] [.ref q4, .ref h0] [(h0, .inr (4, [.ref q1, .ref q2, .ref q3, .null, .int 0, .int 0])), (q1, .inl (cA 0, 8, .inl (upd (upd (upd (upd (upd (upd (upd (upd (fun _ => 0) 0 3) 1 3) 2 10) 3 10) 4 0) 5 8) 6 3) 7 3))), (q2, .inl (cA 0, 40, .inl (fun _ => 0))), (q3, .inl (cA 0, 40, .inl (fun _ => 0))), (q4, .inl (cA 0, 40, .inl (fun _ => 0)))] 4 128
  refine zg_putF (ci := 4) (q0 := 0) (kf := 3) C hin zto4 zn4 rfl rfl (Nat.le_of_ble_eq_true rfl) zfk_37 rfl rfl (zto4 3 (Nat.le_of_ble_eq_true rfl)) rfl rfl (Nat.le_of_ble_eq_true rfl) (zdec zmk_rc_init rfl) ?_
  show zG _ 73 [(0, .ref h0)] [] [(h0, .inr (4, [.ref q1, .ref q2, .ref q3, .ref q4, .int 0, .int 0])), (q1, .inl (cA 0, 8, .inl (upd (upd (upd (upd (upd (upd (upd (upd (fun _ => 0) 0 3) 1 3) 2 10) 3 10) 4 0) 5 8) 6 3) 7 3))), (q2, .inl (cA 0, 40, .inl (fun _ => 0))), (q3, .inl (cA 0, 40, .inl (fun _ => 0))), (q4, .inl (cA 0, 40, .inl (fun _ => 0)))] 4 128
  exact zg_ret C hr hlo (zdec zmk_rc_init rfl) ⟨rfl, rfl⟩ [q1, q2, q3, q4] rfl rfl
def gi_st_init (cA : Nat → ClassId) (h0 : Nat) (q : List Nat) : va_W := [(h0, .inr (7, [.ref (q.getD 0 0), .ref (q.getD 1 0), .ref (q.getD 2 0), .int 0, .ref (q.getD 3 0), .ref (q.getD 4 0), .int 0, .ref (q.getD 5 0)])), ((q.getD 0 0), .inl (cA 0, 32, .inl (fun j => if j < 32 then 20 else (fun _ => 0) j))), ((q.getD 1 0), .inl (cA 0, 32, .inl (fun _ => 0))), ((q.getD 2 0), .inl (cA 0, 128, .inl (fun _ => 0))), ((q.getD 3 0), .inl (cA 0, 32, .inl (fun _ => 0))), ((q.getD 4 0), .inl (cA 0, 32, .inl (fun _ => 0))), ((q.getD 5 0), .inl (cA 0, 160, .inl (fun _ => 0)))]
set_option maxHeartbeats 4000000 in
set_option maxRecDepth 100000 in
theorem ki_st_init : zKi zm_st_init ({ frames := 1, cells := 6, slots := 416, locals := 64 }) 6 416 6 (7, [.null, .null, .null, .int 0, .null, .null, .int 0, .null]) gi_st_init := by
  refine zKi_of zmk_st_init rfl rfl rfl (fun p l e s m args below meth c D cA ad A h0 C hin hr hlo => ?_)
  refine zg_aload (j := 0) C (zdec zmk_st_init rfl) rfl rfl ?_
  refine zg_obj C zfk_61 (zdec zmk_st_init rfl) rfl rfl ?_
  refine zg_aload (j := 0) C (zdec zmk_st_init rfl) rfl rfl ?_
  refine zg_bipush (v := 32) C (zdec zmk_st_init rfl) rfl ?_
  refine zg_newI (N := 32) C (by decide) rfl rfl (zdec zmk_st_init rfl) ⟨rfl, rfl⟩ (fun q1 => ?_)
  show zG _ 9 [(0, .ref h0)] [.ref q1, .ref h0] [(h0, .inr (7, [.null, .null, .null, .int 0, .null, .null, .int 0, .null])), (q1, .inl (cA 0, 32, .inl (fun _ => 0)))] 1 32
  refine zg_putF (ci := 7) (q0 := 0) (kf := 0) C hin zto7 zn7 rfl rfl (Nat.le_of_ble_eq_true rfl) zfk_65 rfl rfl (zto7 0 (Nat.le_of_ble_eq_true rfl)) rfl rfl (Nat.le_of_ble_eq_true rfl) (zdec zmk_st_init rfl) ?_
  show zG _ 12 [(0, .ref h0)] [] [(h0, .inr (7, [.ref q1, .null, .null, .int 0, .null, .null, .int 0, .null])), (q1, .inl (cA 0, 32, .inl (fun _ => 0)))] 1 32
  refine zg_aload (j := 0) C (zdec zmk_st_init rfl) rfl rfl ?_
  refine zg_bipush (v := 32) C (zdec zmk_st_init rfl) rfl ?_
  refine zg_newI (N := 32) C (by decide) rfl rfl (zdec zmk_st_init rfl) ⟨rfl, rfl⟩ (fun q2 => ?_)
  show zG _ 17 [(0, .ref h0)] [.ref q2, .ref h0] [(h0, .inr (7, [.ref q1, .null, .null, .int 0, .null, .null, .int 0, .null])), (q1, .inl (cA 0, 32, .inl (fun _ => 0))), (q2, .inl (cA 0, 32, .inl (fun _ => 0)))] 2 64
  refine zg_putF (ci := 7) (q0 := 0) (kf := 1) C hin zto7 zn7 rfl rfl (Nat.le_of_ble_eq_true rfl) zfk_68 rfl rfl (zto7 1 (Nat.le_of_ble_eq_true rfl)) rfl rfl (Nat.le_of_ble_eq_true rfl) (zdec zmk_st_init rfl) ?_
  show zG _ 20 [(0, .ref h0)] [] [(h0, .inr (7, [.ref q1, .ref q2, .null, .int 0, .null, .null, .int 0, .null])), (q1, .inl (cA 0, 32, .inl (fun _ => 0))), (q2, .inl (cA 0, 32, .inl (fun _ => 0)))] 2 64
  refine zg_aload (j := 0) C (zdec zmk_st_init rfl) rfl rfl ?_
  refine zg_sipush (v := 128) C (zdec zmk_st_init rfl) rfl ?_
  refine zg_newI (N := 128) C (by decide) rfl rfl (zdec zmk_st_init rfl) ⟨rfl, rfl⟩ (fun q3 => ?_)
  show zG _ 26 [(0, .ref h0)] [.ref q3, .ref h0] [(h0, .inr (7, [.ref q1, .ref q2, .null, .int 0, .null, .null, .int 0, .null])), (q1, .inl (cA 0, 32, .inl (fun _ => 0))), (q2, .inl (cA 0, 32, .inl (fun _ => 0))), (q3, .inl (cA 0, 128, .inl (fun _ => 0)))] 3 192
  refine zg_putF (ci := 7) (q0 := 0) (kf := 2) C hin zto7 zn7 rfl rfl (Nat.le_of_ble_eq_true rfl) zfk_70 rfl rfl (zto7 2 (Nat.le_of_ble_eq_true rfl)) rfl rfl (Nat.le_of_ble_eq_true rfl) (zdec zmk_st_init rfl) ?_
  show zG _ 29 [(0, .ref h0)] [] [(h0, .inr (7, [.ref q1, .ref q2, .ref q3, .int 0, .null, .null, .int 0, .null])), (q1, .inl (cA 0, 32, .inl (fun _ => 0))), (q2, .inl (cA 0, 32, .inl (fun _ => 0))), (q3, .inl (cA 0, 128, .inl (fun _ => 0)))] 3 192
  refine zg_aload (j := 0) C (zdec zmk_st_init rfl) rfl rfl ?_
  refine zg_bipush (v := 32) C (zdec zmk_st_init rfl) rfl ?_
  refine zg_newI (N := 32) C (by decide) rfl rfl (zdec zmk_st_init rfl) ⟨rfl, rfl⟩ (fun q4 => ?_)
  show zG _ 34 [(0, .ref h0)] [.ref q4, .ref h0] [(h0, .inr (7, [.ref q1, .ref q2, .ref q3, .int 0, .null, .null, .int 0, .null])), (q1, .inl (cA 0, 32, .inl (fun _ => 0))), (q2, .inl (cA 0, 32, .inl (fun _ => 0))), (q3, .inl (cA 0, 128, .inl (fun _ => 0))), (q4, .inl (cA 0, 32, .inl (fun _ => 0)))] 4 224
  refine zg_putF (ci := 7) (q0 := 0) (kf := 4) C hin zto7 zn7 rfl rfl (Nat.le_of_ble_eq_true rfl) zfk_74 rfl rfl (zto7 4 (Nat.le_of_ble_eq_true rfl)) rfl rfl (Nat.le_of_ble_eq_true rfl) (zdec zmk_st_init rfl) ?_
  show zG _ 37 [(0, .ref h0)] [] [(h0, .inr (7, [.ref q1, .ref q2, .ref q3, .int 0, .ref q4, .null, .int 0, .null])), (q1, .inl (cA 0, 32, .inl (fun _ => 0))), (q2, .inl (cA 0, 32, .inl (fun _ => 0))), (q3, .inl (cA 0, 128, .inl (fun _ => 0))), (q4, .inl (cA 0, 32, .inl (fun _ => 0)))] 4 224
  refine zg_aload (j := 0) C (zdec zmk_st_init rfl) rfl rfl ?_
  refine zg_bipush (v := 32) C (zdec zmk_st_init rfl) rfl ?_
  refine zg_newI (N := 32) C (by decide) rfl rfl (zdec zmk_st_init rfl) ⟨rfl, rfl⟩ (fun q5 => ?_)
  show zG _ 42 [(0, .ref h0)] [.ref q5, .ref h0] [(h0, .inr (7, [.ref q1, .ref q2, .ref q3, .int 0, .ref q4, .null, .int 0, .null])), (q1, .inl (cA 0, 32, .inl (fun _ => 0))), (q2, .inl (cA 0, 32, .inl (fun _ => 0))), (q3, .inl (cA 0, 128, .inl (fun _ => 0))), (q4, .inl (cA 0, 32, .inl (fun _ => 0))), (q5, .inl (cA 0, 32, .inl (fun _ => 0)))] 5 256
  refine zg_putF (ci := 7) (q0 := 0) (kf := 5) C hin zto7 zn7 rfl rfl (Nat.le_of_ble_eq_true rfl) zfk_75 rfl rfl (zto7 5 (Nat.le_of_ble_eq_true rfl)) rfl rfl (Nat.le_of_ble_eq_true rfl) (zdec zmk_st_init rfl) ?_
  show zG _ 45 [(0, .ref h0)] [] [(h0, .inr (7, [.ref q1, .ref q2, .ref q3, .int 0, .ref q4, .ref q5, .int 0, .null])), (q1, .inl (cA 0, 32, .inl (fun _ => 0))), (q2, .inl (cA 0, 32, .inl (fun _ => 0))), (q3, .inl (cA 0, 128, .inl (fun _ => 0))), (q4, .inl (cA 0, 32, .inl (fun _ => 0))), (q5, .inl (cA 0, 32, .inl (fun _ => 0)))] 5 256
  refine zg_aload (j := 0) C (zdec zmk_st_init rfl) rfl rfl ?_
  refine zg_sipush (v := 160) C (zdec zmk_st_init rfl) rfl ?_
  refine zg_newI (N := 160) C (by decide) rfl rfl (zdec zmk_st_init rfl) ⟨rfl, rfl⟩ (fun q6 => ?_)
  show zG _ 51 [(0, .ref h0)] [.ref q6, .ref h0] [(h0, .inr (7, [.ref q1, .ref q2, .ref q3, .int 0, .ref q4, .ref q5, .int 0, .null])), (q1, .inl (cA 0, 32, .inl (fun _ => 0))), (q2, .inl (cA 0, 32, .inl (fun _ => 0))), (q3, .inl (cA 0, 128, .inl (fun _ => 0))), (q4, .inl (cA 0, 32, .inl (fun _ => 0))), (q5, .inl (cA 0, 32, .inl (fun _ => 0))), (q6, .inl (cA 0, 160, .inl (fun _ => 0)))] 6 416
  refine zg_putF (ci := 7) (q0 := 0) (kf := 7) C hin zto7 zn7 rfl rfl (Nat.le_of_ble_eq_true rfl) zfk_78 rfl rfl (zto7 7 (Nat.le_of_ble_eq_true rfl)) rfl rfl (Nat.le_of_ble_eq_true rfl) (zdec zmk_st_init rfl) ?_
  show zG _ 54 [(0, .ref h0)] [] [(h0, .inr (7, [.ref q1, .ref q2, .ref q3, .int 0, .ref q4, .ref q5, .int 0, .ref q6])), (q1, .inl (cA 0, 32, .inl (fun _ => 0))), (q2, .inl (cA 0, 32, .inl (fun _ => 0))), (q3, .inl (cA 0, 128, .inl (fun _ => 0))), (q4, .inl (cA 0, 32, .inl (fun _ => 0))), (q5, .inl (cA 0, 32, .inl (fun _ => 0))), (q6, .inl (cA 0, 160, .inl (fun _ => 0)))] 6 416
  refine zg_aload (j := 0) C (zdec zmk_st_init rfl) rfl rfl ?_
  refine zg_get (ci := 7) (q0 := 0) (kf := 0) C rfl rfl (Nat.le_of_ble_eq_true rfl) zfk_65 rfl rfl (zdec zmk_st_init rfl) ?_
  refine zg_bipush (v := 20) C (zdec zmk_st_init rfl) rfl ?_
  refine zg_perm (w' := [(h0, .inr (7, [.ref q1, .ref q2, .ref q3, .int 0, .ref q4, .ref q5, .int 0, .ref q6])), (q2, .inl (cA 0, 32, .inl (fun _ => 0))), (q3, .inl (cA 0, 128, .inl (fun _ => 0))), (q4, .inl (cA 0, 32, .inl (fun _ => 0))), (q5, .inl (cA 0, 32, .inl (fun _ => 0))), (q6, .inl (cA 0, 160, .inl (fun _ => 0)))] ++ [(q1, .inl (cA 0, 32, .inl (fun _ => 0)))]) [0, 2, 3, 4, 5, 6, 1] rfl rfl rfl ?_
  refine zg_fill C zfk_62 ⟨rfl, rfl⟩ (zdec zmk_st_init rfl) rfl (by decide) ⟨rfl, rfl⟩ ?_
  refine zg_perm (w' := [(h0, .inr (7, [.ref q1, .ref q2, .ref q3, .int 0, .ref q4, .ref q5, .int 0, .ref q6])), (q1, .inl (cA 0, 32, .inl (fun j => if j < 32 then 20 else (fun _ => 0) j))), (q2, .inl (cA 0, 32, .inl (fun _ => 0))), (q3, .inl (cA 0, 128, .inl (fun _ => 0))), (q4, .inl (cA 0, 32, .inl (fun _ => 0))), (q5, .inl (cA 0, 32, .inl (fun _ => 0))), (q6, .inl (cA 0, 160, .inl (fun _ => 0)))]) [0, 6, 1, 2, 3, 4, 5] rfl rfl rfl ?_
  show zG _ 63 [(0, .ref h0)] [] [(h0, .inr (7, [.ref q1, .ref q2, .ref q3, .int 0, .ref q4, .ref q5, .int 0, .ref q6])), (q1, .inl (cA 0, 32, .inl (fun j => if j < 32 then 20 else (fun _ => 0) j))), (q2, .inl (cA 0, 32, .inl (fun _ => 0))), (q3, .inl (cA 0, 128, .inl (fun _ => 0))), (q4, .inl (cA 0, 32, .inl (fun _ => 0))), (q5, .inl (cA 0, 32, .inl (fun _ => 0))), (q6, .inl (cA 0, 160, .inl (fun _ => 0)))] 6 416
  exact zg_ret C hr hlo (zdec zmk_st_init rfl) ⟨rfl, rfl⟩ [q1, q2, q3, q4, q5, q6] rfl rfl
def gi_tp_init (cA : Nat → ClassId) (h0 : Nat) (q : List Nat) : va_W := [(h0, .inr (9, [.ref (q.getD 0 0), .int 0, .ref (q.getD 1 0), .int 0, .int 0])), ((q.getD 0 0), .inl (cA 0, 120, .inl (fun _ => 0))), ((q.getD 1 0), .inl (cA 0, 121, .inl (fun _ => 0)))]
set_option maxHeartbeats 4000000 in
set_option maxRecDepth 100000 in
theorem ki_tp_init : zKi zm_tp_init ({ frames := 1, cells := 2, slots := 241, locals := 64 }) 2 241 2 (9, [.null, .int 0, .null, .int 0, .int 0]) gi_tp_init := by
  refine zKi_of zmk_tp_init rfl rfl rfl (fun p l e s m args below meth c D cA ad A h0 C hin hr hlo => ?_)
  refine zg_aload (j := 0) C (zdec zmk_tp_init rfl) rfl rfl ?_
  refine zg_obj C zfk_101 (zdec zmk_tp_init rfl) rfl rfl ?_
  refine zg_aload (j := 0) C (zdec zmk_tp_init rfl) rfl rfl ?_
  refine zg_bipush (v := 120) C (zdec zmk_tp_init rfl) rfl ?_
  refine zg_newI (N := 120) C (by decide) rfl rfl (zdec zmk_tp_init rfl) ⟨rfl, rfl⟩ (fun q1 => ?_)
  show zG _ 9 [(0, .ref h0)] [.ref q1, .ref h0] [(h0, .inr (9, [.null, .int 0, .null, .int 0, .int 0])), (q1, .inl (cA 0, 120, .inl (fun _ => 0)))] 1 120
  refine zg_putF (ci := 9) (q0 := 0) (kf := 0) C hin zto9 zn9 rfl rfl (Nat.le_of_ble_eq_true rfl) zfk_102 rfl rfl (zto9 0 (Nat.le_of_ble_eq_true rfl)) rfl rfl (Nat.le_of_ble_eq_true rfl) (zdec zmk_tp_init rfl) ?_
  show zG _ 12 [(0, .ref h0)] [] [(h0, .inr (9, [.ref q1, .int 0, .null, .int 0, .int 0])), (q1, .inl (cA 0, 120, .inl (fun _ => 0)))] 1 120
  refine zg_aload (j := 0) C (zdec zmk_tp_init rfl) rfl rfl ?_
  refine zg_bipush (v := 121) C (zdec zmk_tp_init rfl) rfl ?_
  refine zg_newI (N := 121) C (by decide) rfl rfl (zdec zmk_tp_init rfl) ⟨rfl, rfl⟩ (fun q2 => ?_)
  show zG _ 17 [(0, .ref h0)] [.ref q2, .ref h0] [(h0, .inr (9, [.ref q1, .int 0, .null, .int 0, .int 0])), (q1, .inl (cA 0, 120, .inl (fun _ => 0))), (q2, .inl (cA 0, 121, .inl (fun _ => 0)))] 2 241
  refine zg_putF (ci := 9) (q0 := 0) (kf := 2) C hin zto9 zn9 rfl rfl (Nat.le_of_ble_eq_true rfl) zfk_105 rfl rfl (zto9 2 (Nat.le_of_ble_eq_true rfl)) rfl rfl (Nat.le_of_ble_eq_true rfl) (zdec zmk_tp_init rfl) ?_
  show zG _ 20 [(0, .ref h0)] [] [(h0, .inr (9, [.ref q1, .int 0, .ref q2, .int 0, .int 0])), (q1, .inl (cA 0, 120, .inl (fun _ => 0))), (q2, .inl (cA 0, 121, .inl (fun _ => 0)))] 2 241
  exact zg_ret C hr hlo (zdec zmk_tp_init rfl) ⟨rfl, rfl⟩ [q1, q2] rfl rfl
def gi_lw_init (cA : Nat → ClassId) (h0 : Nat) (q : List Nat) : va_W := [(h0, .inr (2, [.ref (q.getD 0 0), .ref (q.getD 1 0), .int 0, .int 0])), ((q.getD 0 0), .inl (cA 0, 121, .inl (fun _ => 0))), ((q.getD 1 0), .inl (cA 0, 121, .inl (fun _ => 0)))]
set_option maxHeartbeats 4000000 in
set_option maxRecDepth 100000 in
theorem ki_lw_init : zKi zm_lw_init ({ frames := 1, cells := 2, slots := 242, locals := 64 }) 2 242 2 (2, [.null, .null, .int 0, .int 0]) gi_lw_init := by
  refine zKi_of zmk_lw_init rfl rfl rfl (fun p l e s m args below meth c D cA ad A h0 C hin hr hlo => ?_)
  refine zg_aload (j := 0) C (zdec zmk_lw_init rfl) rfl rfl ?_
  refine zg_obj C zfk_132 (zdec zmk_lw_init rfl) rfl rfl ?_
  refine zg_aload (j := 0) C (zdec zmk_lw_init rfl) rfl rfl ?_
  refine zg_bipush (v := 121) C (zdec zmk_lw_init rfl) rfl ?_
  refine zg_newI (N := 121) C (by decide) rfl rfl (zdec zmk_lw_init rfl) ⟨rfl, rfl⟩ (fun q1 => ?_)
  show zG _ 9 [(0, .ref h0)] [.ref q1, .ref h0] [(h0, .inr (2, [.null, .null, .int 0, .int 0])), (q1, .inl (cA 0, 121, .inl (fun _ => 0)))] 1 121
  refine zg_putF (ci := 2) (q0 := 0) (kf := 0) C hin zto2 zn2 rfl rfl (Nat.le_of_ble_eq_true rfl) zfk_133 rfl rfl (zto2 0 (Nat.le_of_ble_eq_true rfl)) rfl rfl (Nat.le_of_ble_eq_true rfl) (zdec zmk_lw_init rfl) ?_
  show zG _ 12 [(0, .ref h0)] [] [(h0, .inr (2, [.ref q1, .null, .int 0, .int 0])), (q1, .inl (cA 0, 121, .inl (fun _ => 0)))] 1 121
  refine zg_aload (j := 0) C (zdec zmk_lw_init rfl) rfl rfl ?_
  refine zg_bipush (v := 121) C (zdec zmk_lw_init rfl) rfl ?_
  refine zg_newI (N := 121) C (by decide) rfl rfl (zdec zmk_lw_init rfl) ⟨rfl, rfl⟩ (fun q2 => ?_)
  show zG _ 17 [(0, .ref h0)] [.ref q2, .ref h0] [(h0, .inr (2, [.ref q1, .null, .int 0, .int 0])), (q1, .inl (cA 0, 121, .inl (fun _ => 0))), (q2, .inl (cA 0, 121, .inl (fun _ => 0)))] 2 242
  refine zg_putF (ci := 2) (q0 := 0) (kf := 1) C hin zto2 zn2 rfl rfl (Nat.le_of_ble_eq_true rfl) zfk_134 rfl rfl (zto2 1 (Nat.le_of_ble_eq_true rfl)) rfl rfl (Nat.le_of_ble_eq_true rfl) (zdec zmk_lw_init rfl) ?_
  show zG _ 20 [(0, .ref h0)] [] [(h0, .inr (2, [.ref q1, .ref q2, .int 0, .int 0])), (q1, .inl (cA 0, 121, .inl (fun _ => 0))), (q2, .inl (cA 0, 121, .inl (fun _ => 0)))] 2 242
  exact zg_ret C hr hlo (zdec zmk_lw_init rfl) ⟨rfl, rfl⟩ [q1, q2] rfl rfl
def gi_ls_init (cA : Nat → ClassId) (h0 : Nat) (q : List Nat) : va_W := [(h0, .inr (3, [.ref (q.getD 0 0), .ref (q.getD 3 0), .ref (q.getD 6 0), .int 0, .ref (q.getD 7 0)])), ((q.getD 0 0), .inr (2, [.ref (q.getD 1 0), .ref (q.getD 2 0), .int 0, .int 0])), ((q.getD 1 0), .inl (cA 0, 121, .inl (fun _ => 0))), ((q.getD 2 0), .inl (cA 0, 121, .inl (fun _ => 0))), ((q.getD 3 0), .inr (2, [.ref (q.getD 4 0), .ref (q.getD 5 0), .int 0, .int 0])), ((q.getD 4 0), .inl (cA 0, 121, .inl (fun _ => 0))), ((q.getD 5 0), .inl (cA 0, 121, .inl (fun _ => 0))), ((q.getD 6 0), .inl (cA 0, 9, .inl (fun _ => 0))), ((q.getD 7 0), .inl (cA 0, 1056, .inl (fun _ => 0)))]
set_option maxHeartbeats 4000000 in
set_option maxRecDepth 100000 in
theorem ki_ls_init : zKi zm_ls_init ({ frames := 2, cells := 8, slots := 1557, locals := 128 }) 8 1557 8 (3, [.null, .null, .null, .int 0, .null]) gi_ls_init := by
  refine zKi_of zmk_ls_init rfl rfl rfl (fun p l e s m args below meth c D cA ad A h0 C hin hr hlo => ?_)
  refine zg_aload (j := 0) C (zdec zmk_ls_init rfl) rfl rfl ?_
  refine zg_obj C zfk_126 (zdec zmk_ls_init rfl) rfl rfl ?_
  refine zg_aload (j := 0) C (zdec zmk_ls_init rfl) rfl rfl ?_
  refine zg_new (ci := 2) (fs := [.null, .null, .int 0, .int 0]) C zt2 zto2 rfl zfk_127 zfk_128 zci_2 zfs_2 (zdec zmk_ls_init rfl) ⟨rfl, rfl⟩ (fun q1 => ?_)
  refine zg_dup C (zdec zmk_ls_init rfl) rfl ?_
  refine zg_init (M := zm_lw_init) C ki_lw_init zmk_lw_init (Or.inr zfk_129) zfk_130 zci_2 rfl ⟨zcn_2.1, zcn_2.2, by decide +kernel⟩ rfl ⟨rfl, rfl⟩ rfl rfl (zdec zmk_ls_init rfl) ⟨rfl, rfl⟩ rfl (fun r2 _ => ?_)
  show zG _ 12 [(0, .ref h0)] [.ref q1, .ref h0] [(h0, .inr (3, [.null, .null, .null, .int 0, .null])), (q1, .inr (2, [.ref (r2.getD 0 0), .ref (r2.getD 1 0), .int 0, .int 0])), ((r2.getD 0 0), .inl (cA 0, 121, .inl (fun _ => 0))), ((r2.getD 1 0), .inl (cA 0, 121, .inl (fun _ => 0)))] 3 246
  refine zg_putF (ci := 3) (q0 := 0) (kf := 0) C hin zto3 zn3 rfl rfl (Nat.le_of_ble_eq_true rfl) zfk_149 rfl rfl (zto3 0 (Nat.le_of_ble_eq_true rfl)) rfl rfl (Nat.le_of_ble_eq_true rfl) (zdec zmk_ls_init rfl) ?_
  show zG _ 15 [(0, .ref h0)] [] [(h0, .inr (3, [.ref q1, .null, .null, .int 0, .null])), (q1, .inr (2, [.ref (r2.getD 0 0), .ref (r2.getD 1 0), .int 0, .int 0])), ((r2.getD 0 0), .inl (cA 0, 121, .inl (fun _ => 0))), ((r2.getD 1 0), .inl (cA 0, 121, .inl (fun _ => 0)))] 3 246
  refine zg_aload (j := 0) C (zdec zmk_ls_init rfl) rfl rfl ?_
  refine zg_new (ci := 2) (fs := [.null, .null, .int 0, .int 0]) C zt2 zto2 rfl zfk_127 zfk_128 zci_2 zfs_2 (zdec zmk_ls_init rfl) ⟨rfl, rfl⟩ (fun q3 => ?_)
  refine zg_dup C (zdec zmk_ls_init rfl) rfl ?_
  refine zg_init (M := zm_lw_init) C ki_lw_init zmk_lw_init (Or.inr zfk_129) zfk_130 zci_2 rfl ⟨zcn_2.1, zcn_2.2, by decide +kernel⟩ rfl ⟨rfl, rfl⟩ rfl rfl (zdec zmk_ls_init rfl) ⟨rfl, rfl⟩ rfl (fun r4 _ => ?_)
  show zG _ 23 [(0, .ref h0)] [.ref q3, .ref h0] [(h0, .inr (3, [.ref q1, .null, .null, .int 0, .null])), (q1, .inr (2, [.ref (r2.getD 0 0), .ref (r2.getD 1 0), .int 0, .int 0])), ((r2.getD 0 0), .inl (cA 0, 121, .inl (fun _ => 0))), ((r2.getD 1 0), .inl (cA 0, 121, .inl (fun _ => 0))), (q3, .inr (2, [.ref (r4.getD 0 0), .ref (r4.getD 1 0), .int 0, .int 0])), ((r4.getD 0 0), .inl (cA 0, 121, .inl (fun _ => 0))), ((r4.getD 1 0), .inl (cA 0, 121, .inl (fun _ => 0)))] 6 492
  refine zg_putF (ci := 3) (q0 := 0) (kf := 1) C hin zto3 zn3 rfl rfl (Nat.le_of_ble_eq_true rfl) zfk_150 rfl rfl (zto3 1 (Nat.le_of_ble_eq_true rfl)) rfl rfl (Nat.le_of_ble_eq_true rfl) (zdec zmk_ls_init rfl) ?_
  show zG _ 26 [(0, .ref h0)] [] [(h0, .inr (3, [.ref q1, .ref q3, .null, .int 0, .null])), (q1, .inr (2, [.ref (r2.getD 0 0), .ref (r2.getD 1 0), .int 0, .int 0])), ((r2.getD 0 0), .inl (cA 0, 121, .inl (fun _ => 0))), ((r2.getD 1 0), .inl (cA 0, 121, .inl (fun _ => 0))), (q3, .inr (2, [.ref (r4.getD 0 0), .ref (r4.getD 1 0), .int 0, .int 0])), ((r4.getD 0 0), .inl (cA 0, 121, .inl (fun _ => 0))), ((r4.getD 1 0), .inl (cA 0, 121, .inl (fun _ => 0)))] 6 492
  refine zg_aload (j := 0) C (zdec zmk_ls_init rfl) rfl rfl ?_
  refine zg_names C (Or.inr zfk_147) (zdec zmk_ls_init rfl) ?_
  refine zg_nlen C (zdec zmk_ls_init rfl) ?_
  refine zg_newI (N := 9) C (by decide) rfl rfl (zdec zmk_ls_init rfl) ⟨rfl, rfl⟩ (fun q5 => ?_)
  show zG _ 33 [(0, .ref h0)] [.ref q5, .ref h0] [(h0, .inr (3, [.ref q1, .ref q3, .null, .int 0, .null])), (q1, .inr (2, [.ref (r2.getD 0 0), .ref (r2.getD 1 0), .int 0, .int 0])), ((r2.getD 0 0), .inl (cA 0, 121, .inl (fun _ => 0))), ((r2.getD 1 0), .inl (cA 0, 121, .inl (fun _ => 0))), (q3, .inr (2, [.ref (r4.getD 0 0), .ref (r4.getD 1 0), .int 0, .int 0])), ((r4.getD 0 0), .inl (cA 0, 121, .inl (fun _ => 0))), ((r4.getD 1 0), .inl (cA 0, 121, .inl (fun _ => 0))), (q5, .inl (cA 0, 9, .inl (fun _ => 0)))] 7 501
  refine zg_putF (ci := 3) (q0 := 0) (kf := 2) C hin zto3 zn3 rfl rfl (Nat.le_of_ble_eq_true rfl) zfk_151 rfl rfl (zto3 2 (Nat.le_of_ble_eq_true rfl)) rfl rfl (Nat.le_of_ble_eq_true rfl) (zdec zmk_ls_init rfl) ?_
  show zG _ 36 [(0, .ref h0)] [] [(h0, .inr (3, [.ref q1, .ref q3, .ref q5, .int 0, .null])), (q1, .inr (2, [.ref (r2.getD 0 0), .ref (r2.getD 1 0), .int 0, .int 0])), ((r2.getD 0 0), .inl (cA 0, 121, .inl (fun _ => 0))), ((r2.getD 1 0), .inl (cA 0, 121, .inl (fun _ => 0))), (q3, .inr (2, [.ref (r4.getD 0 0), .ref (r4.getD 1 0), .int 0, .int 0])), ((r4.getD 0 0), .inl (cA 0, 121, .inl (fun _ => 0))), ((r4.getD 1 0), .inl (cA 0, 121, .inl (fun _ => 0))), (q5, .inl (cA 0, 9, .inl (fun _ => 0)))] 7 501
  refine zg_aload (j := 0) C (zdec zmk_ls_init rfl) rfl rfl ?_
  refine zg_sipush (v := 1056) C (zdec zmk_ls_init rfl) rfl ?_
  refine zg_newI (N := 1056) C (by decide) rfl rfl (zdec zmk_ls_init rfl) ⟨rfl, rfl⟩ (fun q6 => ?_)
  show zG _ 42 [(0, .ref h0)] [.ref q6, .ref h0] [(h0, .inr (3, [.ref q1, .ref q3, .ref q5, .int 0, .null])), (q1, .inr (2, [.ref (r2.getD 0 0), .ref (r2.getD 1 0), .int 0, .int 0])), ((r2.getD 0 0), .inl (cA 0, 121, .inl (fun _ => 0))), ((r2.getD 1 0), .inl (cA 0, 121, .inl (fun _ => 0))), (q3, .inr (2, [.ref (r4.getD 0 0), .ref (r4.getD 1 0), .int 0, .int 0])), ((r4.getD 0 0), .inl (cA 0, 121, .inl (fun _ => 0))), ((r4.getD 1 0), .inl (cA 0, 121, .inl (fun _ => 0))), (q5, .inl (cA 0, 9, .inl (fun _ => 0))), (q6, .inl (cA 0, 1056, .inl (fun _ => 0)))] 8 1557
  refine zg_putF (ci := 3) (q0 := 0) (kf := 4) C hin zto3 zn3 rfl rfl (Nat.le_of_ble_eq_true rfl) zfk_153 rfl rfl (zto3 4 (Nat.le_of_ble_eq_true rfl)) rfl rfl (Nat.le_of_ble_eq_true rfl) (zdec zmk_ls_init rfl) ?_
  show zG _ 45 [(0, .ref h0)] [] [(h0, .inr (3, [.ref q1, .ref q3, .ref q5, .int 0, .ref q6])), (q1, .inr (2, [.ref (r2.getD 0 0), .ref (r2.getD 1 0), .int 0, .int 0])), ((r2.getD 0 0), .inl (cA 0, 121, .inl (fun _ => 0))), ((r2.getD 1 0), .inl (cA 0, 121, .inl (fun _ => 0))), (q3, .inr (2, [.ref (r4.getD 0 0), .ref (r4.getD 1 0), .int 0, .int 0])), ((r4.getD 0 0), .inl (cA 0, 121, .inl (fun _ => 0))), ((r4.getD 1 0), .inl (cA 0, 121, .inl (fun _ => 0))), (q5, .inl (cA 0, 9, .inl (fun _ => 0))), (q6, .inl (cA 0, 1056, .inl (fun _ => 0)))] 8 1557
  exact zg_ret C hr hlo (zdec zmk_ls_init rfl) ⟨rfl, rfl⟩ [q1, (r2.getD 0 0), (r2.getD 1 0), q3, (r4.getD 0 0), (r4.getD 1 0), q5, q6] rfl rfl
def gi_dy_init (cA : Nat → ClassId) (h0 : Nat) (q : List Nat) : va_W := [(h0, .inr (0, [.ref (q.getD 0 0), .int 0, .int 0, .int 0, .int 0, .int 0, .int 0, .int 0, .int 0, .int 0, .int 0, .int 0, .int 0, .int 0])), ((q.getD 0 0), .inl (cA 0, 32, .inl (fun _ => 0)))]
set_option maxHeartbeats 4000000 in
set_option maxRecDepth 100000 in
theorem ki_dy_init : zKi zm_dy_init ({ frames := 1, cells := 1, slots := 32, locals := 64 }) 1 32 1 (0, [.null, .int 0, .int 0, .int 0, .int 0, .int 0, .int 0, .int 0, .int 0, .int 0, .int 0, .int 0, .int 0, .int 0]) gi_dy_init := by
  refine zKi_of zmk_dy_init rfl rfl rfl (fun p l e s m args below meth c D cA ad A h0 C hin hr hlo => ?_)
  refine zg_aload (j := 0) C (zdec zmk_dy_init rfl) rfl rfl ?_
  refine zg_obj C zfk_170 (zdec zmk_dy_init rfl) rfl rfl ?_
  refine zg_aload (j := 0) C (zdec zmk_dy_init rfl) rfl rfl ?_
  refine zg_bipush (v := 32) C (zdec zmk_dy_init rfl) rfl ?_
  refine zg_newI (N := 32) C (by decide) rfl rfl (zdec zmk_dy_init rfl) ⟨rfl, rfl⟩ (fun q1 => ?_)
  show zG _ 9 [(0, .ref h0)] [.ref q1, .ref h0] [(h0, .inr (0, [.null, .int 0, .int 0, .int 0, .int 0, .int 0, .int 0, .int 0, .int 0, .int 0, .int 0, .int 0, .int 0, .int 0])), (q1, .inl (cA 0, 32, .inl (fun _ => 0)))] 1 32
  refine zg_putF (ci := 0) (q0 := 0) (kf := 0) C hin zto0 zn0 rfl rfl (Nat.le_of_ble_eq_true rfl) zfk_171 rfl rfl (zto0 0 (Nat.le_of_ble_eq_true rfl)) rfl rfl (Nat.le_of_ble_eq_true rfl) (zdec zmk_dy_init rfl) ?_
  show zG _ 12 [(0, .ref h0)] [] [(h0, .inr (0, [.ref q1, .int 0, .int 0, .int 0, .int 0, .int 0, .int 0, .int 0, .int 0, .int 0, .int 0, .int 0, .int 0, .int 0])), (q1, .inl (cA 0, 32, .inl (fun _ => 0)))] 1 32
  exact zg_ret C hr hlo (zdec zmk_dy_init rfl) ⟨rfl, rfl⟩ [q1] rfl rfl
def gi_th_init (cA : Nat → ClassId) (h0 : Nat) (q : List Nat) : va_W := [(h0, .inr (10, [.ref (q.getD 0 0), .ref (q.getD 1 0)])), ((q.getD 0 0), .inl (cA 0, 8, .inl (fun _ => 0))), ((q.getD 1 0), .inl (cA 0, 3, .inl (fun _ => 0)))]
set_option maxHeartbeats 4000000 in
set_option maxRecDepth 100000 in
theorem ki_th_init : zKi zm_th_init ({ frames := 1, cells := 2, slots := 11, locals := 64 }) 2 11 2 (10, [.null, .null]) gi_th_init := by
  refine zKi_of zmk_th_init rfl rfl rfl (fun p l e s m args below meth c D cA ad A h0 C hin hr hlo => ?_)
  refine zg_aload (j := 0) C (zdec zmk_th_init rfl) rfl rfl ?_
  refine zg_obj C zfk_222 (zdec zmk_th_init rfl) rfl rfl ?_
  refine zg_aload (j := 0) C (zdec zmk_th_init rfl) rfl rfl ?_
  refine zg_bipush (v := 8) C (zdec zmk_th_init rfl) rfl ?_
  refine zg_newI (N := 8) C (by decide) rfl rfl (zdec zmk_th_init rfl) ⟨rfl, rfl⟩ (fun q1 => ?_)
  show zG _ 9 [(0, .ref h0)] [.ref q1, .ref h0] [(h0, .inr (10, [.null, .null])), (q1, .inl (cA 0, 8, .inl (fun _ => 0)))] 1 8
  refine zg_putF (ci := 10) (q0 := 0) (kf := 0) C hin zto10 zn10 rfl rfl (Nat.le_of_ble_eq_true rfl) zfk_223 rfl rfl (zto10 0 (Nat.le_of_ble_eq_true rfl)) rfl rfl (Nat.le_of_ble_eq_true rfl) (zdec zmk_th_init rfl) ?_
  show zG _ 12 [(0, .ref h0)] [] [(h0, .inr (10, [.ref q1, .null])), (q1, .inl (cA 0, 8, .inl (fun _ => 0)))] 1 8
  refine zg_aload (j := 0) C (zdec zmk_th_init rfl) rfl rfl ?_
  refine zg_iconst (v := 3) C (zdec zmk_th_init rfl) rfl ?_
  refine zg_newI (N := 3) C (by decide) rfl rfl (zdec zmk_th_init rfl) ⟨rfl, rfl⟩ (fun q2 => ?_)
  show zG _ 16 [(0, .ref h0)] [.ref q2, .ref h0] [(h0, .inr (10, [.ref q1, .null])), (q1, .inl (cA 0, 8, .inl (fun _ => 0))), (q2, .inl (cA 0, 3, .inl (fun _ => 0)))] 2 11
  refine zg_putF (ci := 10) (q0 := 0) (kf := 1) C hin zto10 zn10 rfl rfl (Nat.le_of_ble_eq_true rfl) zfk_225 rfl rfl (zto10 1 (Nat.le_of_ble_eq_true rfl)) rfl rfl (Nat.le_of_ble_eq_true rfl) (zdec zmk_th_init rfl) ?_
  show zG _ 19 [(0, .ref h0)] [] [(h0, .inr (10, [.ref q1, .ref q2])), (q1, .inl (cA 0, 8, .inl (fun _ => 0))), (q2, .inl (cA 0, 3, .inl (fun _ => 0)))] 2 11
  exact zg_ret C hr hlo (zdec zmk_th_init rfl) ⟨rfl, rfl⟩ [q1, q2] rfl rfl
def gi_sl_init (cA : Nat → ClassId) (h0 : Nat) (q : List Nat) : va_W := [(h0, .inr (6, [.ref (q.getD 0 0), .ref (q.getD 1 0), .ref (q.getD 2 0)])), ((q.getD 0 0), .inl (cA 0, 36, .inl (fun _ => 0))), ((q.getD 1 0), .inl (cA 0, 64, .inl (fun _ => 0))), ((q.getD 2 0), .inl (cA 0, 64, .inl (fun _ => 0)))]
set_option maxHeartbeats 4000000 in
set_option maxRecDepth 100000 in
theorem ki_sl_init : zKi zm_sl_init ({ frames := 1, cells := 3, slots := 164, locals := 64 }) 3 164 3 (6, [.null, .null, .null]) gi_sl_init := by
  refine zKi_of zmk_sl_init rfl rfl rfl (fun p l e s m args below meth c D cA ad A h0 C hin hr hlo => ?_)
  refine zg_aload (j := 0) C (zdec zmk_sl_init rfl) rfl rfl ?_
  refine zg_obj C zfk_237 (zdec zmk_sl_init rfl) rfl rfl ?_
  refine zg_aload (j := 0) C (zdec zmk_sl_init rfl) rfl rfl ?_
  refine zg_bipush (v := 36) C (zdec zmk_sl_init rfl) rfl ?_
  refine zg_newI (N := 36) C (by decide) rfl rfl (zdec zmk_sl_init rfl) ⟨rfl, rfl⟩ (fun q1 => ?_)
  show zG _ 9 [(0, .ref h0)] [.ref q1, .ref h0] [(h0, .inr (6, [.null, .null, .null])), (q1, .inl (cA 0, 36, .inl (fun _ => 0)))] 1 36
  refine zg_putF (ci := 6) (q0 := 0) (kf := 0) C hin zto6 zn6 rfl rfl (Nat.le_of_ble_eq_true rfl) zfk_238 rfl rfl (zto6 0 (Nat.le_of_ble_eq_true rfl)) rfl rfl (Nat.le_of_ble_eq_true rfl) (zdec zmk_sl_init rfl) ?_
  show zG _ 12 [(0, .ref h0)] [] [(h0, .inr (6, [.ref q1, .null, .null])), (q1, .inl (cA 0, 36, .inl (fun _ => 0)))] 1 36
  refine zg_aload (j := 0) C (zdec zmk_sl_init rfl) rfl rfl ?_
  refine zg_bipush (v := 64) C (zdec zmk_sl_init rfl) rfl ?_
  refine zg_newI (N := 64) C (by decide) rfl rfl (zdec zmk_sl_init rfl) ⟨rfl, rfl⟩ (fun q2 => ?_)
  show zG _ 17 [(0, .ref h0)] [.ref q2, .ref h0] [(h0, .inr (6, [.ref q1, .null, .null])), (q1, .inl (cA 0, 36, .inl (fun _ => 0))), (q2, .inl (cA 0, 64, .inl (fun _ => 0)))] 2 100
  refine zg_putF (ci := 6) (q0 := 0) (kf := 1) C hin zto6 zn6 rfl rfl (Nat.le_of_ble_eq_true rfl) zfk_239 rfl rfl (zto6 1 (Nat.le_of_ble_eq_true rfl)) rfl rfl (Nat.le_of_ble_eq_true rfl) (zdec zmk_sl_init rfl) ?_
  show zG _ 20 [(0, .ref h0)] [] [(h0, .inr (6, [.ref q1, .ref q2, .null])), (q1, .inl (cA 0, 36, .inl (fun _ => 0))), (q2, .inl (cA 0, 64, .inl (fun _ => 0)))] 2 100
  refine zg_aload (j := 0) C (zdec zmk_sl_init rfl) rfl rfl ?_
  refine zg_bipush (v := 64) C (zdec zmk_sl_init rfl) rfl ?_
  refine zg_newI (N := 64) C (by decide) rfl rfl (zdec zmk_sl_init rfl) ⟨rfl, rfl⟩ (fun q3 => ?_)
  show zG _ 25 [(0, .ref h0)] [.ref q3, .ref h0] [(h0, .inr (6, [.ref q1, .ref q2, .null])), (q1, .inl (cA 0, 36, .inl (fun _ => 0))), (q2, .inl (cA 0, 64, .inl (fun _ => 0))), (q3, .inl (cA 0, 64, .inl (fun _ => 0)))] 3 164
  refine zg_putF (ci := 6) (q0 := 0) (kf := 2) C hin zto6 zn6 rfl rfl (Nat.le_of_ble_eq_true rfl) zfk_240 rfl rfl (zto6 2 (Nat.le_of_ble_eq_true rfl)) rfl rfl (Nat.le_of_ble_eq_true rfl) (zdec zmk_sl_init rfl) ?_
  show zG _ 28 [(0, .ref h0)] [] [(h0, .inr (6, [.ref q1, .ref q2, .ref q3])), (q1, .inl (cA 0, 36, .inl (fun _ => 0))), (q2, .inl (cA 0, 64, .inl (fun _ => 0))), (q3, .inl (cA 0, 64, .inl (fun _ => 0)))] 3 164
  exact zg_ret C hr hlo (zdec zmk_sl_init rfl) ⟨rfl, rfl⟩ [q1, q2, q3] rfl rfl
def gi_gl_init (cA : Nat → ClassId) (h0 : Nat) (q : List Nat) : va_W := [(h0, .inr (1, [.ref (q.getD 0 0), .int 0, .ref (q.getD 1 0), .int 0, .int 0])), ((q.getD 0 0), .inl (cA 0, 50, .inl (fun _ => 0))), ((q.getD 1 0), .inl (cA 0, 24, .inl (fun _ => 0)))]
set_option maxHeartbeats 4000000 in
set_option maxRecDepth 100000 in
theorem ki_gl_init : zKi zm_gl_init ({ frames := 1, cells := 2, slots := 74, locals := 64 }) 2 74 2 (1, [.null, .int 0, .null, .int 0, .int 0]) gi_gl_init := by
  refine zKi_of zmk_gl_init rfl rfl rfl (fun p l e s m args below meth c D cA ad A h0 C hin hr hlo => ?_)
  refine zg_aload (j := 0) C (zdec zmk_gl_init rfl) rfl rfl ?_
  refine zg_obj C zfk_253 (zdec zmk_gl_init rfl) rfl rfl ?_
  refine zg_aload (j := 0) C (zdec zmk_gl_init rfl) rfl rfl ?_
  refine zg_bipush (v := 50) C (zdec zmk_gl_init rfl) rfl ?_
  refine zg_newI (N := 50) C (by decide) rfl rfl (zdec zmk_gl_init rfl) ⟨rfl, rfl⟩ (fun q1 => ?_)
  show zG _ 9 [(0, .ref h0)] [.ref q1, .ref h0] [(h0, .inr (1, [.null, .int 0, .null, .int 0, .int 0])), (q1, .inl (cA 0, 50, .inl (fun _ => 0)))] 1 50
  refine zg_putF (ci := 1) (q0 := 0) (kf := 0) C hin zto1 zn1 rfl rfl (Nat.le_of_ble_eq_true rfl) zfk_254 rfl rfl (zto1 0 (Nat.le_of_ble_eq_true rfl)) rfl rfl (Nat.le_of_ble_eq_true rfl) (zdec zmk_gl_init rfl) ?_
  show zG _ 12 [(0, .ref h0)] [] [(h0, .inr (1, [.ref q1, .int 0, .null, .int 0, .int 0])), (q1, .inl (cA 0, 50, .inl (fun _ => 0)))] 1 50
  refine zg_aload (j := 0) C (zdec zmk_gl_init rfl) rfl rfl ?_
  refine zg_bipush (v := 24) C (zdec zmk_gl_init rfl) rfl ?_
  refine zg_newI (N := 24) C (by decide) rfl rfl (zdec zmk_gl_init rfl) ⟨rfl, rfl⟩ (fun q2 => ?_)
  show zG _ 17 [(0, .ref h0)] [.ref q2, .ref h0] [(h0, .inr (1, [.ref q1, .int 0, .null, .int 0, .int 0])), (q1, .inl (cA 0, 50, .inl (fun _ => 0))), (q2, .inl (cA 0, 24, .inl (fun _ => 0)))] 2 74
  refine zg_putF (ci := 1) (q0 := 0) (kf := 2) C hin zto1 zn1 rfl rfl (Nat.le_of_ble_eq_true rfl) zfk_258 rfl rfl (zto1 2 (Nat.le_of_ble_eq_true rfl)) rfl rfl (Nat.le_of_ble_eq_true rfl) (zdec zmk_gl_init rfl) ?_
  show zG _ 20 [(0, .ref h0)] [] [(h0, .inr (1, [.ref q1, .int 0, .ref q2, .int 0, .int 0])), (q1, .inl (cA 0, 50, .inl (fun _ => 0))), (q2, .inl (cA 0, 24, .inl (fun _ => 0)))] 2 74
  exact zg_ret C hr hlo (zdec zmk_gl_init rfl) ⟨rfl, rfl⟩ [q1, q2] rfl rfl
def gi_sh_init (cA : Nat → ClassId) (h0 : Nat) (q : List Nat) : va_W := [(h0, .inr (5, [.int (-1), .int (-1), .int 0, .ref (q.getD 0 0)])), ((q.getD 0 0), .inl (cA 1, 60, .inr (.inl (fun _ => 0))))]
set_option maxHeartbeats 4000000 in
set_option maxRecDepth 100000 in
theorem ki_sh_init : zKi zm_sh_init ({ frames := 1, cells := 1, slots := 60, locals := 64 }) 1 60 1 (5, [.int 0, .int 0, .int 0, .null]) gi_sh_init := by
  refine zKi_of zmk_sh_init rfl rfl rfl (fun p l e s m args below meth c D cA ad A h0 C hin hr hlo => ?_)
  refine zg_aload (j := 0) C (zdec zmk_sh_init rfl) rfl rfl ?_
  refine zg_obj C zfk_280 (zdec zmk_sh_init rfl) rfl rfl ?_
  refine zg_aload (j := 0) C (zdec zmk_sh_init rfl) rfl rfl ?_
  refine zg_iconst (v := (-1)) C (zdec zmk_sh_init rfl) rfl ?_
  refine zg_put (ci := 5) (q0 := 0) (kf := 0) C zto5 zn5 rfl rfl (Nat.le_of_ble_eq_true rfl) zfk_281 rfl rfl (zto5 0 (Nat.le_of_ble_eq_true rfl)) rfl rfl (Nat.le_of_ble_eq_true rfl) (zdec zmk_sh_init rfl) ?_
  show zG _ 9 [(0, .ref h0)] [] [(h0, .inr (5, [.int (-1), .int 0, .int 0, .null]))] 0 0
  refine zg_aload (j := 0) C (zdec zmk_sh_init rfl) rfl rfl ?_
  refine zg_iconst (v := (-1)) C (zdec zmk_sh_init rfl) rfl ?_
  refine zg_put (ci := 5) (q0 := 0) (kf := 1) C zto5 zn5 rfl rfl (Nat.le_of_ble_eq_true rfl) zfk_283 rfl rfl (zto5 1 (Nat.le_of_ble_eq_true rfl)) rfl rfl (Nat.le_of_ble_eq_true rfl) (zdec zmk_sh_init rfl) ?_
  show zG _ 14 [(0, .ref h0)] [] [(h0, .inr (5, [.int (-1), .int (-1), .int 0, .null]))] 0 0
  refine zg_aload (j := 0) C (zdec zmk_sh_init rfl) rfl rfl ?_
  refine zg_bipush (v := 60) C (zdec zmk_sh_init rfl) rfl ?_
  refine zg_newL (N := 60) C (by decide) rfl rfl (zdec zmk_sh_init rfl) ⟨rfl, rfl⟩ (fun q1 => ?_)
  show zG _ 19 [(0, .ref h0)] [.ref q1, .ref h0] [(h0, .inr (5, [.int (-1), .int (-1), .int 0, .null])), (q1, .inl (cA 1, 60, .inr (.inl (fun _ => 0))))] 1 60
  refine zg_putF (ci := 5) (q0 := 0) (kf := 3) C hin zto5 zn5 rfl rfl (Nat.le_of_ble_eq_true rfl) zfk_287 rfl rfl (zto5 3 (Nat.le_of_ble_eq_true rfl)) rfl rfl (Nat.le_of_ble_eq_true rfl) (zdec zmk_sh_init rfl) ?_
  show zG _ 22 [(0, .ref h0)] [] [(h0, .inr (5, [.int (-1), .int (-1), .int 0, .ref q1])), (q1, .inl (cA 1, 60, .inr (.inl (fun _ => 0))))] 1 60
  exact zg_ret C hr hlo (zdec zmk_sh_init rfl) ⟨rfl, rfl⟩ [q1] rfl rfl
