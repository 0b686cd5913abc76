theorem tg_X7_castShadow : xTgt yX7_castShadow cX7_castShadow 3 (some .int) 2 := ⟨ww_688, ww_574, by decide, by decide +kernel, by decide +kernel⟩
section
variable {Γ : xG} {p : Program} {l : Launch} {e : Env} {s : State} {m : MethodId} {args : Array Value} {below : List Frame} {meth : Method} {c : Code} {rF : Int32 ⊕ String} {wF : xW}
end
set_option maxRecDepth 100000 in
set_option maxHeartbeats 4000000 in
theorem ct_X7_castShadow {Γ : xG} {l : Launch} (hl : l.stackTraces = false) (a0 : Nat) (x1 : Int32) (x2 : Int32) (w0 : xW) (rF : Int32 ⊕ String) (wF : xW) (hyp : f_X7_castShadow a0 x1 x2 w0 = some (rF, wF)) : xMet Γ l yX7_castShadow (xws yX7_castShadow cX7_castShadow 3 (some .int)) 3 xI [.ref a0, .int x1, .int x2] w0 rF wF (x_mc rF) (x_ms rF) := by
  refine xOfW tg_X7_castShadow hl (lv0 := [(0, .ref a0), (1, .int x1), (2, .int x2)]) (Nat.le_of_ble_eq_true rfl) rfl ?_
  intro p e s m below meth c G hno hin
  rw [f_X7_castShadow] at hyp
  refine r_aload_n G 0 dX7_castShadow_0 rfl rfl ?_
  obtain ⟨o3, hyp⟩ := x_chk hyp
  refine r_callV (ι := xV) (T := TX7) (N := 22) (ci := 7) (b := a0) (rest := []) (As := []) G hno tg_X7_remembers (fun r w' h => ct_X7_remembers (xhl G) _ _ r w' h) o3 hyp rfl ww_604 ww_606 ww_605 (by decide) (by decide) rfl rfl (xroom (Nat.le_of_ble_eq_true rfl)) dX7_castShadow_1 (push := (fun _ => [])) (fun _ => rfl) (fun _ w1 hyp => ?_)
  refine r_aload_n G 0 dX7_castShadow_4 rfl rfl ?_
  refine r_aload_n G 0 dX7_castShadow_5 rfl rfl ?_
  refine r_iload_n G 1 dX7_castShadow_6 rfl rfl ?_
  refine r_iload_n G 2 dX7_castShadow_7 rfl rfl ?_
  obtain ⟨o6, hyp⟩ := x_chk hyp
  refine r_callV (ι := xI) (T := TX7) (N := 22) (ci := 7) (b := a0) (rest := [.ref a0]) (As := [.int x1, .int x2]) G hno tg_X7_casts (fun r w' h => ct_X7_casts (xhl G) _ _ _ _ r w' h) o6 hyp rfl ww_685 ww_687 ww_686 (by decide) (by decide) rfl rfl (xroom (Nat.le_of_ble_eq_true rfl)) dX7_castShadow_8 (push := (fun r5 => [.int r5, .ref a0])) (fun _ => rfl) (fun r5 w4 hyp => ?_)
  obtain ⟨o9, hyp⟩ := x_chk hyp
  refine r_callV (ι := xI) (T := TX7) (N := 22) (ci := 7) (b := a0) (rest := []) (As := [.int r5]) G hno tg_X7_ends (fun r w' h => ct_X7_ends (xhl G) _ _ _ r w' h) o9 hyp rfl ww_610 ww_612 ww_611 (by decide) (by decide) rfl rfl (xroom (Nat.le_of_ble_eq_true rfl)) dX7_castShadow_11 (push := (fun r8 => [.int r8])) (fun _ => rfl) (fun r8 w7 hyp => ?_)
  exact r_iret G hyp rfl (Nat.zero_le _) (Nat.zero_le _) dX7_castShadow_14
theorem tg_X7_cellsOf : xTgt yX7_cellsOf cX7_cellsOf 4 (some .int) 1 := ⟨ww_689, ww_574, by decide, by decide +kernel, by decide +kernel⟩
section
variable {Γ : xG} {p : Program} {l : Launch} {e : Env} {s : State} {m : MethodId} {args : Array Value} {below : List Frame} {meth : Method} {c : Code} {rF : Int32 ⊕ String} {wF : xW}
set_option maxRecDepth 100000 in
set_option maxHeartbeats 4000000 in
theorem nd_X7_cellsOf_L4 (G : xCx Γ p l s m args meth c RX7 cX7_cellsOf 4 (some .int)) (hno : ∀ x ∈ c.exceptionTable.toList, False) : ∀ (n : Nat) (a0 : Nat) (x1 : Int32) (x2 : Int32) (x3 : Int32) (w0 : xW), f_X7_cellsOf_L4 n a0 x1 x2 x3 w0 = some (rF, wF) → xAW Γ p l e (xRm 2 (x_mc rF) (x_ms rF)) s m args below meth c 4 (xQm Γ below xI rF wF args s (x_mc rF) (x_ms rF)) w0 0 0 4 [(0, .ref a0), (1, .int x1), (2, .int x2), (3, .int x3)] [] := by
  intro n
  induction n with
  | zero =>
    intro a0 x1 x2 x3 w0 hyp
    cases (show (none : xO Int32) = some (rF, wF) from hyp)
  | succ n ih =>
    intro a0 x1 x2 x3 w0 hyp
    rw [f_X7_cellsOf_L4] at hyp
    refine r_iload_n G 3 dX7_cellsOf_4 rfl rfl ?_
    refine r_bipush (v := 48) G dX7_cellsOf_5 (by decide) ?_
    refine r_icmp_ge G 33 dX7_cellsOf_7 (by decide) hyp (fun c1 hyp => ?_) (fun c1 hyp => ?_)
    · refine r_iload_n G 2 dX7_cellsOf_33 rfl rfl ?_
      exact r_iret G hyp rfl (Nat.zero_le _) (Nat.zero_le _) dX7_cellsOf_34
    · refine r_iload_n G 2 dX7_cellsOf_10 rfl rfl ?_
      refine r_aload_n G 0 dX7_cellsOf_11 rfl rfl ?_
      refine r_iload_n G 3 dX7_cellsOf_12 rfl rfl ?_
      obtain ⟨o4, hyp⟩ := x_chk hyp
      refine r_callV (ι := xI) (T := TX7) (N := 22) (ci := 7) (b := a0) (rest := [.int x2]) (As := [.int x3]) G hno tg_X7_look (fun r w' h => ct_X7_look (xhl G) _ _ _ r w' h) o4 hyp rfl ww_630 ww_632 ww_631 (by decide) (by decide) rfl rfl (xroom (Nat.le_of_ble_eq_true rfl)) dX7_cellsOf_13 (push := (fun r3 => [.int r3, .int x2])) (fun _ => rfl) (fun r3 w2 hyp => ?_)
      refine r_iload_n G 1 dX7_cellsOf_16 rfl rfl ?_
      refine r_icmp_ne G 24 dX7_cellsOf_17 (by decide) hyp (fun c5 hyp => ?_) (fun c5 hyp => ?_)
      · refine r_iconst (v := 0) G dX7_cellsOf_24 (by decide) ?_
        refine r_iadd G dX7_cellsOf_25 ?_
        refine r_istore_n (lv' := [(2, .int (x2 + 0)), (0, .ref a0), (1, .int x1), (3, .int x3)]) G dX7_cellsOf_26 rfl (by decide) ⟨fun _ => rfl, fun _ => rfl, fun _ => rfl, fun _ => rfl, trivial⟩ rfl ?_
        refine r_iinc (v := (x3 + 1)) (lv' := [(3, .int (x3 + 1)), (2, .int (x2 + 0)), (0, .ref a0), (1, .int x1)]) G 3 dX7_cellsOf_27 rfl rfl (by decide) ⟨fun _ => rfl, fun _ => rfl, fun _ => rfl, fun _ => rfl, trivial⟩ rfl ?_
        refine r_goto G 4 dX7_cellsOf_30 (by decide) ?_
        refine r_weak (lv' := [(0, .ref a0), (1, .int x1), (2, .int (x2 + 0)), (3, .int (x3 + 1))]) [2, 3, 1, 0] rfl ?_
        exact ih a0 x1 (x2 + 0) (x3 + 1) w2 hyp
      · refine r_iconst (v := 1) G dX7_cellsOf_20 (by decide) ?_
        refine r_goto G 25 dX7_cellsOf_21 (by decide) ?_
        refine r_iadd G dX7_cellsOf_25 ?_
        refine r_istore_n (lv' := [(2, .int (x2 + 1)), (0, .ref a0), (1, .int x1), (3, .int x3)]) G dX7_cellsOf_26 rfl (by decide) ⟨fun _ => rfl, fun _ => rfl, fun _ => rfl, fun _ => rfl, trivial⟩ rfl ?_
        refine r_iinc (v := (x3 + 1)) (lv' := [(3, .int (x3 + 1)), (2, .int (x2 + 1)), (0, .ref a0), (1, .int x1)]) G 3 dX7_cellsOf_27 rfl rfl (by decide) ⟨fun _ => rfl, fun _ => rfl, fun _ => rfl, fun _ => rfl, trivial⟩ rfl ?_
        refine r_goto G 4 dX7_cellsOf_30 (by decide) ?_
        refine r_weak (lv' := [(0, .ref a0), (1, .int x1), (2, .int (x2 + 1)), (3, .int (x3 + 1))]) [2, 3, 1, 0] rfl ?_
        exact ih a0 x1 (x2 + 1) (x3 + 1) w2 hyp
end
set_option maxRecDepth 100000 in
set_option maxHeartbeats 4000000 in
theorem ct_X7_cellsOf {Γ : xG} {l : Launch} (hl : l.stackTraces = false) (a0 : Nat) (x1 : Int32) (w0 : xW) (rF : Int32 ⊕ String) (wF : xW) (hyp : f_X7_cellsOf a0 x1 w0 = some (rF, wF)) : xMet Γ l yX7_cellsOf (xws yX7_cellsOf cX7_cellsOf 4 (some .int)) 2 xI [.ref a0, .int x1] w0 rF wF (x_mc rF) (x_ms rF) := by
  refine xOfW tg_X7_cellsOf hl (lv0 := [(0, .ref a0), (1, .int x1)]) (Nat.le_of_ble_eq_true rfl) rfl ?_
  intro p e s m below meth c G hno hin
  rw [f_X7_cellsOf] at hyp
  refine r_iconst (v := 0) G dX7_cellsOf_0 (by decide) ?_
  refine r_istore_n (lv' := [(2, .int 0), (0, .ref a0), (1, .int x1)]) G dX7_cellsOf_1 rfl (by decide) ⟨fun _ => rfl, fun _ => rfl, trivial⟩ rfl ?_
  refine r_iconst (v := 0) G dX7_cellsOf_2 (by decide) ?_
  refine r_istore_n (lv' := [(3, .int 0), (2, .int 0), (0, .ref a0), (1, .int x1)]) G dX7_cellsOf_3 rfl (by decide) ⟨fun _ => rfl, fun _ => rfl, fun _ => rfl, trivial⟩ rfl ?_
  refine r_weak (lv' := [(0, .ref a0), (1, .int x1), (2, .int 0), (3, .int 0)]) [2, 3, 1, 0] rfl ?_
  exact nd_X7_cellsOf_L4 G hno xfuel a0 x1 0 0 w0 hyp
theorem tg_X7_cellsWithTone : xTgt yX7_cellsWithTone cX7_cellsWithTone 2 (some .int) 1 := ⟨ww_693, ww_574, by decide, by decide +kernel, by decide +kernel⟩
section
variable {Γ : xG} {p : Program} {l : Launch} {e : Env} {s : State} {m : MethodId} {args : Array Value} {below : List Frame} {meth : Method} {c : Code} {rF : Int32 ⊕ String} {wF : xW}
end
set_option maxRecDepth 100000 in
set_option maxHeartbeats 4000000 in
theorem ct_X7_cellsWithTone {Γ : xG} {l : Launch} (hl : l.stackTraces = false) (a0 : Nat) (x1 : Int32) (w0 : xW) (rF : Int32 ⊕ String) (wF : xW) (hyp : f_X7_cellsWithTone a0 x1 w0 = some (rF, wF)) : xMet Γ l yX7_cellsWithTone (xws yX7_cellsWithTone cX7_cellsWithTone 2 (some .int)) 3 xI [.ref a0, .int x1] w0 rF wF (x_mc rF) (x_ms rF) := by
  refine xOfW tg_X7_cellsWithTone hl (lv0 := [(0, .ref a0), (1, .int x1)]) (Nat.le_of_ble_eq_true rfl) rfl ?_
  intro p e s m below meth c G hno hin
  rw [f_X7_cellsWithTone] at hyp
  refine r_aload_n G 0 dX7_cellsWithTone_0 rfl rfl ?_
  refine r_iload_n G 1 dX7_cellsWithTone_1 rfl rfl ?_
  refine r_iconst (v := 0) G dX7_cellsWithTone_2 (by decide) ?_
  refine r_bipush (v := 15) G dX7_cellsWithTone_3 (by decide) ?_
  refine r_callS (ι := xI) (rest := [.ref a0]) (As := [.int x1, .int 0, .int 15]) G hno tg_X7_in (fun r w' h => ct_X7_in (xhl G) _ _ _ _ r w' h) hyp ww_647 ww_648 (by decide) (by decide) rfl rfl (xroom (Nat.le_of_ble_eq_true rfl)) dX7_cellsWithTone_5 (push := (fun r2 => [.int r2, .ref a0])) (fun _ => rfl) (fun r2 w1 hyp => ?_)
  refine r_if_eq G 15 dX7_cellsWithTone_8 (by decide) hyp (fun c3 hyp => ?_) (fun c3 hyp => ?_)
  · refine r_iconst (v := 1) G dX7_cellsWithTone_15 (by decide) ?_
    obtain ⟨w4, hw4, hyp⟩ := x_some hyp
    refine r_putv (C := RX7) (T := TX7) (N := 22) (ci := 7) G tyX7 tyX7_ok nmX7 0 hw4 rfl uw_7 (Nat.le_of_ble_eq_true rfl) rfl ww_594 rfl rfl rfl dX7_cellsWithTone_16 ?_
    refine r_aload_n G 0 dX7_cellsWithTone_19 rfl rfl ?_
    obtain ⟨v5, hv5, hyp⟩ := x_some hyp
    refine r_getv (C := RX7) (T := TX7) (N := 22) (ci := 7) G 0 (x_geti_e hv5) rfl uw_7 (Nat.le_of_ble_eq_true rfl) rfl ww_594 dX7_cellsWithTone_20 ?_
    refine r_if_le G 30 dX7_cellsWithTone_23 (by decide) hyp (fun c6 hyp => ?_) (fun c6 hyp => ?_)
    · refine r_aload_n G 0 dX7_cellsWithTone_30 rfl rfl ?_
      refine r_iload_n G 1 dX7_cellsWithTone_31 rfl rfl ?_
      obtain ⟨o9, hyp⟩ := x_chk hyp
      refine r_callV (ι := xI) (T := TX7) (N := 22) (ci := 7) (b := a0) (rest := []) (As := [.int x1]) G hno tg_X7_cellsOf (fun r w' h => ct_X7_cellsOf (xhl G) _ _ _ r w' h) o9 hyp rfl ww_690 ww_692 ww_691 (by decide) (by decide) rfl rfl (xroom (Nat.le_of_ble_eq_true rfl)) dX7_cellsWithTone_32 (push := (fun r8 => [.int r8])) (fun _ => rfl) (fun r8 w7 hyp => ?_)
      exact r_iret G hyp rfl (Nat.zero_le _) (Nat.zero_le _) dX7_cellsWithTone_35
    · refine r_iconst (v := 0) G dX7_cellsWithTone_26 (by decide) ?_
      refine r_goto G 35 dX7_cellsWithTone_27 (by decide) ?_
      exact r_iret G hyp rfl (Nat.zero_le _) (Nat.zero_le _) dX7_cellsWithTone_35
  · refine r_iconst (v := 0) G dX7_cellsWithTone_11 (by decide) ?_
    refine r_goto G 16 dX7_cellsWithTone_12 (by decide) ?_
    obtain ⟨w10, hw10, hyp⟩ := x_some hyp
    refine r_putv (C := RX7) (T := TX7) (N := 22) (ci := 7) G tyX7 tyX7_ok nmX7 0 hw10 rfl uw_7 (Nat.le_of_ble_eq_true rfl) rfl ww_594 rfl rfl rfl dX7_cellsWithTone_16 ?_
    refine r_aload_n G 0 dX7_cellsWithTone_19 rfl rfl ?_
    obtain ⟨v11, hv11, hyp⟩ := x_some hyp
    refine r_getv (C := RX7) (T := TX7) (N := 22) (ci := 7) G 0 (x_geti_e hv11) rfl uw_7 (Nat.le_of_ble_eq_true rfl) rfl ww_594 dX7_cellsWithTone_20 ?_
    refine r_if_le G 30 dX7_cellsWithTone_23 (by decide) hyp (fun c12 hyp => ?_) (fun c12 hyp => ?_)
    · refine r_aload_n G 0 dX7_cellsWithTone_30 rfl rfl ?_
      refine r_iload_n G 1 dX7_cellsWithTone_31 rfl rfl ?_
      obtain ⟨o15, hyp⟩ := x_chk hyp
      refine r_callV (ι := xI) (T := TX7) (N := 22) (ci := 7) (b := a0) (rest := []) (As := [.int x1]) G hno tg_X7_cellsOf (fun r w' h => ct_X7_cellsOf (xhl G) _ _ _ r w' h) o15 hyp rfl ww_690 ww_692 ww_691 (by decide) (by decide) rfl rfl (xroom (Nat.le_of_ble_eq_true rfl)) dX7_cellsWithTone_32 (push := (fun r14 => [.int r14])) (fun _ => rfl) (fun r14 w13 hyp => ?_)
      exact r_iret G hyp rfl (Nat.zero_le _) (Nat.zero_le _) dX7_cellsWithTone_35
    · refine r_iconst (v := 0) G dX7_cellsWithTone_26 (by decide) ?_
      refine r_goto G 35 dX7_cellsWithTone_27 (by decide) ?_
      exact r_iret G hyp rfl (Nat.zero_le _) (Nat.zero_le _) dX7_cellsWithTone_35
theorem tg_X7_commonestTone : xTgt yX7_commonestTone cX7_commonestTone 3 (some .int) 0 := ⟨ww_694, ww_574, by decide, by decide +kernel, by decide +kernel⟩
section
variable {Γ : xG} {p : Program} {l : Launch} {e : Env} {s : State} {m : MethodId} {args : Array Value} {below : List Frame} {meth : Method} {c : Code} {rF : Int32 ⊕ String} {wF : xW}
set_option maxRecDepth 100000 in
set_option maxHeartbeats 4000000 in
theorem nd_X7_commonestTone_L9 (G : xCx Γ p l s m args meth c RX7 cX7_commonestTone 3 (some .int)) (hno : ∀ x ∈ c.exceptionTable.toList, False) : ∀ (n : Nat) (a0 : Nat) (x1 : Int32) (x2 : Int32) (w0 : xW), f_X7_commonestTone_L9 n a0 x1 x2 w0 = some (rF, wF) → xAW Γ p l e (xRm 3 (x_mc rF) (x_ms rF)) s m args below meth c 3 (xQm Γ below xI rF wF args s (x_mc rF) (x_ms rF)) w0 0 0 9 [(0, .ref a0), (1, .int x1), (2, .int x2)] [] := by
  intro n
  induction n with
  | zero =>
    intro a0 x1 x2 w0 hyp
    cases (show (none : xO Int32) = some (rF, wF) from hyp)
  | succ n ih =>
    intro a0 x1 x2 w0 hyp
    rw [f_X7_commonestTone_L9] at hyp
    refine r_iload_n G 2 dX7_commonestTone_9 rfl rfl ?_
    refine r_bipush (v := 15) G dX7_commonestTone_10 (by decide) ?_
    refine r_icmp_gt G 36 dX7_commonestTone_12 (by decide) hyp (fun c2 hyp => ?_) (fun c2 hyp => ?_)
    · refine r_iload_n G 1 dX7_commonestTone_36 rfl rfl ?_
      exact r_iret G hyp rfl (Nat.zero_le _) (Nat.zero_le _) dX7_commonestTone_37
    · refine r_aload_n G 0 dX7_commonestTone_15 rfl rfl ?_
      refine r_iload_n G 2 dX7_commonestTone_16 rfl rfl ?_
      obtain ⟨o5, hyp⟩ := x_chk hyp
      refine r_callV (ι := xI) (T := TX7) (N := 22) (ci := 7) (b := a0) (rest := []) (As := [.int x2]) G hno tg_X7_cellsOf (fun r w' h => ct_X7_cellsOf (xhl G) _ _ _ r w' h) o5 hyp rfl ww_690 ww_692 ww_691 (by decide) (by decide) rfl rfl (xroom (Nat.le_of_ble_eq_true rfl)) dX7_commonestTone_17 (push := (fun r4 => [.int r4])) (fun _ => rfl) (fun r4 w3 hyp => ?_)
      refine r_aload_n G 0 dX7_commonestTone_20 rfl rfl ?_
      refine r_iload_n G 1 dX7_commonestTone_21 rfl rfl ?_
      obtain ⟨o8, hyp⟩ := x_chk hyp
      refine r_callV (ι := xI) (T := TX7) (N := 22) (ci := 7) (b := a0) (rest := [.int r4]) (As := [.int x1]) G hno tg_X7_cellsOf (fun r w' h => ct_X7_cellsOf (xhl G) _ _ _ r w' h) o8 hyp rfl ww_690 ww_692 ww_691 (by decide) (by decide) rfl rfl (xroom (Nat.le_of_ble_eq_true rfl)) dX7_commonestTone_22 (push := (fun r7 => [.int r7, .int r4])) (fun _ => rfl) (fun r7 w6 hyp => ?_)
      refine r_icmp_le G 30 dX7_commonestTone_25 (by decide) hyp (fun c9 hyp => ?_) (fun c9 hyp => ?_)
      · refine r_iinc (v := (x2 + 1)) (lv' := [(2, .int (x2 + 1)), (0, .ref a0), (1, .int x1)]) G 2 dX7_commonestTone_30 rfl rfl (by decide) ⟨fun _ => rfl, fun _ => rfl, fun _ => rfl, trivial⟩ rfl ?_
        refine r_goto G 9 dX7_commonestTone_33 (by decide) ?_
        refine r_weak (lv' := [(0, .ref a0), (1, .int x1), (2, .int (x2 + 1))]) [1, 2, 0] rfl ?_
        exact ih a0 x1 (x2 + 1) w6 hyp
      · refine r_iload_n G 2 dX7_commonestTone_28 rfl rfl ?_
        refine r_istore_n (lv' := [(1, .int x2), (0, .ref a0), (2, .int x2)]) G dX7_commonestTone_29 rfl (by decide) ⟨fun _ => rfl, fun _ => rfl, fun _ => rfl, trivial⟩ rfl ?_
        refine r_iinc (v := (x2 + 1)) (lv' := [(2, .int (x2 + 1)), (1, .int x2), (0, .ref a0)]) G 2 dX7_commonestTone_30 rfl rfl (by decide) ⟨fun _ => rfl, fun _ => rfl, fun _ => rfl, trivial⟩ rfl ?_
        refine r_goto G 9 dX7_commonestTone_33 (by decide) ?_
        refine r_weak (lv' := [(0, .ref a0), (1, .int x2), (2, .int (x2 + 1))]) [2, 1, 0] rfl ?_
        exact ih a0 x2 (x2 + 1) w6 hyp
end
set_option maxRecDepth 100000 in
set_option maxHeartbeats 4000000 in
theorem ct_X7_commonestTone {Γ : xG} {l : Launch} (hl : l.stackTraces = false) (a0 : Nat) (w0 : xW) (rF : Int32 ⊕ String) (wF : xW) (hyp : f_X7_commonestTone a0 w0 = some (rF, wF)) : xMet Γ l yX7_commonestTone (xws yX7_commonestTone cX7_commonestTone 3 (some .int)) 3 xI [.ref a0] w0 rF wF (x_mc rF) (x_ms rF) := by
  refine xOfW tg_X7_commonestTone hl (lv0 := [(0, .ref a0)]) (Nat.le_of_ble_eq_true rfl) rfl ?_
  intro p e s m below meth c G hno hin
  rw [f_X7_commonestTone] at hyp
  refine r_aload_n G 0 dX7_commonestTone_0 rfl rfl ?_
  refine r_iconst (v := 0) G dX7_commonestTone_1 (by decide) ?_
  obtain ⟨w1, hw1, hyp⟩ := x_some hyp
  refine r_putv (C := RX7) (T := TX7) (N := 22) (ci := 7) G tyX7 tyX7_ok nmX7 0 hw1 rfl uw_7 (Nat.le_of_ble_eq_true rfl) rfl ww_594 rfl rfl rfl dX7_commonestTone_2 ?_
  refine r_iconst (v := 0) G dX7_commonestTone_5 (by decide) ?_
  refine r_istore_n (lv' := [(1, .int 0), (0, .ref a0)]) G dX7_commonestTone_6 rfl (by decide) ⟨fun _ => rfl, trivial⟩ rfl ?_
  refine r_iconst (v := 1) G dX7_commonestTone_7 (by decide) ?_
  refine r_istore_n (lv' := [(2, .int 1), (1, .int 0), (0, .ref a0)]) G dX7_commonestTone_8 rfl (by decide) ⟨fun _ => rfl, fun _ => rfl, trivial⟩ rfl ?_
  refine r_weak (lv' := [(0, .ref a0), (1, .int 0), (2, .int 1)]) [2, 1, 0] rfl ?_
  exact nd_X7_commonestTone_L9 G hno xfuel a0 0 1 w1 hyp
theorem tg_X7_top : xTgt yX7_top cX7_top 3 (some .int) 1 := ⟨ww_695, ww_574, by decide, by decide +kernel, by decide +kernel⟩
section
variable {Γ : xG} {p : Program} {l : Launch} {e : Env} {s : State} {m : MethodId} {args : Array Value} {below : List Frame} {meth : Method} {c : Code} {rF : Int32 ⊕ String} {wF : xW}
set_option maxRecDepth 100000 in
set_option maxHeartbeats 4000000 in
theorem nd_X7_top_L9 (G : xCx Γ p l s m args meth c RX7 cX7_top 3 (some .int)) (hno : ∀ x ∈ c.exceptionTable.toList, False) : ∀ (n : Nat) (a0 : Nat) (x1 : Int32) (x2 : Int32) (w0 : xW), f_X7_top_L9 n a0 x1 x2 w0 = some (rF, wF) → xAW Γ p l e (xRm 1 (x_mc rF) (x_ms rF)) s m args below meth c 3 (xQm Γ below xI rF wF args s (x_mc rF) (x_ms rF)) w0 0 0 9 [(0, .ref a0), (1, .int x1), (2, .int x2)] [] := by
  intro n
  induction n with
  | zero =>
    intro a0 x1 x2 w0 hyp
    cases (show (none : xO Int32) = some (rF, wF) from hyp)
  | succ n ih =>
    intro a0 x1 x2 w0 hyp
    rw [f_X7_top_L9] at hyp
    refine r_iload_n G 2 dX7_top_9 rfl rfl ?_
    refine r_if_lt G 38 dX7_top_10 (by decide) hyp (fun c4 hyp => ?_) (fun c4 hyp => ?_)
    · refine r_iconst (v := (-1)) G dX7_top_38 (by decide) ?_
      exact r_iret G hyp rfl (Nat.zero_le _) (Nat.zero_le _) dX7_top_39
    · refine r_aload_n G 0 dX7_top_13 rfl rfl ?_
      refine r_iload_n G 2 dX7_top_14 rfl rfl ?_
      obtain ⟨o7, hyp⟩ := x_chk hyp
      refine r_callV (ι := xI) (T := TX7) (N := 22) (ci := 7) (b := a0) (rest := []) (As := [.int x2]) G hno tg_X7_shown (fun r w' h => ct_X7_shown (xhl G) _ _ _ r w' h) o7 hyp rfl ww_618 ww_620 ww_619 (by decide) (by decide) rfl rfl (xroom (Nat.le_of_ble_eq_true rfl)) dX7_top_15 (push := (fun r6 => [.int r6])) (fun _ => rfl) (fun r6 w5 hyp => ?_)
      refine r_if_eq G 32 dX7_top_18 (by decide) hyp (fun c8 hyp => ?_) (fun c8 hyp => ?_)
      · refine r_iinc (v := (x2 + (-1))) (lv' := [(2, .int (x2 + (-1))), (0, .ref a0), (1, .int x1)]) G 2 dX7_top_32 rfl rfl (by decide) ⟨fun _ => rfl, fun _ => rfl, fun _ => rfl, trivial⟩ rfl ?_
        refine r_goto G 9 dX7_top_35 (by decide) ?_
        refine r_weak (lv' := [(0, .ref a0), (1, .int x1), (2, .int (x2 + (-1)))]) [1, 2, 0] rfl ?_
        exact ih a0 x1 (x2 + (-1)) w5 hyp
      · refine r_aload_n G 0 dX7_top_21 rfl rfl ?_
        refine r_iload_n G 2 dX7_top_22 rfl rfl ?_
        refine r_iload_n G 1 dX7_top_23 rfl rfl ?_
        obtain ⟨o11, hyp⟩ := x_chk hyp
        refine r_callV (ι := xI) (T := TX7) (N := 22) (ci := 7) (b := a0) (rest := []) (As := [.int x2, .int x1]) G hno tg_X7_at (fun r w' h => ct_X7_at (xhl G) _ _ _ _ r w' h) o11 hyp rfl ww_621 ww_623 ww_622 (by decide) (by decide) rfl rfl (xroom (Nat.le_of_ble_eq_true rfl)) dX7_top_24 (push := (fun r10 => [.int r10])) (fun _ => rfl) (fun r10 w9 hyp => ?_)
        refine r_if_le G 32 dX7_top_27 (by decide) hyp (fun c12 hyp => ?_) (fun c12 hyp => ?_)
        · refine r_iinc (v := (x2 + (-1))) (lv' := [(2, .int (x2 + (-1))), (0, .ref a0), (1, .int x1)]) G 2 dX7_top_32 rfl rfl (by decide) ⟨fun _ => rfl, fun _ => rfl, fun _ => rfl, trivial⟩ rfl ?_
          refine r_goto G 9 dX7_top_35 (by decide) ?_
          refine r_weak (lv' := [(0, .ref a0), (1, .int x1), (2, .int (x2 + (-1)))]) [1, 2, 0] rfl ?_
          exact ih a0 x1 (x2 + (-1)) w9 hyp
        · refine r_iload_n G 2 dX7_top_30 rfl rfl ?_
          exact r_iret G hyp rfl (Nat.zero_le _) (Nat.zero_le _) dX7_top_31
end
set_option maxRecDepth 100000 in
set_option maxHeartbeats 4000000 in
theorem ct_X7_top {Γ : xG} {l : Launch} (hl : l.stackTraces = false) (a0 : Nat) (x1 : Int32) (w0 : xW) (rF : Int32 ⊕ String) (wF : xW) (hyp : f_X7_top a0 x1 w0 = some (rF, wF)) : xMet Γ l yX7_top (xws yX7_top cX7_top 3 (some .int)) 1 xI [.ref a0, .int x1] w0 rF wF (x_mc rF) (x_ms rF) := by
  refine xOfW tg_X7_top hl (lv0 := [(0, .ref a0), (1, .int x1)]) (Nat.le_of_ble_eq_true rfl) rfl ?_
  intro p e s m below meth c G hno hin
  rw [f_X7_top] at hyp
  refine r_aload_n G 0 dX7_top_0 rfl rfl ?_
  obtain ⟨v1, hv1, hyp⟩ := x_some hyp
  refine r_getv (C := RX7) (T := TX7) (N := 22) (ci := 7) G 1 (x_getr_e hv1) rfl uw_7 (Nat.le_of_ble_eq_true rfl) rfl ww_561 dX7_top_1 ?_
  refine r_iconst (v := 0) G dX7_top_4 (by decide) ?_
  refine r_ref hyp (fun a2 ha2 hz => ?_)
  clear hyp; subst ha2; have hyp := hz; clear hz
  obtain ⟨v3, hv3, hyp⟩ := x_some hyp
  refine r_iald G hv3 dX7_top_5 ?_
  refine r_iconst (v := 1) G dX7_top_6 (by decide) ?_
  refine r_isub G dX7_top_7 ?_
  refine r_istore_n (lv' := [(2, .int (v3 - 1)), (0, .ref a0), (1, .int x1)]) G dX7_top_8 rfl (by decide) ⟨fun _ => rfl, fun _ => rfl, trivial⟩ rfl ?_
  refine r_weak (lv' := [(0, .ref a0), (1, .int x1), (2, .int (v3 - 1))]) [1, 2, 0] rfl ?_
  exact nd_X7_top_L9 G hno xfuel a0 x1 (v3 - 1) w0 hyp
theorem tg_X7_coveredShare : xTgt yX7_coveredShare cX7_coveredShare 3 (some .float) 0 := ⟨ww_700, ww_574, by decide, by decide +kernel, by decide +kernel⟩
section
variable {Γ : xG} {p : Program} {l : Launch} {e : Env} {s : State} {m : MethodId} {args : Array Value} {below : List Frame} {meth : Method} {c : Code} {rF : UInt32 ⊕ String} {wF : xW}
set_option maxRecDepth 100000 in
set_option maxHeartbeats 4000000 in
theorem nd_X7_coveredShare_L9 (G : xCx Γ p l s m args meth c RX7 cX7_coveredShare 3 (some .float)) (hno : ∀ x ∈ c.exceptionTable.toList, False) : ∀ (n : Nat) (a0 : Nat) (x1 : Int32) (x2 : Int32) (w0 : xW), f_X7_coveredShare_L9 n a0 x1 x2 w0 = some (rF, wF) → xAW Γ p l e (xRm 2 (x_mc rF) (x_ms rF)) s m args below meth c 3 (xQm Γ below xFl rF wF args s (x_mc rF) (x_ms rF)) w0 0 0 9 [(0, .ref a0), (1, .int x1), (2, .int x2)] [] := by
  intro n
  induction n with
  | zero =>
    intro a0 x1 x2 w0 hyp
    cases (show (none : xO UInt32) = some (rF, wF) from hyp)
  | succ n ih =>
    intro a0 x1 x2 w0 hyp
    rw [f_X7_coveredShare_L9] at hyp
    refine r_iload_n G 2 dX7_coveredShare_9 rfl rfl ?_
    refine r_bipush (v := 48) G dX7_coveredShare_10 (by decide) ?_
    refine r_icmp_ge G 38 dX7_coveredShare_12 (by decide) hyp (fun c2 hyp => ?_) (fun c2 hyp => ?_)
    · refine r_iload_n G 1 dX7_coveredShare_38 rfl rfl ?_
      refine r_i2f G dX7_coveredShare_39 ?_
      refine r_ldcf G dX7_coveredShare_40 ww_696 ?_
      obtain ⟨h3, hyp⟩ := x_chk hyp
      refine r_fdiv G dX7_coveredShare_42 (x_n32_e h3) ?_
      exact r_fret G hyp (Nat.zero_le _) (Nat.zero_le _) dX7_coveredShare_43
    · refine r_iload_n G 1 dX7_coveredShare_15 rfl rfl ?_
      refine r_aload_n G 0 dX7_coveredShare_16 rfl rfl ?_
      refine r_iload_n G 2 dX7_coveredShare_17 rfl rfl ?_
      obtain ⟨o6, hyp⟩ := x_chk hyp
      refine r_callV (ι := xI) (T := TX7) (N := 22) (ci := 7) (b := a0) (rest := [.int x1]) (As := [.int x2]) G hno tg_X7_top (fun r w' h => ct_X7_top (xhl G) _ _ _ r w' h) o6 hyp rfl ww_697 ww_699 ww_698 (by decide) (by decide) rfl rfl (xroom (Nat.le_of_ble_eq_true rfl)) dX7_coveredShare_18 (push := (fun r5 => [.int r5, .int x1])) (fun _ => rfl) (fun r5 w4 hyp => ?_)
      refine r_iconst (v := (-1)) G dX7_coveredShare_21 (by decide) ?_
      refine r_icmp_ne G 29 dX7_coveredShare_22 (by decide) hyp (fun c7 hyp => ?_) (fun c7 hyp => ?_)
      · refine r_iconst (v := 1) G dX7_coveredShare_29 (by decide) ?_
        refine r_iadd G dX7_coveredShare_30 ?_
        refine r_istore_n (lv' := [(1, .int (x1 + 1)), (0, .ref a0), (2, .int x2)]) G dX7_coveredShare_31 rfl (by decide) ⟨fun _ => rfl, fun _ => rfl, fun _ => rfl, trivial⟩ rfl ?_
        refine r_iinc (v := (x2 + 1)) (lv' := [(2, .int (x2 + 1)), (1, .int (x1 + 1)), (0, .ref a0)]) G 2 dX7_coveredShare_32 rfl rfl (by decide) ⟨fun _ => rfl, fun _ => rfl, fun _ => rfl, trivial⟩ rfl ?_
        refine r_goto G 9 dX7_coveredShare_35 (by decide) ?_
        refine r_weak (lv' := [(0, .ref a0), (1, .int (x1 + 1)), (2, .int (x2 + 1))]) [2, 1, 0] rfl ?_
        exact ih a0 (x1 + 1) (x2 + 1) w4 hyp
      · refine r_iconst (v := 0) G dX7_coveredShare_25 (by decide) ?_
        refine r_goto G 30 dX7_coveredShare_26 (by decide) ?_
        refine r_iadd G dX7_coveredShare_30 ?_
        refine r_istore_n (lv' := [(1, .int (x1 + 0)), (0, .ref a0), (2, .int x2)]) G dX7_coveredShare_31 rfl (by decide) ⟨fun _ => rfl, fun _ => rfl, fun _ => rfl, trivial⟩ rfl ?_
        refine r_iinc (v := (x2 + 1)) (lv' := [(2, .int (x2 + 1)), (1, .int (x1 + 0)), (0, .ref a0)]) G 2 dX7_coveredShare_32 rfl rfl (by decide) ⟨fun _ => rfl, fun _ => rfl, fun _ => rfl, trivial⟩ rfl ?_
        refine r_goto G 9 dX7_coveredShare_35 (by decide) ?_
        refine r_weak (lv' := [(0, .ref a0), (1, .int (x1 + 0)), (2, .int (x2 + 1))]) [2, 1, 0] rfl ?_
        exact ih a0 (x1 + 0) (x2 + 1) w4 hyp
end
set_option maxRecDepth 100000 in
set_option maxHeartbeats 4000000 in
theorem ct_X7_coveredShare {Γ : xG} {l : Launch} (hl : l.stackTraces = false) (a0 : Nat) (w0 : xW) (rF : UInt32 ⊕ String) (wF : xW) (hyp : f_X7_coveredShare a0 w0 = some (rF, wF)) : xMet Γ l yX7_coveredShare (xws yX7_coveredShare cX7_coveredShare 3 (some .float)) 2 xFl [.ref a0] w0 rF wF (x_mc rF) (x_ms rF) := by
  refine xOfW tg_X7_coveredShare hl (lv0 := [(0, .ref a0)]) (Nat.le_of_ble_eq_true rfl) rfl ?_
  intro p e s m below meth c G hno hin
  rw [f_X7_coveredShare] at hyp
  refine r_aload_n G 0 dX7_coveredShare_0 rfl rfl ?_
  refine r_iconst (v := 0) G dX7_coveredShare_1 (by decide) ?_
  obtain ⟨w1, hw1, hyp⟩ := x_some hyp
  refine r_putv (C := RX7) (T := TX7) (N := 22) (ci := 7) G tyX7 tyX7_ok nmX7 0 hw1 rfl uw_7 (Nat.le_of_ble_eq_true rfl) rfl ww_594 rfl rfl rfl dX7_coveredShare_2 ?_
  refine r_iconst (v := 0) G dX7_coveredShare_5 (by decide) ?_
  refine r_istore_n (lv' := [(1, .int 0), (0, .ref a0)]) G dX7_coveredShare_6 rfl (by decide) ⟨fun _ => rfl, trivial⟩ rfl ?_
  refine r_iconst (v := 0) G dX7_coveredShare_7 (by decide) ?_
  refine r_istore_n (lv' := [(2, .int 0), (1, .int 0), (0, .ref a0)]) G dX7_coveredShare_8 rfl (by decide) ⟨fun _ => rfl, fun _ => rfl, trivial⟩ rfl ?_
  refine r_weak (lv' := [(0, .ref a0), (1, .int 0), (2, .int 0)]) [2, 1, 0] rfl ?_
  exact nd_X7_coveredShare_L9 G hno xfuel a0 0 0 w1 hyp
theorem tg_X7_coveringLayers : xTgt yX7_coveringLayers cX7_coveringLayers 5 (some .int) 2 := ⟨ww_701, ww_574, by decide, by decide +kernel, by decide +kernel⟩
section
variable {Γ : xG} {p : Program} {l : Launch} {e : Env} {s : State} {m : MethodId} {args : Array Value} {below : List Frame} {meth : Method} {c : Code} {rF : Int32 ⊕ String} {wF : xW}
set_option maxRecDepth 100000 in
set_option maxHeartbeats 4000000 in
theorem nd_X7_coveringLayers_L22 (G : xCx Γ p l s m args meth c RX7 cX7_coveringLayers 5 (some .int)) (hno : ∀ x ∈ c.exceptionTable.toList, False) : ∀ (n : Nat) (a0 : Nat) (x1 : Int32) (x2 : Int32) (x3 : Int32) (x4 : Int32) (w0 : xW), f_X7_coveringLayers_L22 n a0 x1 x2 x3 x4 w0 = some (rF, wF) → xAW Γ p l e (xRm 2 (x_mc rF) (x_ms rF)) s m args below meth c 5 (xQm Γ below xI rF wF args s (x_mc rF) (x_ms rF)) w0 0 0 22 [(0, .ref a0), (1, .int x1), (2, .int x2), (3, .int x3), (4, .int x4)] [] := by
  intro n
  induction n with
  | zero =>
    intro a0 x1 x2 x3 x4 w0 hyp
    cases (show (none : xO Int32) = some (rF, wF) from hyp)
  | succ n ih =>
    intro a0 x1 x2 x3 x4 w0 hyp
    rw [f_X7_coveringLayers_L22] at hyp
    refine r_iload G 4 dX7_coveringLayers_22 rfl ?_
    refine r_aload_n G 0 dX7_coveringLayers_24 rfl rfl ?_
    obtain ⟨v5, hv5, hyp⟩ := x_some hyp
    refine r_getv (C := RX7) (T := TX7) (N := 22) (ci := 7) G 1 (x_getr_e hv5) rfl uw_7 (Nat.le_of_ble_eq_true rfl) rfl ww_561 dX7_coveringLayers_25 ?_
    refine r_iconst (v := 0) G dX7_coveringLayers_28 (by decide) ?_
    refine r_ref hyp (fun a6 ha6 hz => ?_)
    clear hyp; subst ha6; have hyp := hz; clear hz
    obtain ⟨v7, hv7, hyp⟩ := x_some hyp
    refine r_iald G hv7 dX7_coveringLayers_29 ?_
    refine r_icmp_ge G 78 dX7_coveringLayers_30 (by decide) hyp (fun c8 hyp => ?_) (fun c8 hyp => ?_)
    · refine r_iload_n G 3 dX7_coveringLayers_78 rfl rfl ?_
      exact r_iret G hyp rfl (Nat.zero_le _) (Nat.zero_le _) dX7_coveringLayers_79
    · refine r_aload_n G 0 dX7_coveringLayers_33 rfl rfl ?_
      obtain ⟨v9, hv9, hyp⟩ := x_some hyp
      refine r_getv (C := RX7) (T := TX7) (N := 22) (ci := 7) G 0 (x_geti_e hv9) rfl uw_7 (Nat.le_of_ble_eq_true rfl) rfl ww_594 dX7_coveringLayers_34 ?_
      refine r_if_ne G 78 dX7_coveringLayers_37 (by decide) hyp (fun c10 hyp => ?_) (fun c10 hyp => ?_)
      · refine r_iload_n G 3 dX7_coveringLayers_78 rfl rfl ?_
        exact r_iret G hyp rfl (Nat.zero_le _) (Nat.zero_le _) dX7_coveringLayers_79
      · refine r_iload_n G 3 dX7_coveringLayers_40 rfl rfl ?_
        refine r_aload_n G 0 dX7_coveringLayers_41 rfl rfl ?_
        refine r_iload G 4 dX7_coveringLayers_42 rfl ?_
        obtain ⟨o13, hyp⟩ := x_chk hyp
        refine r_callV (ι := xI) (T := TX7) (N := 22) (ci := 7) (b := a0) (rest := [.int x3]) (As := [.int x4]) G hno tg_X7_shown (fun r w' h => ct_X7_shown (xhl G) _ _ _ r w' h) o13 hyp rfl ww_618 ww_620 ww_619 (by decide) (by decide) rfl rfl (xroom (Nat.le_of_ble_eq_true rfl)) dX7_coveringLayers_44 (push := (fun r12 => [.int r12, .int x3])) (fun _ => rfl) (fun r12 w11 hyp => ?_)
        refine r_if_eq G 69 dX7_coveringLayers_47 (by decide) hyp (fun c14 hyp => ?_) (fun c14 hyp => ?_)
        · refine r_iconst (v := 0) G dX7_coveringLayers_69 (by decide) ?_
          refine r_iadd G dX7_coveringLayers_70 ?_
          refine r_istore_n (lv' := [(3, .int (x3 + 0)), (0, .ref a0), (1, .int x1), (2, .int x2), (4, .int x4)]) G dX7_coveringLayers_71 rfl (by decide) ⟨fun _ => rfl, fun _ => rfl, fun _ => rfl, fun _ => rfl, fun _ => rfl, trivial⟩ rfl ?_
          refine r_iinc (v := (x4 + 1)) (lv' := [(4, .int (x4 + 1)), (3, .int (x3 + 0)), (0, .ref a0), (1, .int x1), (2, .int x2)]) G 4 dX7_coveringLayers_72 rfl rfl (by decide) ⟨fun _ => rfl, fun _ => rfl, fun _ => rfl, fun _ => rfl, fun _ => rfl, trivial⟩ rfl ?_
          refine r_goto G 22 dX7_coveringLayers_75 (by decide) ?_
          refine r_weak (lv' := [(0, .ref a0), (1, .int x1), (2, .int x2), (3, .int (x3 + 0)), (4, .int (x4 + 1))]) [2, 3, 4, 1, 0] rfl ?_
          exact ih a0 x1 x2 (x3 + 0) (x4 + 1) w11 hyp
        · refine r_aload_n G 0 dX7_coveringLayers_50 rfl rfl ?_
          refine r_iload G 4 dX7_coveringLayers_51 rfl ?_
          refine r_bipush (v := 8) G dX7_coveringLayers_53 (by decide) ?_
          refine r_iload_n G 2 dX7_coveringLayers_55 rfl rfl ?_
          refine r_imul G dX7_coveringLayers_56 ?_
          refine r_iload_n G 1 dX7_coveringLayers_57 rfl rfl ?_
          refine r_iadd G dX7_coveringLayers_58 ?_
          obtain ⟨o17, hyp⟩ := x_chk hyp
          refine r_callV (ι := xI) (T := TX7) (N := 22) (ci := 7) (b := a0) (rest := [.int x3]) (As := [.int x4, .int ((8 * x2) + x1)]) G hno tg_X7_at (fun r w' h => ct_X7_at (xhl G) _ _ _ _ r w' h) o17 hyp rfl ww_621 ww_623 ww_622 (by decide) (by decide) rfl rfl (xroom (Nat.le_of_ble_eq_true rfl)) dX7_coveringLayers_59 (push := (fun r16 => [.int r16, .int x3])) (fun _ => rfl) (fun r16 w15 hyp => ?_)
          refine r_if_le G 69 dX7_coveringLayers_62 (by decide) hyp (fun c18 hyp => ?_) (fun c18 hyp => ?_)
          · refine r_iconst (v := 0) G dX7_coveringLayers_69 (by decide) ?_
            refine r_iadd G dX7_coveringLayers_70 ?_
            refine r_istore_n (lv' := [(3, .int (x3 + 0)), (0, .ref a0), (1, .int x1), (2, .int x2), (4, .int x4)]) G dX7_coveringLayers_71 rfl (by decide) ⟨fun _ => rfl, fun _ => rfl, fun _ => rfl, fun _ => rfl, fun _ => rfl, trivial⟩ rfl ?_
            refine r_iinc (v := (x4 + 1)) (lv' := [(4, .int (x4 + 1)), (3, .int (x3 + 0)), (0, .ref a0), (1, .int x1), (2, .int x2)]) G 4 dX7_coveringLayers_72 rfl rfl (by decide) ⟨fun _ => rfl, fun _ => rfl, fun _ => rfl, fun _ => rfl, fun _ => rfl, trivial⟩ rfl ?_
            refine r_goto G 22 dX7_coveringLayers_75 (by decide) ?_
            refine r_weak (lv' := [(0, .ref a0), (1, .int x1), (2, .int x2), (3, .int (x3 + 0)), (4, .int (x4 + 1))]) [2, 3, 4, 1, 0] rfl ?_
            exact ih a0 x1 x2 (x3 + 0) (x4 + 1) w15 hyp
          · refine r_iconst (v := 1) G dX7_coveringLayers_65 (by decide) ?_
            refine r_goto G 70 dX7_coveringLayers_66 (by decide) ?_
            refine r_iadd G dX7_coveringLayers_70 ?_
            refine r_istore_n (lv' := [(3, .int (x3 + 1)), (0, .ref a0), (1, .int x1), (2, .int x2), (4, .int x4)]) G dX7_coveringLayers_71 rfl (by decide) ⟨fun _ => rfl, fun _ => rfl, fun _ => rfl, fun _ => rfl, fun _ => rfl, trivial⟩ rfl ?_
            refine r_iinc (v := (x4 + 1)) (lv' := [(4, .int (x4 + 1)), (3, .int (x3 + 1)), (0, .ref a0), (1, .int x1), (2, .int x2)]) G 4 dX7_coveringLayers_72 rfl rfl (by decide) ⟨fun _ => rfl, fun _ => rfl, fun _ => rfl, fun _ => rfl, fun _ => rfl, trivial⟩ rfl ?_
            refine r_goto G 22 dX7_coveringLayers_75 (by decide) ?_
            refine r_weak (lv' := [(0, .ref a0), (1, .int x1), (2, .int x2), (3, .int (x3 + 1)), (4, .int (x4 + 1))]) [2, 3, 4, 1, 0] rfl ?_
            exact ih a0 x1 x2 (x3 + 1) (x4 + 1) w15 hyp
end
set_option maxRecDepth 100000 in
set_option maxHeartbeats 4000000 in
theorem ct_X7_coveringLayers {Γ : xG} {l : Launch} (hl : l.stackTraces = false) (a0 : Nat) (x1 : Int32) (x2 : Int32) (w0 : xW) (rF : Int32 ⊕ String) (wF : xW) (hyp : f_X7_coveringLayers a0 x1 x2 w0 = some (rF, wF)) : xMet Γ l yX7_coveringLayers (xws yX7_coveringLayers cX7_coveringLayers 5 (some .int)) 2 xI [.ref a0, .int x1, .int x2] w0 rF wF (x_mc rF) (x_ms rF) := by
  refine xOfW tg_X7_coveringLayers hl (lv0 := [(0, .ref a0), (1, .int x1), (2, .int x2)]) (Nat.le_of_ble_eq_true rfl) rfl ?_
  intro p e s m below meth c G hno hin
  rw [f_X7_coveringLayers] at hyp
  refine r_aload_n G 0 dX7_coveringLayers_0 rfl rfl ?_
  refine r_iload_n G 1 dX7_coveringLayers_1 rfl rfl ?_
  refine r_iload_n G 2 dX7_coveringLayers_2 rfl rfl ?_
  refine r_callS (ι := xI) (rest := [.ref a0]) (As := [.int x1, .int x2]) G hno tg_X7_isCell (fun r w' h => ct_X7_isCell (xhl G) _ _ _ r w' h) hyp ww_651 ww_652 (by decide) (by decide) rfl rfl (xroom (Nat.le_of_ble_eq_true rfl)) dX7_coveringLayers_3 (push := (fun r2 => [.int r2, .ref a0])) (fun _ => rfl) (fun r2 w1 hyp => ?_)
  refine r_if_eq G 13 dX7_coveringLayers_6 (by decide) hyp (fun c3 hyp => ?_) (fun c3 hyp => ?_)
  · refine r_iconst (v := 1) G dX7_coveringLayers_13 (by decide) ?_
    obtain ⟨w4, hw4, hyp⟩ := x_some hyp
    refine r_putv (C := RX7) (T := TX7) (N := 22) (ci := 7) G tyX7 tyX7_ok nmX7 0 hw4 rfl uw_7 (Nat.le_of_ble_eq_true rfl) rfl ww_594 rfl rfl rfl dX7_coveringLayers_14 ?_
    refine r_iconst (v := 0) G dX7_coveringLayers_17 (by decide) ?_
    refine r_istore_n (lv' := [(3, .int 0), (0, .ref a0), (1, .int x1), (2, .int x2)]) G dX7_coveringLayers_18 rfl (by decide) ⟨fun _ => rfl, fun _ => rfl, fun _ => rfl, trivial⟩ rfl ?_
    refine r_iconst (v := 0) G dX7_coveringLayers_19 (by decide) ?_
    refine r_istore (lv' := [(4, .int 0), (3, .int 0), (0, .ref a0), (1, .int x1), (2, .int x2)]) G dX7_coveringLayers_20 (by decide) ⟨fun _ => rfl, fun _ => rfl, fun _ => rfl, fun _ => rfl, trivial⟩ rfl ?_
    refine r_weak (lv' := [(0, .ref a0), (1, .int x1), (2, .int x2), (3, .int 0), (4, .int 0)]) [2, 3, 4, 1, 0] rfl ?_
    exact nd_X7_coveringLayers_L22 G hno xfuel a0 x1 x2 0 0 w4 hyp
  · refine r_iconst (v := 0) G dX7_coveringLayers_9 (by decide) ?_
    refine r_goto G 14 dX7_coveringLayers_10 (by decide) ?_
    obtain ⟨w19, hw19, hyp⟩ := x_some hyp
    refine r_putv (C := RX7) (T := TX7) (N := 22) (ci := 7) G tyX7 tyX7_ok nmX7 0 hw19 rfl uw_7 (Nat.le_of_ble_eq_true rfl) rfl ww_594 rfl rfl rfl dX7_coveringLayers_14 ?_
    refine r_iconst (v := 0) G dX7_coveringLayers_17 (by decide) ?_
    refine r_istore_n (lv' := [(3, .int 0), (0, .ref a0), (1, .int x1), (2, .int x2)]) G dX7_coveringLayers_18 rfl (by decide) ⟨fun _ => rfl, fun _ => rfl, fun _ => rfl, trivial⟩ rfl ?_
    refine r_iconst (v := 0) G dX7_coveringLayers_19 (by decide) ?_
    refine r_istore (lv' := [(4, .int 0), (3, .int 0), (0, .ref a0), (1, .int x1), (2, .int x2)]) G dX7_coveringLayers_20 (by decide) ⟨fun _ => rfl, fun _ => rfl, fun _ => rfl, fun _ => rfl, trivial⟩ rfl ?_
    refine r_weak (lv' := [(0, .ref a0), (1, .int x1), (2, .int x2), (3, .int 0), (4, .int 0)]) [2, 3, 4, 1, 0] rfl ?_
    exact nd_X7_coveringLayers_L22 G hno xfuel a0 x1 x2 0 0 w19 hyp
theorem tg_X7_sum : xTgt yX7_sum cX7_sum 8 (some .int) 4 := ⟨ww_702, ww_574, by decide, by decide +kernel, by decide +kernel⟩
section
variable {Γ : xG} {p : Program} {l : Launch} {e : Env} {s : State} {m : MethodId} {args : Array Value} {below : List Frame} {meth : Method} {c : Code} {rF : Int32 ⊕ String} {wF : xW}
set_option maxRecDepth 100000 in
set_option maxHeartbeats 4000000 in
theorem nd_X7_sum_L16 {k6 : Nat → Int32 → Int32 → Int32 → Int32 → Int32 → xW → xO Int32} (G : xCx Γ p l s m args meth c RX7 cX7_sum 8 (some .int)) (hno : ∀ x ∈ c.exceptionTable.toList, False) (hk6 : ∀ (a0 : Nat) (x1 : Int32) (x3 : Int32) (x4 : Int32) (x5 : Int32) (x6 : Int32) (w : xW), k6 a0 x1 x3 x4 x5 x6 w = some (rF, wF) → xAW Γ p l e (xRm 2 (x_mc rF) (x_ms rF)) s m args below meth c 8 (xQm Γ below xI rF wF args s (x_mc rF) (x_ms rF)) w 0 0 6 [(0, .ref a0), (1, .int x1), (3, .int x3), (4, .int x4), (5, .int x5), (6, .int x6)] []) : ∀ (n : Nat) (a0 : Nat) (x1 : Int32) (x3 : Int32) (x4 : Int32) (x5 : Int32) (x6 : Int32) (x7 : Int32) (w0 : xW), f_X7_sum_L16 k6 n a0 x1 x3 x4 x5 x6 x7 w0 = some (rF, wF) → xAW Γ p l e (xRm 2 (x_mc rF) (x_ms rF)) s m args below meth c 8 (xQm Γ below xI rF wF args s (x_mc rF) (x_ms rF)) w0 0 0 16 [(0, .ref a0), (1, .int x1), (3, .int x3), (4, .int x4), (5, .int x5), (6, .int x6), (7, .int x7)] [] := by
  intro n
  induction n with
  | zero =>
    intro a0 x1 x3 x4 x5 x6 x7 w0 hyp
    cases (show (none : xO Int32) = some (rF, wF) from hyp)
  | succ n ih =>
    intro a0 x1 x3 x4 x5 x6 x7 w0 hyp
    rw [f_X7_sum_L16] at hyp
    refine r_iload G 6 dX7_sum_16 rfl ?_
    refine r_iload_n G 2 dX7_sum_18 rfl rfl ?_
    refine r_icmp_gt G 45 dX7_sum_19 (by decide) hyp (fun c2 hyp => ?_) (fun c2 hyp => ?_)
    · refine r_iinc (v := (x6 + 1)) (lv' := [(6, .int (x6 + 1)), (0, .ref a0), (1, .int x1), (3, .int x3), (4, .int x4), (5, .int x5), (7, .int x7)]) G 5 dX7_sum_45 rfl rfl (by decide) ⟨fun _ => rfl, fun _ => rfl, fun _ => rfl, fun _ => rfl, fun _ => rfl, fun _ => rfl, fun _ => rfl, trivial⟩ rfl ?_
      refine r_goto G 6 dX7_sum_48 (by decide) ?_
      refine r_weak (lv' := [(0, .ref a0), (1, .int x1), (3, .int x3), (4, .int x4), (5, .int x5), (6, .int (x6 + 1))]) [1, 2, 3, 4, 5, 0] rfl ?_
      exact hk6 a0 x1 x3 x4 x5 (x6 + 1) w0 hyp
    · refine r_iload G 4 dX7_sum_22 rfl ?_
      refine r_aload_n G 0 dX7_sum_24 rfl rfl ?_
      refine r_bipush (v := 8) G dX7_sum_25 (by decide) ?_
      refine r_iload G 5 dX7_sum_27 rfl ?_
      refine r_imul G dX7_sum_29 ?_
      refine r_iload G 6 dX7_sum_30 rfl ?_
      refine r_iadd G dX7_sum_32 ?_
      obtain ⟨o5, hyp⟩ := x_chk hyp
      refine r_callV (ι := xI) (T := TX7) (N := 22) (ci := 7) (b := a0) (rest := [.int x5]) (As := [.int ((8 * x6) + x7)]) G hno tg_X7_look (fun r w' h => ct_X7_look (xhl G) _ _ _ r w' h) o5 hyp rfl ww_630 ww_632 ww_631 (by decide) (by decide) rfl rfl (xroom (Nat.le_of_ble_eq_true rfl)) dX7_sum_33 (push := (fun r4 => [.int r4, .int x5])) (fun _ => rfl) (fun r4 w3 hyp => ?_)
      refine r_iadd G dX7_sum_36 ?_
      refine r_istore (lv' := [(5, .int (x5 + r4)), (0, .ref a0), (1, .int x1), (3, .int x3), (4, .int x4), (6, .int x6), (7, .int x7)]) G dX7_sum_37 (by decide) ⟨fun _ => rfl, fun _ => rfl, fun _ => rfl, fun _ => rfl, fun _ => rfl, fun _ => rfl, fun _ => rfl, trivial⟩ rfl ?_
      refine r_iinc (v := (x7 + 1)) (lv' := [(7, .int (x7 + 1)), (5, .int (x5 + r4)), (0, .ref a0), (1, .int x1), (3, .int x3), (4, .int x4), (6, .int x6)]) G 6 dX7_sum_39 rfl rfl (by decide) ⟨fun _ => rfl, fun _ => rfl, fun _ => rfl, fun _ => rfl, fun _ => rfl, fun _ => rfl, fun _ => rfl, trivial⟩ rfl ?_
      refine r_goto G 16 dX7_sum_42 (by decide) ?_
      refine r_weak (lv' := [(0, .ref a0), (1, .int x1), (3, .int x3), (4, .int x4), (5, .int (x5 + r4)), (6, .int x6), (7, .int (x7 + 1))]) [2, 3, 4, 5, 1, 6, 0] rfl ?_
      exact ih a0 x1 x3 x4 (x5 + r4) x6 (x7 + 1) w3 hyp
set_option maxRecDepth 100000 in
set_option maxHeartbeats 4000000 in
theorem nd_X7_sum_L6 (G : xCx Γ p l s m args meth c RX7 cX7_sum 8 (some .int)) (hno : ∀ x ∈ c.exceptionTable.toList, False) : ∀ (n : Nat) (a0 : Nat) (x1 : Int32) (x3 : Int32) (x4 : Int32) (x5 : Int32) (x6 : Int32) (w0 : xW), f_X7_sum_L6 n a0 x1 x3 x4 x5 x6 w0 = some (rF, wF) → xAW Γ p l e (xRm 2 (x_mc rF) (x_ms rF)) s m args below meth c 8 (xQm Γ below xI rF wF args s (x_mc rF) (x_ms rF)) w0 0 0 6 [(0, .ref a0), (1, .int x1), (3, .int x3), (4, .int x4), (5, .int x5), (6, .int x6)] [] := by
  intro n
  induction n with
  | zero =>
    intro a0 x1 x3 x4 x5 x6 w0 hyp
    cases (show (none : xO Int32) = some (rF, wF) from hyp)
  | succ n ih =>
    intro a0 x1 x3 x4 x5 x6 w0 hyp
    rw [f_X7_sum_L6] at hyp
    refine r_iload G 5 dX7_sum_6 rfl ?_
    refine r_iload G 3 dX7_sum_8 rfl ?_
    refine r_icmp_gt G 51 dX7_sum_10 (by decide) hyp (fun c1 hyp => ?_) (fun c1 hyp => ?_)
    · refine r_iload G 4 dX7_sum_51 rfl ?_
      exact r_iret G hyp rfl (Nat.zero_le _) (Nat.zero_le _) dX7_sum_53
    · refine r_iload_n G 1 dX7_sum_13 rfl rfl ?_
      refine r_istore (lv' := [(7, .int x1), (0, .ref a0), (1, .int x1), (3, .int x3), (4, .int x4), (5, .int x5), (6, .int x6)]) G dX7_sum_14 (by decide) ⟨fun _ => rfl, fun _ => rfl, fun _ => rfl, fun _ => rfl, fun _ => rfl, fun _ => rfl, trivial⟩ rfl ?_
      refine r_weak (lv' := [(0, .ref a0), (1, .int x1), (3, .int x3), (4, .int x4), (5, .int x5), (6, .int x6), (7, .int x1)]) [1, 2, 3, 4, 5, 6, 0] rfl ?_
      exact nd_X7_sum_L16 G hno ih xfuel a0 x1 x3 x4 x5 x6 x1 w0 hyp
end
set_option maxRecDepth 100000 in
set_option maxHeartbeats 4000000 in
theorem ct_X7_sum {Γ : xG} {l : Launch} (hl : l.stackTraces = false) (a0 : Nat) (x1 : Int32) (x2 : Int32) (x3 : Int32) (x4 : Int32) (w0 : xW) (rF : Int32 ⊕ String) (wF : xW) (hyp : f_X7_sum a0 x1 x2 x3 x4 w0 = some (rF, wF)) : xMet Γ l yX7_sum (xws yX7_sum cX7_sum 8 (some .int)) 2 xI [.ref a0, .int x1, .int x2, .int x3, .int x4] w0 rF wF (x_mc rF) (x_ms rF) := by
  refine xOfW tg_X7_sum hl (lv0 := [(0, .ref a0), (1, .int x1), (2, .int x2), (3, .int x3), (4, .int x4)]) (Nat.le_of_ble_eq_true rfl) rfl ?_
  intro p e s m below meth c G hno hin
  rw [f_X7_sum] at hyp
  refine r_iconst (v := 0) G dX7_sum_0 (by decide) ?_
  refine r_istore (lv' := [(5, .int 0), (0, .ref a0), (1, .int x1), (2, .int x2), (3, .int x3), (4, .int x4)]) G dX7_sum_1 (by decide) ⟨fun _ => rfl, fun _ => rfl, fun _ => rfl, fun _ => rfl, fun _ => rfl, trivial⟩ rfl ?_
  refine r_iload_n G 3 dX7_sum_3 rfl rfl ?_
  refine r_istore (lv' := [(6, .int x2), (5, .int 0), (0, .ref a0), (1, .int x1), (2, .int x2), (3, .int x3), (4, .int x4)]) G dX7_sum_4 (by decide) ⟨fun _ => rfl, fun _ => rfl, fun _ => rfl, fun _ => rfl, fun _ => rfl, fun _ => rfl, trivial⟩ rfl ?_
  refine r_weak (lv' := [(0, .ref a0), (1, .int x1), (3, .int x3), (4, .int x4), (5, .int 0), (6, .int x2)]) [2, 3, 5, 6, 1, 0] rfl ?_
  exact nd_X7_sum_L6 G hno xfuel a0 x1 x3 x4 0 x2 w0 hyp
theorem tg_X7_darkestRow : xTgt yX7_darkestRow cX7_darkestRow 3 (some .int) 0 := ⟨ww_706, ww_574, by decide, by decide +kernel, by decide +kernel⟩
section
variable {Γ : xG} {p : Program} {l : Launch} {e : Env} {s : State} {m : MethodId} {args : Array Value} {below : List Frame} {meth : Method} {c : Code} {rF : Int32 ⊕ String} {wF : xW}
set_option maxRecDepth 100000 in
set_option maxHeartbeats 4000000 in
theorem nd_X7_darkestRow_L9 (G : xCx Γ p l s m args meth c RX7 cX7_darkestRow 3 (some .int)) (hno : ∀ x ∈ c.exceptionTable.toList, False) : ∀ (n : Nat) (a0 : Nat) (x1 : Int32) (x2 : Int32) (w0 : xW), f_X7_darkestRow_L9 n a0 x1 x2 w0 = some (rF, wF) → xAW Γ p l e (xRm 3 (x_mc rF) (x_ms rF)) s m args below meth c 3 (xQm Γ below xI rF wF args s (x_mc rF) (x_ms rF)) w0 0 0 9 [(0, .ref a0), (1, .int x1), (2, .int x2)] [] := by
  intro n
  induction n with
  | zero =>
    intro a0 x1 x2 w0 hyp
    cases (show (none : xO Int32) = some (rF, wF) from hyp)
  | succ n ih =>
    intro a0 x1 x2 w0 hyp
    rw [f_X7_darkestRow_L9] at hyp
    refine r_iload_n G 2 dX7_darkestRow_9 rfl rfl ?_
    refine r_bipush (v := 6) G dX7_darkestRow_10 (by decide) ?_
    refine r_icmp_ge G 44 dX7_darkestRow_12 (by decide) hyp (fun c2 hyp => ?_) (fun c2 hyp => ?_)
    · refine r_iload_n G 1 dX7_darkestRow_44 rfl rfl ?_
      exact r_iret G hyp rfl (Nat.zero_le _) (Nat.zero_le _) dX7_darkestRow_45
    · refine r_aload_n G 0 dX7_darkestRow_15 rfl rfl ?_
      refine r_iconst (v := 0) G dX7_darkestRow_16 (by decide) ?_
      refine r_iload_n G 2 dX7_darkestRow_17 rfl rfl ?_
      refine r_bipush (v := 7) G dX7_darkestRow_18 (by decide) ?_
      refine r_iload_n G 2 dX7_darkestRow_20 rfl rfl ?_
      obtain ⟨o5, hyp⟩ := x_chk hyp
      refine r_callV (ι := xI) (T := TX7) (N := 22) (ci := 7) (b := a0) (rest := []) (As := [.int 0, .int x2, .int 7, .int x2]) G hno tg_X7_sum (fun r w' h => ct_X7_sum (xhl G) _ _ _ _ _ _ r w' h) o5 hyp rfl ww_703 ww_705 ww_704 (by decide) (by decide) rfl rfl (xroom (Nat.le_of_ble_eq_true rfl)) dX7_darkestRow_21 (push := (fun r4 => [.int r4])) (fun _ => rfl) (fun r4 w3 hyp => ?_)
      refine r_aload_n G 0 dX7_darkestRow_24 rfl rfl ?_
      refine r_iconst (v := 0) G dX7_darkestRow_25 (by decide) ?_
      refine r_iload_n G 1 dX7_darkestRow_26 rfl rfl ?_
      refine r_bipush (v := 7) G dX7_darkestRow_27 (by decide) ?_
      refine r_iload_n G 1 dX7_darkestRow_29 rfl rfl ?_
      obtain ⟨o8, hyp⟩ := x_chk hyp
      refine r_callV (ι := xI) (T := TX7) (N := 22) (ci := 7) (b := a0) (rest := [.int r4]) (As := [.int 0, .int x1, .int 7, .int x1]) G hno tg_X7_sum (fun r w' h => ct_X7_sum (xhl G) _ _ _ _ _ _ r w' h) o8 hyp rfl ww_703 ww_705 ww_704 (by decide) (by decide) rfl rfl (xroom (Nat.le_of_ble_eq_true rfl)) dX7_darkestRow_30 (push := (fun r7 => [.int r7, .int r4])) (fun _ => rfl) (fun r7 w6 hyp => ?_)
      refine r_icmp_ge G 38 dX7_darkestRow_33 (by decide) hyp (fun c9 hyp => ?_) (fun c9 hyp => ?_)
      · refine r_iinc (v := (x2 + 1)) (lv' := [(2, .int (x2 + 1)), (0, .ref a0), (1, .int x1)]) G 2 dX7_darkestRow_38 rfl rfl (by decide) ⟨fun _ => rfl, fun _ => rfl, fun _ => rfl, trivial⟩ rfl ?_
        refine r_goto G 9 dX7_darkestRow_41 (by decide) ?_
        refine r_weak (lv' := [(0, .ref a0), (1, .int x1), (2, .int (x2 + 1))]) [1, 2, 0] rfl ?_
        exact ih a0 x1 (x2 + 1) w6 hyp
      · refine r_iload_n G 2 dX7_darkestRow_36 rfl rfl ?_
        refine r_istore_n (lv' := [(1, .int x2), (0, .ref a0), (2, .int x2)]) G dX7_darkestRow_37 rfl (by decide) ⟨fun _ => rfl, fun _ => rfl, fun _ => rfl, trivial⟩ rfl ?_
        refine r_iinc (v := (x2 + 1)) (lv' := [(2, .int (x2 + 1)), (1, .int x2), (0, .ref a0)]) G 2 dX7_darkestRow_38 rfl rfl (by decide) ⟨fun _ => rfl, fun _ => rfl, fun _ => rfl, trivial⟩ rfl ?_
        refine r_goto G 9 dX7_darkestRow_41 (by decide) ?_
        refine r_weak (lv' := [(0, .ref a0), (1, .int x2), (2, .int (x2 + 1))]) [2, 1, 0] rfl ?_
        exact ih a0 x2 (x2 + 1) w6 hyp
end
set_option maxRecDepth 100000 in
set_option maxHeartbeats 4000000 in
theorem ct_X7_darkestRow {Γ : xG} {l : Launch} (hl : l.stackTraces = false) (a0 : Nat) (w0 : xW) (rF : Int32 ⊕ String) (wF : xW) (hyp : f_X7_darkestRow a0 w0 = some (rF, wF)) : xMet Γ l yX7_darkestRow (xws yX7_darkestRow cX7_darkestRow 3 (some .int)) 3 xI [.ref a0] w0 rF wF (x_mc rF) (x_ms rF) := by
  refine xOfW tg_X7_darkestRow hl (lv0 := [(0, .ref a0)]) (Nat.le_of_ble_eq_true rfl) rfl ?_
  intro p e s m below meth c G hno hin
  rw [f_X7_darkestRow] at hyp
  refine r_aload_n G 0 dX7_darkestRow_0 rfl rfl ?_
  refine r_iconst (v := 0) G dX7_darkestRow_1 (by decide) ?_
  obtain ⟨w1, hw1, hyp⟩ := x_some hyp
  refine r_putv (C := RX7) (T := TX7) (N := 22) (ci := 7) G tyX7 tyX7_ok nmX7 0 hw1 rfl uw_7 (Nat.le_of_ble_eq_true rfl) rfl ww_594 rfl rfl rfl dX7_darkestRow_2 ?_
  refine r_iconst (v := 0) G dX7_darkestRow_5 (by decide) ?_
  refine r_istore_n (lv' := [(1, .int 0), (0, .ref a0)]) G dX7_darkestRow_6 rfl (by decide) ⟨fun _ => rfl, trivial⟩ rfl ?_
  refine r_iconst (v := 1) G dX7_darkestRow_7 (by decide) ?_
  refine r_istore_n (lv' := [(2, .int 1), (1, .int 0), (0, .ref a0)]) G dX7_darkestRow_8 rfl (by decide) ⟨fun _ => rfl, fun _ => rfl, trivial⟩ rfl ?_
  refine r_weak (lv' := [(0, .ref a0), (1, .int 0), (2, .int 1)]) [2, 1, 0] rfl ?_
  exact nd_X7_darkestRow_L9 G hno xfuel a0 0 1 w1 hyp
theorem tg_X7_differentCells : xTgt yX7_differentCells cX7_differentCells 5 (some .int) 2 := ⟨ww_707, ww_574, by decide, by decide +kernel, by decide +kernel⟩
section
variable {Γ : xG} {p : Program} {l : Launch} {e : Env} {s : State} {m : MethodId} {args : Array Value} {below : List Frame} {meth : Method} {c : Code} {rF : Int32 ⊕ String} {wF : xW}
set_option maxRecDepth 100000 in
set_option maxHeartbeats 4000000 in
theorem nd_X7_differentCells_L30 (G : xCx Γ p l s m args meth c RX7 cX7_differentCells 5 (some .int)) (hno : ∀ x ∈ c.exceptionTable.toList, False) : ∀ (n : Nat) (a0 : Nat) (x1 : Int32) (x2 : Int32) (x3 : Int32) (x4 : Int32) (w0 : xW), f_X7_differentCells_L30 n a0 x1 x2 x3 x4 w0 = some (rF, wF) → xAW Γ p l e (xRm 2 (x_mc rF) (x_ms rF)) s m args below meth c 5 (xQm Γ below xI rF wF args s (x_mc rF) (x_ms rF)) w0 0 0 30 [(0, .ref a0), (1, .int x1), (2, .int x2), (3, .int x3), (4, .int x4)] [] := by
  intro n
  induction n with
  | zero =>
    intro a0 x1 x2 x3 x4 w0 hyp
    cases (show (none : xO Int32) = some (rF, wF) from hyp)
  | succ n ih =>
    intro a0 x1 x2 x3 x4 w0 hyp
    rw [f_X7_differentCells_L30] at hyp
    refine r_iload G 4 dX7_differentCells_30 rfl ?_
    refine r_bipush (v := 48) G dX7_differentCells_32 (by decide) ?_
    refine r_icmp_ge G 75 dX7_differentCells_34 (by decide) hyp (fun c6 hyp => ?_) (fun c6 hyp => ?_)
    · refine r_iload_n G 3 dX7_differentCells_75 rfl rfl ?_
      exact r_iret G hyp rfl (Nat.zero_le _) (Nat.zero_le _) dX7_differentCells_76
    · refine r_aload_n G 0 dX7_differentCells_37 rfl rfl ?_
      obtain ⟨v7, hv7, hyp⟩ := x_some hyp
      refine r_getv (C := RX7) (T := TX7) (N := 22) (ci := 7) G 0 (x_geti_e hv7) rfl uw_7 (Nat.le_of_ble_eq_true rfl) rfl ww_594 dX7_differentCells_38 ?_
      refine r_if_ne G 75 dX7_differentCells_41 (by decide) hyp (fun c8 hyp => ?_) (fun c8 hyp => ?_)
      · refine r_iload_n G 3 dX7_differentCells_75 rfl rfl ?_
        exact r_iret G hyp rfl (Nat.zero_le _) (Nat.zero_le _) dX7_differentCells_76
      · refine r_iload_n G 3 dX7_differentCells_44 rfl rfl ?_
        refine r_aload_n G 0 dX7_differentCells_45 rfl rfl ?_
        refine r_iload_n G 1 dX7_differentCells_46 rfl rfl ?_
        refine r_iload G 4 dX7_differentCells_47 rfl ?_
        obtain ⟨o11, hyp⟩ := x_chk hyp
        refine r_callV (ι := xI) (T := TX7) (N := 22) (ci := 7) (b := a0) (rest := [.int x3]) (As := [.int x1, .int x4]) G hno tg_X7_at (fun r w' h => ct_X7_at (xhl G) _ _ _ _ r w' h) o11 hyp rfl ww_621 ww_623 ww_622 (by decide) (by decide) rfl rfl (xroom (Nat.le_of_ble_eq_true rfl)) dX7_differentCells_49 (push := (fun r10 => [.int r10, .int x3])) (fun _ => rfl) (fun r10 w9 hyp => ?_)
        refine r_aload_n G 0 dX7_differentCells_52 rfl rfl ?_
        refine r_iload_n G 2 dX7_differentCells_53 rfl rfl ?_
        refine r_iload G 4 dX7_differentCells_54 rfl ?_
        obtain ⟨o14, hyp⟩ := x_chk hyp
        refine r_callV (ι := xI) (T := TX7) (N := 22) (ci := 7) (b := a0) (rest := [.int r10, .int x3]) (As := [.int x2, .int x4]) G hno tg_X7_at (fun r w' h => ct_X7_at (xhl G) _ _ _ _ r w' h) o14 hyp rfl ww_621 ww_623 ww_622 (by decide) (by decide) rfl rfl (xroom (Nat.le_of_ble_eq_true rfl)) dX7_differentCells_56 (push := (fun r13 => [.int r13, .int r10, .int x3])) (fun _ => rfl) (fun r13 w12 hyp => ?_)
        refine r_icmp_ne G 66 dX7_differentCells_59 (by decide) hyp (fun c15 hyp => ?_) (fun c15 hyp => ?_)
        · refine r_iconst (v := 1) G dX7_differentCells_66 (by decide) ?_
          refine r_iadd G dX7_differentCells_67 ?_
          refine r_istore_n (lv' := [(3, .int (x3 + 1)), (0, .ref a0), (1, .int x1), (2, .int x2), (4, .int x4)]) G dX7_differentCells_68 rfl (by decide) ⟨fun _ => rfl, fun _ => rfl, fun _ => rfl, fun _ => rfl, fun _ => rfl, trivial⟩ rfl ?_
          refine r_iinc (v := (x4 + 1)) (lv' := [(4, .int (x4 + 1)), (3, .int (x3 + 1)), (0, .ref a0), (1, .int x1), (2, .int x2)]) G 4 dX7_differentCells_69 rfl rfl (by decide) ⟨fun _ => rfl, fun _ => rfl, fun _ => rfl, fun _ => rfl, fun _ => rfl, trivial⟩ rfl ?_
          refine r_goto G 30 dX7_differentCells_72 (by decide) ?_
          refine r_weak (lv' := [(0, .ref a0), (1, .int x1), (2, .int x2), (3, .int (x3 + 1)), (4, .int (x4 + 1))]) [2, 3, 4, 1, 0] rfl ?_
          exact ih a0 x1 x2 (x3 + 1) (x4 + 1) w12 hyp
        · refine r_iconst (v := 0) G dX7_differentCells_62 (by decide) ?_
          refine r_goto G 67 dX7_differentCells_63 (by decide) ?_
          refine r_iadd G dX7_differentCells_67 ?_
          refine r_istore_n (lv' := [(3, .int (x3 + 0)), (0, .ref a0), (1, .int x1), (2, .int x2), (4, .int x4)]) G dX7_differentCells_68 rfl (by decide) ⟨fun _ => rfl, fun _ => rfl, fun _ => rfl, fun _ => rfl, fun _ => rfl, trivial⟩ rfl ?_
          refine r_iinc (v := (x4 + 1)) (lv' := [(4, .int (x4 + 1)), (3, .int (x3 + 0)), (0, .ref a0), (1, .int x1), (2, .int x2)]) G 4 dX7_differentCells_69 rfl rfl (by decide) ⟨fun _ => rfl, fun _ => rfl, fun _ => rfl, fun _ => rfl, fun _ => rfl, trivial⟩ rfl ?_
          refine r_goto G 30 dX7_differentCells_72 (by decide) ?_
          refine r_weak (lv' := [(0, .ref a0), (1, .int x1), (2, .int x2), (3, .int (x3 + 0)), (4, .int (x4 + 1))]) [2, 3, 4, 1, 0] rfl ?_
          exact ih a0 x1 x2 (x3 + 0) (x4 + 1) w12 hyp
end
set_option maxRecDepth 100000 in
set_option maxHeartbeats 4000000 in
theorem ct_X7_differentCells {Γ : xG} {l : Launch} (hl : l.stackTraces = false) (a0 : Nat) (x1 : Int32) (x2 : Int32) (w0 : xW) (rF : Int32 ⊕ String) (wF : xW) (hyp : f_X7_differentCells a0 x1 x2 w0 = some (rF, wF)) : xMet Γ l yX7_differentCells (xws yX7_differentCells cX7_differentCells 5 (some .int)) 2 xI [.ref a0, .int x1, .int x2] w0 rF wF (x_mc rF) (x_ms rF) := by
  refine xOfW tg_X7_differentCells hl (lv0 := [(0, .ref a0), (1, .int x1), (2, .int x2)]) (Nat.le_of_ble_eq_true rfl) rfl ?_
  intro p e s m below meth c G hno hin
  rw [f_X7_differentCells] at hyp
  refine r_aload_n G 0 dX7_differentCells_0 rfl rfl ?_
  refine r_aload_n G 0 dX7_differentCells_1 rfl rfl ?_
  refine r_iload_n G 1 dX7_differentCells_2 rfl rfl ?_
  obtain ⟨o3, hyp⟩ := x_chk hyp
  refine r_callV (ι := xI) (T := TX7) (N := 22) (ci := 7) (b := a0) (rest := [.ref a0]) (As := [.int x1]) G hno tg_X7_isLayer (fun r w' h => ct_X7_isLayer (xhl G) _ _ _ r w' h) o3 hyp rfl ww_678 ww_680 ww_679 (by decide) (by decide) rfl rfl (xroom (Nat.le_of_ble_eq_true rfl)) dX7_differentCells_3 (push := (fun r2 => [.int r2, .ref a0])) (fun _ => rfl) (fun r2 w1 hyp => ?_)
  refine r_if_eq G 21 dX7_differentCells_6 (by decide) hyp (fun c4 hyp => ?_) (fun c4 hyp => ?_)
  · refine r_iconst (v := 1) G dX7_differentCells_21 (by decide) ?_
    obtain ⟨w5, hw5, hyp⟩ := x_some hyp
    refine r_putv (C := RX7) (T := TX7) (N := 22) (ci := 7) G tyX7 tyX7_ok nmX7 0 hw5 rfl uw_7 (Nat.le_of_ble_eq_true rfl) rfl ww_594 rfl rfl rfl dX7_differentCells_22 ?_
    refine r_iconst (v := 0) G dX7_differentCells_25 (by decide) ?_
    refine r_istore_n (lv' := [(3, .int 0), (0, .ref a0), (1, .int x1), (2, .int x2)]) G dX7_differentCells_26 rfl (by decide) ⟨fun _ => rfl, fun _ => rfl, fun _ => rfl, trivial⟩ rfl ?_
    refine r_iconst (v := 0) G dX7_differentCells_27 (by decide) ?_
    refine r_istore (lv' := [(4, .int 0), (3, .int 0), (0, .ref a0), (1, .int x1), (2, .int x2)]) G dX7_differentCells_28 (by decide) ⟨fun _ => rfl, fun _ => rfl, fun _ => rfl, fun _ => rfl, trivial⟩ rfl ?_
    refine r_weak (lv' := [(0, .ref a0), (1, .int x1), (2, .int x2), (3, .int 0), (4, .int 0)]) [2, 3, 4, 1, 0] rfl ?_
    exact nd_X7_differentCells_L30 G hno xfuel a0 x1 x2 0 0 w5 hyp
  · refine r_aload_n G 0 dX7_differentCells_9 rfl rfl ?_
    refine r_iload_n G 2 dX7_differentCells_10 rfl rfl ?_
    obtain ⟨o18, hyp⟩ := x_chk hyp
    refine r_callV (ι := xI) (T := TX7) (N := 22) (ci := 7) (b := a0) (rest := [.ref a0]) (As := [.int x2]) G hno tg_X7_isLayer (fun r w' h => ct_X7_isLayer (xhl G) _ _ _ r w' h) o18 hyp rfl ww_678 ww_680 ww_679 (by decide) (by decide) rfl rfl (xroom (Nat.le_of_ble_eq_true rfl)) dX7_differentCells_11 (push := (fun r17 => [.int r17, .ref a0])) (fun _ => rfl) (fun r17 w16 hyp => ?_)
    refine r_if_eq G 21 dX7_differentCells_14 (by decide) hyp (fun c19 hyp => ?_) (fun c19 hyp => ?_)
    · refine r_iconst (v := 1) G dX7_differentCells_21 (by decide) ?_
      obtain ⟨w20, hw20, hyp⟩ := x_some hyp
      refine r_putv (C := RX7) (T := TX7) (N := 22) (ci := 7) G tyX7 tyX7_ok nmX7 0 hw20 rfl uw_7 (Nat.le_of_ble_eq_true rfl) rfl ww_594 rfl rfl rfl dX7_differentCells_22 ?_
      refine r_iconst (v := 0) G dX7_differentCells_25 (by decide) ?_
      refine r_istore_n (lv' := [(3, .int 0), (0, .ref a0), (1, .int x1), (2, .int x2)]) G dX7_differentCells_26 rfl (by decide) ⟨fun _ => rfl, fun _ => rfl, fun _ => rfl, trivial⟩ rfl ?_
      refine r_iconst (v := 0) G dX7_differentCells_27 (by decide) ?_
      refine r_istore (lv' := [(4, .int 0), (3, .int 0), (0, .ref a0), (1, .int x1), (2, .int x2)]) G dX7_differentCells_28 (by decide) ⟨fun _ => rfl, fun _ => rfl, fun _ => rfl, fun _ => rfl, trivial⟩ rfl ?_
      refine r_weak (lv' := [(0, .ref a0), (1, .int x1), (2, .int x2), (3, .int 0), (4, .int 0)]) [2, 3, 4, 1, 0] rfl ?_
      exact nd_X7_differentCells_L30 G hno xfuel a0 x1 x2 0 0 w20 hyp
    · refine r_iconst (v := 0) G dX7_differentCells_17 (by decide) ?_
      refine r_goto G 22 dX7_differentCells_18 (by decide) ?_
      obtain ⟨w21, hw21, hyp⟩ := x_some hyp
      refine r_putv (C := RX7) (T := TX7) (N := 22) (ci := 7) G tyX7 tyX7_ok nmX7 0 hw21 rfl uw_7 (Nat.le_of_ble_eq_true rfl) rfl ww_594 rfl rfl rfl dX7_differentCells_22 ?_
      refine r_iconst (v := 0) G dX7_differentCells_25 (by decide) ?_
      refine r_istore_n (lv' := [(3, .int 0), (0, .ref a0), (1, .int x1), (2, .int x2)]) G dX7_differentCells_26 rfl (by decide) ⟨fun _ => rfl, fun _ => rfl, fun _ => rfl, trivial⟩ rfl ?_
      refine r_iconst (v := 0) G dX7_differentCells_27 (by decide) ?_
      refine r_istore (lv' := [(4, .int 0), (3, .int 0), (0, .ref a0), (1, .int x1), (2, .int x2)]) G dX7_differentCells_28 (by decide) ⟨fun _ => rfl, fun _ => rfl, fun _ => rfl, fun _ => rfl, trivial⟩ rfl ?_
      refine r_weak (lv' := [(0, .ref a0), (1, .int x1), (2, .int x2), (3, .int 0), (4, .int 0)]) [2, 3, 4, 1, 0] rfl ?_
      exact nd_X7_differentCells_L30 G hno xfuel a0 x1 x2 0 0 w21 hyp
theorem tg_X7_erases : xTgt yX7_erases cX7_erases 9 (some .int) 4 := ⟨ww_708, ww_574, by decide, by decide +kernel, by decide +kernel⟩
section
variable {Γ : xG} {p : Program} {l : Launch} {e : Env} {s : State} {m : MethodId} {args : Array Value} {below : List Frame} {meth : Method} {c : Code} {rF : Int32 ⊕ String} {wF : xW}
set_option maxRecDepth 100000 in
set_option maxHeartbeats 4000000 in
theorem nd_X7_erases_L37 (G : xCx Γ p l s m args meth c RX7 cX7_erases 9 (some .int)) (hno : ∀ x ∈ c.exceptionTable.toList, False) : ∀ (n : Nat) (a0 : Nat) (x1 : Int32) (x2 : Int32) (x3 : Int32) (x4 : Int32) (x5 : Int32) (x6 : Int32) (w0 : xW), f_X7_erases_L37 n a0 x1 x2 x3 x4 x5 x6 w0 = some (rF, wF) → xAW Γ p l e (xRm 2 (x_mc rF) (x_ms rF)) s m args below meth c 9 (xQm Γ below xI rF wF args s (x_mc rF) (x_ms rF)) w0 0 0 37 [(0, .ref a0), (1, .int x1), (2, .int x2), (3, .int x3), (4, .int x4), (5, .int x5), (6, .int x6)] [] := by
  intro n
  induction n with
  | zero =>
    intro a0 x1 x2 x3 x4 x5 x6 w0 hyp
    cases (show (none : xO Int32) = some (rF, wF) from hyp)
  | succ n ih =>
    intro a0 x1 x2 x3 x4 x5 x6 w0 hyp
    rw [f_X7_erases_L37] at hyp
    refine r_iload G 6 dX7_erases_37 rfl ?_
    refine r_bipush (v := 48) G dX7_erases_39 (by decide) ?_
    refine r_icmp_ge G 111 dX7_erases_41 (by decide) hyp (fun c11 hyp => ?_) (fun c11 hyp => ?_)
    · refine r_aload_n G 0 dX7_erases_111 rfl rfl ?_
      obtain ⟨v12, hv12, hyp⟩ := x_some hyp
      refine r_getv (C := RX7) (T := TX7) (N := 22) (ci := 7) G 1 (x_getr_e hv12) rfl uw_7 (Nat.le_of_ble_eq_true rfl) rfl ww_561 dX7_erases_112 ?_
      refine r_iconst (v := 2) G dX7_erases_115 (by decide) ?_
      refine r_dup2 G dX7_erases_116 rfl (xcq _) ?_
      refine r_ref hyp (fun a13 ha13 hz => ?_)
      clear hyp; subst ha13; have hyp := hz; clear hz
      obtain ⟨v14, hv14, hyp⟩ := x_some hyp
      refine r_iald G hv14 dX7_erases_117 ?_
      refine r_iload G 5 dX7_erases_118 rfl ?_
      refine r_iadd G dX7_erases_120 ?_
      obtain ⟨w15, hw15, hyp⟩ := x_some hyp
      refine r_iast G hw15 dX7_erases_121 ?_
      refine r_aload_n G 0 dX7_erases_122 rfl rfl ?_
      refine r_iload G 5 dX7_erases_123 rfl ?_
      obtain ⟨o18, hyp⟩ := x_chk hyp
      refine r_callV (ι := xI) (T := TX7) (N := 22) (ci := 7) (b := a0) (rest := []) (As := [.int x5]) G hno tg_X7_done (fun r w' h => ct_X7_done (xhl G) _ _ _ r w' h) o18 hyp rfl ww_588 ww_590 ww_589 (by decide) (by decide) rfl rfl (xroom (Nat.le_of_ble_eq_true rfl)) dX7_erases_125 (push := (fun r17 => [.int r17])) (fun _ => rfl) (fun r17 w16 hyp => ?_)
      exact r_iret G hyp rfl (Nat.zero_le _) (Nat.zero_le _) dX7_erases_128
    · refine r_iload G 6 dX7_erases_44 rfl ?_
      refine r_bipush (v := 8) G dX7_erases_46 (by decide) ?_
      refine r_irem G dX7_erases_48 (by decide) ?_
      refine r_iload_n G 2 dX7_erases_49 rfl rfl ?_
      refine r_isub G dX7_erases_50 ?_
      refine r_istore (lv' := [(7, .int ((x6 - x6 / 8 * 8) - x2)), (0, .ref a0), (1, .int x1), (2, .int x2), (3, .int x3), (4, .int x4), (5, .int x5), (6, .int x6)]) G dX7_erases_51 (by decide) ⟨fun _ => rfl, fun _ => rfl, fun _ => rfl, fun _ => rfl, fun _ => rfl, fun _ => rfl, fun _ => rfl, trivial⟩ rfl ?_
      refine r_iload G 7 dX7_erases_53 rfl ?_
      refine r_bipush (v := 8) G dX7_erases_55 (by decide) ?_
      refine r_idiv G dX7_erases_57 (by decide) ?_
      refine r_iload_n G 4 dX7_erases_58 rfl rfl ?_
      refine r_isub G dX7_erases_59 ?_
      refine r_istore (lv' := [(8, .int ((x6 / 8) - x3)), (7, .int ((x6 - x6 / 8 * 8) - x2)), (0, .ref a0), (1, .int x1), (2, .int x2), (3, .int x3), (4, .int x4), (5, .int x5), (6, .int x6)]) G dX7_erases_60 (by decide) ⟨fun _ => rfl, fun _ => rfl, fun _ => rfl, fun _ => rfl, fun _ => rfl, fun _ => rfl, fun _ => rfl, fun _ => rfl, trivial⟩ rfl ?_
      refine r_iload G 1 dX7_erases_62 rfl ?_
      refine r_iload G 1 dX7_erases_64 rfl ?_
      refine r_imul G dX7_erases_66 ?_
      refine r_iload G 0 dX7_erases_67 rfl ?_
      refine r_iload G 0 dX7_erases_69 rfl ?_
      refine r_imul G dX7_erases_71 ?_
      refine r_iadd G dX7_erases_72 ?_
      refine r_iload G 6 dX7_erases_73 rfl ?_
      refine r_iload G 6 dX7_erases_75 rfl ?_
      refine r_imul G dX7_erases_77 ?_
      refine r_icmp_gt G 105 dX7_erases_78 (by decide) hyp (fun c19 hyp => ?_) (fun c19 hyp => ?_)
      · refine r_iinc (v := (x6 + 1)) (lv' := [(6, .int (x6 + 1)), (8, .int ((x6 / 8) - x3)), (7, .int ((x6 - x6 / 8 * 8) - x2)), (0, .ref a0), (1, .int x1), (2, .int x2), (3, .int x3), (4, .int x4), (5, .int x5)]) G 8 dX7_erases_105 rfl rfl (by decide) ⟨fun _ => rfl, fun _ => rfl, fun _ => rfl, fun _ => rfl, fun _ => rfl, fun _ => rfl, fun _ => rfl, fun _ => rfl, fun _ => rfl, trivial⟩ rfl ?_
        refine r_goto G 37 dX7_erases_108 (by decide) ?_
        refine r_weak (lv' := [(0, .ref a0), (1, .int x1), (2, .int x2), (3, .int x3), (4, .int x4), (5, .int x5), (6, .int (x6 + 1))]) [3, 4, 5, 6, 7, 8, 0] rfl ?_
        exact ih a0 x1 x2 x3 x4 x5 (x6 + 1) w0 hyp
      · refine r_aload_n G 2 dX7_erases_81 rfl rfl ?_
        refine r_iload_n G 3 dX7_erases_82 rfl rfl ?_
        refine r_iload G 8 dX7_erases_83 rfl ?_
        obtain ⟨o22, hyp⟩ := x_chk hyp
        refine r_callV (ι := xI) (T := TX7) (N := 22) (ci := 7) (b := a0) (rest := []) (As := [.int x1, .int x6]) G hno tg_X7_at (fun r w' h => ct_X7_at (xhl G) _ _ _ _ r w' h) o22 hyp rfl ww_621 ww_623 ww_622 (by decide) (by decide) rfl rfl (xroom (Nat.le_of_ble_eq_true rfl)) dX7_erases_85 (push := (fun r21 => [.int r21])) (fun _ => rfl) (fun r21 w20 hyp => ?_)
        refine r_if_ne G 94 dX7_erases_88 (by decide) hyp (fun c23 hyp => ?_) (fun c23 hyp => ?_)
        · refine r_aload_n G 2 dX7_erases_94 rfl rfl ?_
          refine r_iload_n G 3 dX7_erases_95 rfl rfl ?_
          refine r_iload G 8 dX7_erases_96 rfl ?_
          refine r_iconst (v := 0) G dX7_erases_98 (by decide) ?_
          obtain ⟨o26, hyp⟩ := x_chk hyp
          refine r_callV (ι := xV) (T := TX7) (N := 22) (ci := 7) (b := a0) (rest := []) (As := [.int x1, .int x6, .int 0]) G hno tg_X7_sets (fun r w' h => ct_X7_sets (xhl G) _ _ _ _ _ r w' h) o26 hyp rfl ww_576 ww_578 ww_577 (by decide) (by decide) rfl rfl (xroom (Nat.le_of_ble_eq_true rfl)) dX7_erases_99 (push := (fun _ => [])) (fun _ => rfl) (fun _ w24 hyp => ?_)
          refine r_iinc (v := (x5 + 1)) (lv' := [(5, .int (x5 + 1)), (8, .int ((x6 / 8) - x3)), (7, .int ((x6 - x6 / 8 * 8) - x2)), (0, .ref a0), (1, .int x1), (2, .int x2), (3, .int x3), (4, .int x4), (6, .int x6)]) G 7 dX7_erases_102 rfl rfl (by decide) ⟨fun _ => rfl, fun _ => rfl, fun _ => rfl, fun _ => rfl, fun _ => rfl, fun _ => rfl, fun _ => rfl, fun _ => rfl, fun _ => rfl, trivial⟩ rfl ?_
          refine r_iinc (v := (x6 + 1)) (lv' := [(6, .int (x6 + 1)), (5, .int (x5 + 1)), (8, .int ((x6 / 8) - x3)), (7, .int ((x6 - x6 / 8 * 8) - x2)), (0, .ref a0), (1, .int x1), (2, .int x2), (3, .int x3), (4, .int x4)]) G 8 dX7_erases_105 rfl rfl (by decide) ⟨fun _ => rfl, fun _ => rfl, fun _ => rfl, fun _ => rfl, fun _ => rfl, fun _ => rfl, fun _ => rfl, fun _ => rfl, fun _ => rfl, trivial⟩ rfl ?_
          refine r_goto G 37 dX7_erases_108 (by decide) ?_
          refine r_weak (lv' := [(0, .ref a0), (1, .int x1), (2, .int x2), (3, .int x3), (4, .int x4), (5, .int (x5 + 1)), (6, .int (x6 + 1))]) [4, 5, 6, 7, 8, 1, 0] rfl ?_
          exact ih a0 x1 x2 x3 x4 (x5 + 1) (x6 + 1) w24 hyp
        · refine r_goto G 105 dX7_erases_91 (by decide) ?_
          refine r_iinc (v := (x6 + 1)) (lv' := [(6, .int (x6 + 1)), (8, .int ((x6 / 8) - x3)), (7, .int ((x6 - x6 / 8 * 8) - x2)), (0, .ref a0), (1, .int x1), (2, .int x2), (3, .int x3), (4, .int x4), (5, .int x5)]) G 8 dX7_erases_105 rfl rfl (by decide) ⟨fun _ => rfl, fun _ => rfl, fun _ => rfl, fun _ => rfl, fun _ => rfl, fun _ => rfl, fun _ => rfl, fun _ => rfl, fun _ => rfl, trivial⟩ rfl ?_
          refine r_goto G 37 dX7_erases_108 (by decide) ?_
          refine r_weak (lv' := [(0, .ref a0), (1, .int x1), (2, .int x2), (3, .int x3), (4, .int x4), (5, .int x5), (6, .int (x6 + 1))]) [3, 4, 5, 6, 7, 8, 0] rfl ?_
          exact ih a0 x1 x2 x3 x4 x5 (x6 + 1) w20 hyp
end
set_option maxRecDepth 100000 in
set_option maxHeartbeats 4000000 in
theorem ct_X7_erases {Γ : xG} {l : Launch} (hl : l.stackTraces = false) (a0 : Nat) (x1 : Int32) (x2 : Int32) (x3 : Int32) (x4 : Int32) (w0 : xW) (rF : Int32 ⊕ String) (wF : xW) (hyp : f_X7_erases a0 x1 x2 x3 x4 w0 = some (rF, wF)) : xMet Γ l yX7_erases (xws yX7_erases cX7_erases 9 (some .int)) 2 xI [.ref a0, .int x1, .int x2, .int x3, .int x4] w0 rF wF (x_mc rF) (x_ms rF) := by
  refine xOfW tg_X7_erases hl (lv0 := [(0, .ref a0), (1, .int x1), (2, .int x2), (3, .int x3), (4, .int x4)]) (Nat.le_of_ble_eq_true rfl) rfl ?_
  intro p e s m below meth c G hno hin
  rw [f_X7_erases] at hyp
  refine r_aload_n G 0 dX7_erases_0 rfl rfl ?_
  refine r_iload_n G 1 dX7_erases_1 rfl rfl ?_
  obtain ⟨o3, hyp⟩ := x_chk hyp
  refine r_callV (ι := xI) (T := TX7) (N := 22) (ci := 7) (b := a0) (rest := []) (As := [.int x1]) G hno tg_X7_isLayer (fun r w' h => ct_X7_isLayer (xhl G) _ _ _ r w' h) o3 hyp rfl ww_678 ww_680 ww_679 (by decide) (by decide) rfl rfl (xroom (Nat.le_of_ble_eq_true rfl)) dX7_erases_2 (push := (fun r2 => [.int r2])) (fun _ => rfl) (fun r2 w1 hyp => ?_)
  refine r_if_eq G 16 dX7_erases_5 (by decide) hyp (fun c4 hyp => ?_) (fun c4 hyp => ?_)
  · refine r_iconst (v := 1) G dX7_erases_16 (by decide) ?_
    exact r_iret G hyp rfl (Nat.zero_le _) (Nat.zero_le _) dX7_erases_17
  · refine r_iload_n G 2 dX7_erases_8 rfl rfl ?_
    refine r_iload_n G 3 dX7_erases_9 rfl rfl ?_
    refine r_callS (ι := xI) (rest := []) (As := [.int x2, .int x3]) G hno tg_X7_isCell (fun r w' h => ct_X7_isCell (xhl G) _ _ _ r w' h) hyp ww_651 ww_652 (by decide) (by decide) rfl rfl (xroom (Nat.le_of_ble_eq_true rfl)) dX7_erases_10 (push := (fun r6 => [.int r6])) (fun _ => rfl) (fun r6 w5 hyp => ?_)
    refine r_if_ne G 18 dX7_erases_13 (by decide) hyp (fun c7 hyp => ?_) (fun c7 hyp => ?_)
    · refine r_iload G 4 dX7_erases_18 rfl ?_
      refine r_iconst (v := 0) G dX7_erases_20 (by decide) ?_
      refine r_bipush (v := 9) G dX7_erases_21 (by decide) ?_
      refine r_callS (ι := xI) (rest := []) (As := [.int x4, .int 0, .int 9]) G hno tg_X7_in (fun r w' h => ct_X7_in (xhl G) _ _ _ _ r w' h) hyp ww_647 ww_648 (by decide) (by decide) rfl rfl (xroom (Nat.le_of_ble_eq_true rfl)) dX7_erases_23 (push := (fun r9 => [.int r9])) (fun _ => rfl) (fun r9 w8 hyp => ?_)
      refine r_if_ne G 31 dX7_erases_26 (by decide) hyp (fun c10 hyp => ?_) (fun c10 hyp => ?_)
      · refine r_iconst (v := 0) G dX7_erases_31 (by decide) ?_
        refine r_istore (lv' := [(5, .int 0), (0, .ref a0), (1, .int x1), (2, .int x2), (3, .int x3), (4, .int x4)]) G dX7_erases_32 (by decide) ⟨fun _ => rfl, fun _ => rfl, fun _ => rfl, fun _ => rfl, fun _ => rfl, trivial⟩ rfl ?_
        refine r_iconst (v := 0) G dX7_erases_34 (by decide) ?_
        refine r_istore (lv' := [(6, .int 0), (5, .int 0), (0, .ref a0), (1, .int x1), (2, .int x2), (3, .int x3), (4, .int x4)]) G dX7_erases_35 (by decide) ⟨fun _ => rfl, fun _ => rfl, fun _ => rfl, fun _ => rfl, fun _ => rfl, fun _ => rfl, trivial⟩ rfl ?_
        refine r_weak (lv' := [(0, .ref a0), (1, .int x1), (2, .int x2), (3, .int x3), (4, .int x4), (5, .int 0), (6, .int 0)]) [2, 3, 4, 5, 6, 1, 0] rfl ?_
        exact nd_X7_erases_L37 G hno xfuel a0 x1 x2 x3 x4 0 0 w8 hyp
      · refine r_iconst (v := 2) G dX7_erases_29 (by decide) ?_
        exact r_iret G hyp rfl (Nat.zero_le _) (Nat.zero_le _) dX7_erases_30
    · refine r_iconst (v := 1) G dX7_erases_16 (by decide) ?_
      exact r_iret G hyp rfl (Nat.zero_le _) (Nat.zero_le _) dX7_erases_17
theorem tg_X7_takes : xTgt yX7_takes cX7_takes 4 none 1 := ⟨ww_709, ww_574, by decide, by decide +kernel, by decide +kernel⟩
section
variable {Γ : xG} {p : Program} {l : Launch} {e : Env} {s : State} {m : MethodId} {args : Array Value} {below : List Frame} {meth : Method} {c : Code} {rF : Unit ⊕ String} {wF : xW}
set_option maxRecDepth 100000 in
set_option maxHeartbeats 4000000 in
theorem nd_X7_takes_L49 (G : xCx Γ p l s m args meth c RX7 cX7_takes 4 none) (hno : ∀ x ∈ c.exceptionTable.toList, False) : ∀ (n : Nat) (a0 : Nat) (x2 : Int32) (x3 : Int32) (w0 : xW), f_X7_takes_L49 n a0 x2 x3 w0 = some (rF, wF) → xAW Γ p l e (xRm 0 (x_mc rF) (x_ms rF)) s m args below meth c 4 (xQm Γ below xV rF wF args s (x_mc rF) (x_ms rF)) w0 0 0 49 [(0, .ref a0), (2, .int x2), (3, .int x3)] [] := by
  intro n
  induction n with
  | zero =>
    intro a0 x2 x3 w0 hyp
    cases (show (none : xO Unit) = some (rF, wF) from hyp)
  | succ n ih =>
    intro a0 x2 x3 w0 hyp
    rw [f_X7_takes_L49] at hyp
    refine r_iload_n G 2 dX7_takes_49 rfl rfl ?_
    refine r_bipush (v := 50) G dX7_takes_50 (by decide) ?_
    refine r_icmp_ge G 75 dX7_takes_52 (by decide) hyp (fun c5 hyp => ?_) (fun c5 hyp => ?_)
    · refine r_aload_n G 0 dX7_takes_75 rfl rfl ?_
      obtain ⟨v6, hv6, hyp⟩ := x_some hyp
      refine r_getv (C := RX7) (T := TX7) (N := 22) (ci := 7) G 1 (x_getr_e hv6) rfl uw_7 (Nat.le_of_ble_eq_true rfl) rfl ww_561 dX7_takes_76 ?_
      refine r_iconst (v := 0) G dX7_takes_79 (by decide) ?_
      refine r_iload_n G 1 dX7_takes_80 rfl rfl ?_
      refine r_ref hyp (fun a7 ha7 hz => ?_)
      clear hyp; subst ha7; have hyp := hz; clear hz
      obtain ⟨w8, hw8, hyp⟩ := x_some hyp
      refine r_iast G hw8 dX7_takes_81 ?_
      exact r_vret G hyp (Nat.zero_le _) (Nat.zero_le _) dX7_takes_82
    · refine r_aload_n G 0 dX7_takes_55 rfl rfl ?_
      obtain ⟨v9, hv9, hyp⟩ := x_some hyp
      refine r_getv (C := RX7) (T := TX7) (N := 22) (ci := 7) G 1 (x_getr_e hv9) rfl uw_7 (Nat.le_of_ble_eq_true rfl) rfl ww_561 dX7_takes_56 ?_
      refine r_iconst (v := 3) G dX7_takes_59 (by decide) ?_
      refine r_bipush (v := 50) G dX7_takes_60 (by decide) ?_
      refine r_iload_n G 1 dX7_takes_62 rfl rfl ?_
      refine r_imul G dX7_takes_63 ?_
      refine r_iadd G dX7_takes_64 ?_
      refine r_iload_n G 2 dX7_takes_65 rfl rfl ?_
      refine r_iadd G dX7_takes_66 ?_
      refine r_iconst (v := 0) G dX7_takes_67 (by decide) ?_
      refine r_ref hyp (fun a10 ha10 hz => ?_)
      clear hyp; subst ha10; have hyp := hz; clear hz
      obtain ⟨w11, hw11, hyp⟩ := x_some hyp
      refine r_iast G hw11 dX7_takes_68 ?_
      refine r_iinc (v := (x3 + 1)) (lv' := [(3, .int (x3 + 1)), (0, .ref a0), (2, .int x2)]) G 2 dX7_takes_69 rfl rfl (by decide) ⟨fun _ => rfl, fun _ => rfl, fun _ => rfl, trivial⟩ rfl ?_
      refine r_goto G 49 dX7_takes_72 (by decide) ?_
      refine r_weak (lv' := [(0, .ref a0), (2, .int x2), (3, .int (x3 + 1))]) [1, 2, 0] rfl ?_
      exact ih a0 x2 (x3 + 1) w11 hyp
set_option maxRecDepth 100000 in
set_option maxHeartbeats 4000000 in
theorem nd_X7_takes_L14 (G : xCx Γ p l s m args meth c RX7 cX7_takes 4 none) (hno : ∀ x ∈ c.exceptionTable.toList, False) : ∀ (n : Nat) (a0 : Nat) (x2 : Int32) (x3 : Int32) (w0 : xW), f_X7_takes_L14 n a0 x2 x3 w0 = some (rF, wF) → xAW Γ p l e (xRm 0 (x_mc rF) (x_ms rF)) s m args below meth c 4 (xQm Γ below xV rF wF args s (x_mc rF) (x_ms rF)) w0 0 0 14 [(0, .ref a0), (2, .int x2), (3, .int x3)] [] := by
  intro n
  induction n with
  | zero =>
    intro a0 x2 x3 w0 hyp
    cases (show (none : xO Unit) = some (rF, wF) from hyp)
  | succ n ih =>
    intro a0 x2 x3 w0 hyp
    rw [f_X7_takes_L14] at hyp
    refine r_iload_n G 2 dX7_takes_14 rfl rfl ?_
    refine r_bipush (v := 50) G dX7_takes_15 (by decide) ?_
    refine r_iload_n G 1 dX7_takes_17 rfl rfl ?_
    refine r_imul G dX7_takes_18 ?_
    refine r_icmp_ge G 47 dX7_takes_19 (by decide) hyp (fun c4 hyp => ?_) (fun c4 hyp => ?_)
    · refine r_iconst (v := 0) G dX7_takes_47 (by decide) ?_
      refine r_istore_n (lv' := [(3, .int 0), (0, .ref a0), (2, .int x2)]) G dX7_takes_48 rfl (by decide) ⟨fun _ => rfl, fun _ => rfl, fun _ => rfl, trivial⟩ rfl ?_
      refine r_weak (lv' := [(0, .ref a0), (2, .int x2), (3, .int 0)]) [1, 2, 0] rfl ?_
      exact nd_X7_takes_L49 G hno xfuel a0 x2 0 w0 hyp
    · refine r_aload_n G 0 dX7_takes_22 rfl rfl ?_
      obtain ⟨v12, hv12, hyp⟩ := x_some hyp
      refine r_getv (C := RX7) (T := TX7) (N := 22) (ci := 7) G 1 (x_getr_e hv12) rfl uw_7 (Nat.le_of_ble_eq_true rfl) rfl ww_561 dX7_takes_23 ?_
      refine r_iconst (v := 3) G dX7_takes_26 (by decide) ?_
      refine r_iload_n G 2 dX7_takes_27 rfl rfl ?_
      refine r_iadd G dX7_takes_28 ?_
      refine r_aload_n G 0 dX7_takes_29 rfl rfl ?_
      obtain ⟨v13, hv13, hyp⟩ := x_some hyp
      refine r_getv (C := RX7) (T := TX7) (N := 22) (ci := 7) G 1 (x_getr_e hv13) rfl uw_7 (Nat.le_of_ble_eq_true rfl) rfl ww_561 dX7_takes_30 ?_
      refine r_iconst (v := 3) G dX7_takes_33 (by decide) ?_
      refine r_iload_n G 2 dX7_takes_34 rfl rfl ?_
      refine r_iadd G dX7_takes_35 ?_
      refine r_bipush (v := 50) G dX7_takes_36 (by decide) ?_
      refine r_iadd G dX7_takes_38 ?_
      refine r_ref hyp (fun a14 ha14 hz => ?_)
      clear hyp; subst ha14; have hyp := hz; clear hz
      obtain ⟨v15, hv15, hyp⟩ := x_some hyp
      refine r_iald G hv15 dX7_takes_39 ?_
      refine r_ref hyp (fun a16 ha16 hz => ?_)
      clear hyp; subst ha16; have hyp := hz; clear hz
      obtain ⟨w17, hw17, hyp⟩ := x_some hyp
      refine r_iast G hw17 dX7_takes_40 ?_
      refine r_iinc (v := (x3 + 1)) (lv' := [(3, .int (x3 + 1)), (0, .ref a0), (2, .int x2)]) G 2 dX7_takes_41 rfl rfl (by decide) ⟨fun _ => rfl, fun _ => rfl, fun _ => rfl, trivial⟩ rfl ?_
      refine r_goto G 14 dX7_takes_44 (by decide) ?_
      refine r_weak (lv' := [(0, .ref a0), (2, .int x2), (3, .int (x3 + 1))]) [1, 2, 0] rfl ?_
      exact ih a0 x2 (x3 + 1) w17 hyp
end
set_option maxRecDepth 100000 in
set_option maxHeartbeats 4000000 in
theorem ct_X7_takes {Γ : xG} {l : Launch} (hl : l.stackTraces = false) (a0 : Nat) (x1 : Int32) (w0 : xW) (rF : Unit ⊕ String) (wF : xW) (hyp : f_X7_takes a0 x1 w0 = some (rF, wF)) : xMet Γ l yX7_takes (xws yX7_takes cX7_takes 4 none) 0 xV [.ref a0, .int x1] w0 rF wF (x_mc rF) (x_ms rF) := by
  refine xOfW tg_X7_takes hl (lv0 := [(0, .ref a0), (1, .int x1)]) (Nat.le_of_ble_eq_true rfl) rfl ?_
  intro p e s m below meth c G hno hin
  rw [f_X7_takes] at hyp
  refine r_aload_n G 0 dX7_takes_0 rfl rfl ?_
  obtain ⟨v1, hv1, hyp⟩ := x_some hyp
  refine r_getv (C := RX7) (T := TX7) (N := 22) (ci := 7) G 1 (x_getr_e hv1) rfl uw_7 (Nat.le_of_ble_eq_true rfl) rfl ww_561 dX7_takes_1 ?_
  refine r_iconst (v := 0) G dX7_takes_4 (by decide) ?_
  refine r_ref hyp (fun a2 ha2 hz => ?_)
  clear hyp; subst ha2; have hyp := hz; clear hz
  obtain ⟨v3, hv3, hyp⟩ := x_some hyp
  refine r_iald G hv3 dX7_takes_5 ?_
  refine r_iconst (v := 1) G dX7_takes_6 (by decide) ?_
  refine r_isub G dX7_takes_7 ?_
  refine r_istore_n (lv' := [(2, .int (v3 - 1)), (0, .ref a0), (1, .int x1)]) G dX7_takes_8 rfl (by decide) ⟨fun _ => rfl, fun _ => rfl, trivial⟩ rfl ?_
  refine r_bipush (v := 50) G dX7_takes_9 (by decide) ?_
  refine r_iload_n G 2 dX7_takes_11 rfl rfl ?_
  refine r_imul G dX7_takes_12 ?_
  refine r_istore_n (lv' := [(3, .int (50 * x1)), (2, .int (v3 - 1)), (0, .ref a0), (1, .int x1)]) G dX7_takes_13 rfl (by decide) ⟨fun _ => rfl, fun _ => rfl, fun _ => rfl, trivial⟩ rfl ?_
  refine r_weak (lv' := [(0, .ref a0), (2, .int (v3 - 1)), (3, .int (50 * x1))]) [2, 1, 0] rfl ?_
  exact nd_X7_takes_L14 G hno xfuel a0 (v3 - 1) (50 * x1) w0 hyp
theorem tg_X7_merges : xTgt yX7_merges cX7_merges 3 (some .int) 1 := ⟨ww_713, ww_574, by decide, by decide +kernel, by decide +kernel⟩
section
variable {Γ : xG} {p : Program} {l : Launch} {e : Env} {s : State} {m : MethodId} {args : Array Value} {below : List Frame} {meth : Method} {c : Code} {rF : Int32 ⊕ String} {wF : xW}
set_option maxRecDepth 100000 in
set_option maxHeartbeats 4000000 in
theorem nd_X7_merges_L60 (G : xCx Γ p l s m args meth c RX7 cX7_merges 3 (some .int)) (hno : ∀ x ∈ c.exceptionTable.toList, False) : ∀ (n : Nat) (a0 : Nat) (x1 : Int32) (x2 : Int32) (w0 : xW), f_X7_merges_L60 n a0 x1 x2 w0 = some (rF, wF) → xAW Γ p l e (xRm 2 (x_mc rF) (x_ms rF)) s m args below meth c 3 (xQm Γ below xI rF wF args s (x_mc rF) (x_ms rF)) w0 0 0 60 [(0, .ref a0), (1, .int x1), (2, .int x2)] [] := by
  intro n
  induction n with
  | zero =>
    intro a0 x1 x2 w0 hyp
    cases (show (none : xO Int32) = some (rF, wF) from hyp)
  | succ n ih =>
    intro a0 x1 x2 w0 hyp
    rw [f_X7_merges_L60] at hyp
    refine r_iload_n G 2 dX7_merges_60 rfl rfl ?_
    refine r_bipush (v := 48) G dX7_merges_61 (by decide) ?_
    refine r_icmp_ge G 95 dX7_merges_63 (by decide) hyp (fun c22 hyp => ?_) (fun c22 hyp => ?_)
    · refine r_aload_n G 0 dX7_merges_95 rfl rfl ?_
      refine r_iload_n G 1 dX7_merges_96 rfl rfl ?_
      obtain ⟨o25, hyp⟩ := x_chk hyp
      refine r_callV (ι := xV) (T := TX7) (N := 22) (ci := 7) (b := a0) (rest := []) (As := [.int x1]) G hno tg_X7_takes (fun r w' h => ct_X7_takes (xhl G) _ _ _ r w' h) o25 hyp rfl ww_710 ww_712 ww_711 (by decide) (by decide) rfl rfl (xroom (Nat.le_of_ble_eq_true rfl)) dX7_merges_97 (push := (fun _ => [])) (fun _ => rfl) (fun _ w23 hyp => ?_)
      refine r_aload_n G 0 dX7_merges_100 rfl rfl ?_
      refine r_aload_n G 0 dX7_merges_101 rfl rfl ?_
      refine r_iload_n G 1 dX7_merges_102 rfl rfl ?_
      refine r_iconst (v := 1) G dX7_merges_103 (by decide) ?_
      refine r_isub G dX7_merges_104 ?_
      obtain ⟨o28, hyp⟩ := x_chk hyp
      refine r_callV (ι := xI) (T := TX7) (N := 22) (ci := 7) (b := a0) (rest := [.ref a0]) (As := [.int (x1 - 1)]) G hno tg_X7_full (fun r w' h => ct_X7_full (xhl G) _ _ _ r w' h) o28 hyp rfl ww_681 ww_683 ww_682 (by decide) (by decide) rfl rfl (xroom (Nat.le_of_ble_eq_true rfl)) dX7_merges_105 (push := (fun r27 => [.int r27, .ref a0])) (fun _ => rfl) (fun r27 w26 hyp => ?_)
      obtain ⟨o31, hyp⟩ := x_chk hyp
      refine r_callV (ι := xI) (T := TX7) (N := 22) (ci := 7) (b := a0) (rest := []) (As := [.int r27]) G hno tg_X7_done (fun r w' h => ct_X7_done (xhl G) _ _ _ r w' h) o31 hyp rfl ww_588 ww_590 ww_589 (by decide) (by decide) rfl rfl (xroom (Nat.le_of_ble_eq_true rfl)) dX7_merges_108 (push := (fun r30 => [.int r30])) (fun _ => rfl) (fun r30 w29 hyp => ?_)
      exact r_iret G hyp rfl (Nat.zero_le _) (Nat.zero_le _) dX7_merges_111
    · refine r_aload_n G 0 dX7_merges_66 rfl rfl ?_
      refine r_iload_n G 1 dX7_merges_67 rfl rfl ?_
      refine r_iload_n G 2 dX7_merges_68 rfl rfl ?_
      obtain ⟨o34, hyp⟩ := x_chk hyp
      refine r_callV (ι := xI) (T := TX7) (N := 22) (ci := 7) (b := a0) (rest := []) (As := [.int x1, .int x2]) G hno tg_X7_at (fun r w' h => ct_X7_at (xhl G) _ _ _ _ r w' h) o34 hyp rfl ww_621 ww_623 ww_622 (by decide) (by decide) rfl rfl (xroom (Nat.le_of_ble_eq_true rfl)) dX7_merges_69 (push := (fun r33 => [.int r33])) (fun _ => rfl) (fun r33 w32 hyp => ?_)
      refine r_if_le G 89 dX7_merges_72 (by decide) hyp (fun c35 hyp => ?_) (fun c35 hyp => ?_)
      · refine r_iinc (v := (x2 + 1)) (lv' := [(2, .int (x2 + 1)), (0, .ref a0), (1, .int x1)]) G 2 dX7_merges_89 rfl rfl (by decide) ⟨fun _ => rfl, fun _ => rfl, fun _ => rfl, trivial⟩ rfl ?_
        refine r_goto G 60 dX7_merges_92 (by decide) ?_
        refine r_weak (lv' := [(0, .ref a0), (1, .int x1), (2, .int (x2 + 1))]) [1, 2, 0] rfl ?_
        exact ih a0 x1 (x2 + 1) w32 hyp
      · refine r_aload_n G 0 dX7_merges_75 rfl rfl ?_
        refine r_iload_n G 1 dX7_merges_76 rfl rfl ?_
        refine r_iconst (v := 1) G dX7_merges_77 (by decide) ?_
        refine r_isub G dX7_merges_78 ?_
        refine r_iload_n G 2 dX7_merges_79 rfl rfl ?_
        refine r_aload_n G 0 dX7_merges_80 rfl rfl ?_
        refine r_iload_n G 1 dX7_merges_81 rfl rfl ?_
        refine r_iload_n G 2 dX7_merges_82 rfl rfl ?_
        obtain ⟨o38, hyp⟩ := x_chk hyp
        refine r_callV (ι := xI) (T := TX7) (N := 22) (ci := 7) (b := a0) (rest := [.int x2, .int (x1 - 1), .ref a0]) (As := [.int x1, .int x2]) G hno tg_X7_at (fun r w' h => ct_X7_at (xhl G) _ _ _ _ r w' h) o38 hyp rfl ww_621 ww_623 ww_622 (by decide) (by decide) rfl rfl (xroom (Nat.le_of_ble_eq_true rfl)) dX7_merges_83 (push := (fun r37 => [.int r37, .int x2, .int (x1 - 1), .ref a0])) (fun _ => rfl) (fun r37 w36 hyp => ?_)
        obtain ⟨o41, hyp⟩ := x_chk hyp
        refine r_callV (ι := xV) (T := TX7) (N := 22) (ci := 7) (b := a0) (rest := []) (As := [.int (x1 - 1), .int x2, .int r37]) G hno tg_X7_sets (fun r w' h => ct_X7_sets (xhl G) _ _ _ _ _ r w' h) o41 hyp rfl ww_576 ww_578 ww_577 (by decide) (by decide) rfl rfl (xroom (Nat.le_of_ble_eq_true rfl)) dX7_merges_86 (push := (fun _ => [])) (fun _ => rfl) (fun _ w39 hyp => ?_)
        refine r_iinc (v := (x2 + 1)) (lv' := [(2, .int (x2 + 1)), (0, .ref a0), (1, .int x1)]) G 2 dX7_merges_89 rfl rfl (by decide) ⟨fun _ => rfl, fun _ => rfl, fun _ => rfl, trivial⟩ rfl ?_
        refine r_goto G 60 dX7_merges_92 (by decide) ?_
        refine r_weak (lv' := [(0, .ref a0), (1, .int x1), (2, .int (x2 + 1))]) [1, 2, 0] rfl ?_
        exact ih a0 x1 (x2 + 1) w39 hyp
end
set_option maxRecDepth 100000 in
set_option maxHeartbeats 4000000 in
theorem ct_X7_merges {Γ : xG} {l : Launch} (hl : l.stackTraces = false) (a0 : Nat) (x1 : Int32) (w0 : xW) (rF : Int32 ⊕ String) (wF : xW) (hyp : f_X7_merges a0 x1 w0 = some (rF, wF)) : xMet Γ l yX7_merges (xws yX7_merges cX7_merges 3 (some .int)) 2 xI [.ref a0, .int x1] w0 rF wF (x_mc rF) (x_ms rF) := by
  refine xOfW tg_X7_merges hl (lv0 := [(0, .ref a0), (1, .int x1)]) (Nat.le_of_ble_eq_true rfl) rfl ?_
  intro p e s m below meth c G hno hin
  rw [f_X7_merges] at hyp
  refine r_aload_n G 0 dX7_merges_0 rfl rfl ?_
  refine r_iload_n G 1 dX7_merges_1 rfl rfl ?_
  obtain ⟨o3, hyp⟩ := x_chk hyp
  refine r_callV (ι := xI) (T := TX7) (N := 22) (ci := 7) (b := a0) (rest := []) (As := [.int x1]) G hno tg_X7_isLayer (fun r w' h => ct_X7_isLayer (xhl G) _ _ _ r w' h) o3 hyp rfl ww_678 ww_680 ww_679 (by decide) (by decide) rfl rfl (xroom (Nat.le_of_ble_eq_true rfl)) dX7_merges_2 (push := (fun r2 => [.int r2])) (fun _ => rfl) (fun r2 w1 hyp => ?_)
  refine r_if_ne G 10 dX7_merges_5 (by decide) hyp (fun c4 hyp => ?_) (fun c4 hyp => ?_)
  · refine r_iload_n G 1 dX7_merges_10 rfl rfl ?_
    refine r_if_ne G 16 dX7_merges_11 (by decide) hyp (fun c5 hyp => ?_) (fun c5 hyp => ?_)
    · refine r_aload_n G 0 dX7_merges_16 rfl rfl ?_
      refine r_iload_n G 1 dX7_merges_17 rfl rfl ?_
      obtain ⟨o8, hyp⟩ := x_chk hyp
      refine r_callV (ι := xI) (T := TX7) (N := 22) (ci := 7) (b := a0) (rest := []) (As := [.int x1]) G hno tg_X7_mode0 (fun r w' h => ct_X7_mode0 (xhl G) _ _ _ r w' h) o8 hyp rfl ww_624 ww_626 ww_625 (by decide) (by decide) rfl rfl (xroom (Nat.le_of_ble_eq_true rfl)) dX7_merges_18 (push := (fun r7 => [.int r7])) (fun _ => rfl) (fun r7 w6 hyp => ?_)
      refine r_bipush (v := 110) G dX7_merges_21 (by decide) ?_
      refine r_icmp_ne G 56 dX7_merges_23 (by decide) hyp (fun c9 hyp => ?_) (fun c9 hyp => ?_)
      · refine r_iconst (v := 3) G dX7_merges_56 (by decide) ?_
        exact r_iret G hyp rfl (Nat.zero_le _) (Nat.zero_le _) dX7_merges_57
      · refine r_aload_n G 0 dX7_merges_26 rfl rfl ?_
        refine r_iload_n G 1 dX7_merges_27 rfl rfl ?_
        refine r_iconst (v := 1) G dX7_merges_28 (by decide) ?_
        refine r_isub G dX7_merges_29 ?_
        obtain ⟨o12, hyp⟩ := x_chk hyp
        refine r_callV (ι := xI) (T := TX7) (N := 22) (ci := 7) (b := a0) (rest := []) (As := [.int (x1 - 1)]) G hno tg_X7_mode0 (fun r w' h => ct_X7_mode0 (xhl G) _ _ _ r w' h) o12 hyp rfl ww_624 ww_626 ww_625 (by decide) (by decide) rfl rfl (xroom (Nat.le_of_ble_eq_true rfl)) dX7_merges_30 (push := (fun r11 => [.int r11])) (fun _ => rfl) (fun r11 w10 hyp => ?_)
        refine r_bipush (v := 110) G dX7_merges_33 (by decide) ?_
        refine r_icmp_ne G 56 dX7_merges_35 (by decide) hyp (fun c13 hyp => ?_) (fun c13 hyp => ?_)
        · refine r_iconst (v := 3) G dX7_merges_56 (by decide) ?_
          exact r_iret G hyp rfl (Nat.zero_le _) (Nat.zero_le _) dX7_merges_57
        · refine r_aload_n G 0 dX7_merges_38 rfl rfl ?_
          refine r_iload_n G 1 dX7_merges_39 rfl rfl ?_
          obtain ⟨o16, hyp⟩ := x_chk hyp
          refine r_callV (ι := xI) (T := TX7) (N := 22) (ci := 7) (b := a0) (rest := []) (As := [.int x1]) G hno tg_X7_shown (fun r w' h => ct_X7_shown (xhl G) _ _ _ r w' h) o16 hyp rfl ww_618 ww_620 ww_619 (by decide) (by decide) rfl rfl (xroom (Nat.le_of_ble_eq_true rfl)) dX7_merges_40 (push := (fun r15 => [.int r15])) (fun _ => rfl) (fun r15 w14 hyp => ?_)
          refine r_if_eq G 56 dX7_merges_43 (by decide) hyp (fun c17 hyp => ?_) (fun c17 hyp => ?_)
          · refine r_iconst (v := 3) G dX7_merges_56 (by decide) ?_
            exact r_iret G hyp rfl (Nat.zero_le _) (Nat.zero_le _) dX7_merges_57
          · refine r_aload_n G 0 dX7_merges_46 rfl rfl ?_
            refine r_iload_n G 1 dX7_merges_47 rfl rfl ?_
            refine r_iconst (v := 1) G dX7_merges_48 (by decide) ?_
            refine r_isub G dX7_merges_49 ?_
            obtain ⟨o20, hyp⟩ := x_chk hyp
            refine r_callV (ι := xI) (T := TX7) (N := 22) (ci := 7) (b := a0) (rest := []) (As := [.int (x1 - 1)]) G hno tg_X7_shown (fun r w' h => ct_X7_shown (xhl G) _ _ _ r w' h) o20 hyp rfl ww_618 ww_620 ww_619 (by decide) (by decide) rfl rfl (xroom (Nat.le_of_ble_eq_true rfl)) dX7_merges_50 (push := (fun r19 => [.int r19])) (fun _ => rfl) (fun r19 w18 hyp => ?_)
            refine r_if_ne G 58 dX7_merges_53 (by decide) hyp (fun c21 hyp => ?_) (fun c21 hyp => ?_)
            · refine r_iconst (v := 0) G dX7_merges_58 (by decide) ?_
              refine r_istore_n (lv' := [(2, .int 0), (0, .ref a0), (1, .int x1)]) G dX7_merges_59 rfl (by decide) ⟨fun _ => rfl, fun _ => rfl, trivial⟩ rfl ?_
              refine r_weak (lv' := [(0, .ref a0), (1, .int x1), (2, .int 0)]) [1, 2, 0] rfl ?_
              exact nd_X7_merges_L60 G hno xfuel a0 x1 0 w18 hyp
            · refine r_iconst (v := 3) G dX7_merges_56 (by decide) ?_
              exact r_iret G hyp rfl (Nat.zero_le _) (Nat.zero_le _) dX7_merges_57
    · refine r_iconst (v := 2) G dX7_merges_14 (by decide) ?_
      exact r_iret G hyp rfl (Nat.zero_le _) (Nat.zero_le _) dX7_merges_15
  · refine r_iconst (v := 1) G dX7_merges_8 (by decide) ?_
    exact r_iret G hyp rfl (Nat.zero_le _) (Nat.zero_le _) dX7_merges_9
theorem tg_X7_moves : xTgt yX7_moves cX7_moves 6 (some .int) 2 := ⟨ww_714, ww_574, by decide, by decide +kernel, by decide +kernel⟩
section
variable {Γ : xG} {p : Program} {l : Launch} {e : Env} {s : State} {m : MethodId} {args : Array Value} {below : List Frame} {meth : Method} {c : Code} {rF : Int32 ⊕ String} {wF : xW}
set_option maxRecDepth 100000 in
set_option maxHeartbeats 4000000 in
theorem nd_X7_moves_L196 (G : xCx Γ p l s m args meth c RX7 cX7_moves 6 (some .int)) (hno : ∀ x ∈ c.exceptionTable.toList, False) : ∀ (n : Nat) (a0 : Nat) (x4 : Int32) (x5 : Int32) (w0 : xW), f_X7_moves_L196 n a0 x4 x5 w0 = some (rF, wF) → xAW Γ p l e (xRm 2 (x_mc rF) (x_ms rF)) s m args below meth c 6 (xQm Γ below xI rF wF args s (x_mc rF) (x_ms rF)) w0 0 0 196 [(0, .ref a0), (4, .int x4), (5, .int x5)] [] := by
  intro n
  induction n with
  | zero =>
    intro a0 x4 x5 w0 hyp
    cases (show (none : xO Int32) = some (rF, wF) from hyp)
  | succ n ih =>
    intro a0 x4 x5 w0 hyp
    rw [f_X7_moves_L196] at hyp
    refine r_iload G 2 dX7_moves_196 rfl ?_
    refine r_bipush (v := 48) G dX7_moves_198 (by decide) ?_
    refine r_icmp_ge G 235 dX7_moves_200 (by decide) hyp (fun c14 hyp => ?_) (fun c14 hyp => ?_)
    · refine r_aload_n G 0 dX7_moves_235 rfl rfl ?_
      refine r_iload G 1 dX7_moves_236 rfl ?_
      obtain ⟨o17, hyp⟩ := x_chk hyp
      refine r_callV (ι := xI) (T := TX7) (N := 22) (ci := 7) (b := a0) (rest := []) (As := [.int x4]) G hno tg_X7_done (fun r w' h => ct_X7_done (xhl G) _ _ _ r w' h) o17 hyp rfl ww_588 ww_590 ww_589 (by decide) (by decide) rfl rfl (xroom (Nat.le_of_ble_eq_true rfl)) dX7_moves_238 (push := (fun r16 => [.int r16])) (fun _ => rfl) (fun r16 w15 hyp => ?_)
      exact r_iret G hyp rfl (Nat.zero_le _) (Nat.zero_le _) dX7_moves_241
    · refine r_iload G 1 dX7_moves_203 rfl ?_
      refine r_aload_n G 0 dX7_moves_205 rfl rfl ?_
      refine r_iload G 2 dX7_moves_206 rfl ?_
      obtain ⟨o20, hyp⟩ := x_chk hyp
      refine r_callV (ι := xI) (T := TX7) (N := 22) (ci := 7) (b := a0) (rest := [.int x4]) (As := [.int x5]) G hno tg_X7_look (fun r w' h => ct_X7_look (xhl G) _ _ _ r w' h) o20 hyp rfl ww_630 ww_632 ww_631 (by decide) (by decide) rfl rfl (xroom (Nat.le_of_ble_eq_true rfl)) dX7_moves_208 (push := (fun r19 => [.int r19, .int x4])) (fun _ => rfl) (fun r19 w18 hyp => ?_)
      refine r_aload_n G 0 dX7_moves_211 rfl rfl ?_
      obtain ⟨v21, hv21, hyp⟩ := x_some hyp
      refine r_getv (C := RX7) (T := TX7) (N := 22) (ci := 7) G 10 (x_getr_e hv21) rfl uw_7 (Nat.le_of_ble_eq_true rfl) rfl ww_568 dX7_moves_212 ?_
      refine r_iload G 2 dX7_moves_215 rfl ?_
      refine r_ref hyp (fun a22 ha22 hz => ?_)
      clear hyp; subst ha22; have hyp := hz; clear hz
      obtain ⟨v23, hv23, hyp⟩ := x_some hyp
      refine r_iald G hv23 dX7_moves_217 ?_
      refine r_icmp_ne G 225 dX7_moves_218 (by decide) hyp (fun c24 hyp => ?_) (fun c24 hyp => ?_)
      · refine r_iconst (v := 1) G dX7_moves_225 (by decide) ?_
        refine r_iadd G dX7_moves_226 ?_
        refine r_istore (lv' := [(4, .int (x4 + 1)), (0, .ref a0), (5, .int x5)]) G dX7_moves_227 (by decide) ⟨fun _ => rfl, fun _ => rfl, fun _ => rfl, trivial⟩ rfl ?_
        refine r_iinc (v := (x5 + 1)) (lv' := [(5, .int (x5 + 1)), (4, .int (x4 + 1)), (0, .ref a0)]) G 2 dX7_moves_229 rfl rfl (by decide) ⟨fun _ => rfl, fun _ => rfl, fun _ => rfl, trivial⟩ rfl ?_
        refine r_goto G 196 dX7_moves_232 (by decide) ?_
        refine r_weak (lv' := [(0, .ref a0), (4, .int (x4 + 1)), (5, .int (x5 + 1))]) [2, 1, 0] rfl ?_
        exact ih a0 (x4 + 1) (x5 + 1) w18 hyp
      · refine r_iconst (v := 0) G dX7_moves_221 (by decide) ?_
        refine r_goto G 226 dX7_moves_222 (by decide) ?_
        refine r_iadd G dX7_moves_226 ?_
        refine r_istore (lv' := [(4, .int (x4 + 0)), (0, .ref a0), (5, .int x5)]) G dX7_moves_227 (by decide) ⟨fun _ => rfl, fun _ => rfl, fun _ => rfl, trivial⟩ rfl ?_
        refine r_iinc (v := (x5 + 1)) (lv' := [(5, .int (x5 + 1)), (4, .int (x4 + 0)), (0, .ref a0)]) G 2 dX7_moves_229 rfl rfl (by decide) ⟨fun _ => rfl, fun _ => rfl, fun _ => rfl, trivial⟩ rfl ?_
        refine r_goto G 196 dX7_moves_232 (by decide) ?_
        refine r_weak (lv' := [(0, .ref a0), (4, .int (x4 + 0)), (5, .int (x5 + 1))]) [2, 1, 0] rfl ?_
        exact ih a0 (x4 + 0) (x5 + 1) w18 hyp
set_option maxRecDepth 100000 in
set_option maxHeartbeats 4000000 in
theorem nd_X7_moves_L156 (G : xCx Γ p l s m args meth c RX7 cX7_moves 6 (some .int)) (hno : ∀ x ∈ c.exceptionTable.toList, False) : ∀ (n : Nat) (a0 : Nat) (x2 : Int32) (x4 : Int32) (w0 : xW), f_X7_moves_L156 n a0 x2 x4 w0 = some (rF, wF) → xAW Γ p l e (xRm 2 (x_mc rF) (x_ms rF)) s m args below meth c 6 (xQm Γ below xI rF wF args s (x_mc rF) (x_ms rF)) w0 0 0 156 [(0, .ref a0), (2, .int x2), (4, .int x4)] [] := by
  intro n
  induction n with
  | zero =>
    intro a0 x2 x4 w0 hyp
    cases (show (none : xO Int32) = some (rF, wF) from hyp)
  | succ n ih =>
    intro a0 x2 x4 w0 hyp
    rw [f_X7_moves_L156] at hyp
    refine r_iload G 2 dX7_moves_156 rfl ?_
    refine r_bipush (v := 50) G dX7_moves_158 (by decide) ?_
    refine r_icmp_ge G 190 dX7_moves_160 (by decide) hyp (fun c13 hyp => ?_) (fun c13 hyp => ?_)
    · refine r_iconst (v := 0) G dX7_moves_190 (by decide) ?_
      refine r_istore (lv' := [(4, .int 0), (0, .ref a0), (2, .int x2)]) G dX7_moves_191 (by decide) ⟨fun _ => rfl, fun _ => rfl, fun _ => rfl, trivial⟩ rfl ?_
      refine r_iconst (v := 0) G dX7_moves_193 (by decide) ?_
      refine r_istore (lv' := [(5, .int 0), (4, .int 0), (0, .ref a0), (2, .int x2)]) G dX7_moves_194 (by decide) ⟨fun _ => rfl, fun _ => rfl, fun _ => rfl, trivial⟩ rfl ?_
      refine r_weak (lv' := [(0, .ref a0), (4, .int 0), (5, .int 0)]) [2, 1, 0] rfl ?_
      exact nd_X7_moves_L196 G hno xfuel a0 0 0 w0 hyp
    · refine r_aload_n G 0 dX7_moves_163 rfl rfl ?_
      obtain ⟨v25, hv25, hyp⟩ := x_some hyp
      refine r_getv (C := RX7) (T := TX7) (N := 22) (ci := 7) G 1 (x_getr_e hv25) rfl uw_7 (Nat.le_of_ble_eq_true rfl) rfl ww_561 dX7_moves_164 ?_
      refine r_iconst (v := 3) G dX7_moves_167 (by decide) ?_
      refine r_bipush (v := 50) G dX7_moves_168 (by decide) ?_
      refine r_iload_n G 1 dX7_moves_170 rfl rfl ?_
      refine r_imul G dX7_moves_171 ?_
      refine r_iadd G dX7_moves_172 ?_
      refine r_iload G 2 dX7_moves_173 rfl ?_
      refine r_iadd G dX7_moves_175 ?_
      refine r_aload_n G 0 dX7_moves_176 rfl rfl ?_
      obtain ⟨v26, hv26, hyp⟩ := x_some hyp
      refine r_getv (C := RX7) (T := TX7) (N := 22) (ci := 7) G 12 (x_getr_e hv26) rfl uw_7 (Nat.le_of_ble_eq_true rfl) rfl ww_570 dX7_moves_177 ?_
      refine r_iload G 2 dX7_moves_180 rfl ?_
      refine r_ref hyp (fun a27 ha27 hz => ?_)
      clear hyp; subst ha27; have hyp := hz; clear hz
      obtain ⟨v28, hv28, hyp⟩ := x_some hyp
      refine r_iald G hv28 dX7_moves_182 ?_
      refine r_ref hyp (fun a29 ha29 hz => ?_)
      clear hyp; subst ha29; have hyp := hz; clear hz
      obtain ⟨w30, hw30, hyp⟩ := x_some hyp
      refine r_iast G hw30 dX7_moves_183 ?_
      refine r_iinc (v := (x4 + 1)) (lv' := [(4, .int (x4 + 1)), (0, .ref a0), (2, .int x2)]) G 2 dX7_moves_184 rfl rfl (by decide) ⟨fun _ => rfl, fun _ => rfl, fun _ => rfl, trivial⟩ rfl ?_
      refine r_goto G 156 dX7_moves_187 (by decide) ?_
      refine r_weak (lv' := [(0, .ref a0), (2, .int x2), (4, .int (x4 + 1))]) [1, 2, 0] rfl ?_
      exact ih a0 x2 (x4 + 1) w30 hyp
set_option maxRecDepth 100000 in
set_option maxHeartbeats 4000000 in
theorem nd_X7_moves_L99 {k90 : Nat → Int32 → Int32 → Int32 → xW → xO Int32} (G : xCx Γ p l s m args meth c RX7 cX7_moves 6 (some .int)) (hno : ∀ x ∈ c.exceptionTable.toList, False) (hk90 : ∀ (a0 : Nat) (x2 : Int32) (x3 : Int32) (x4 : Int32) (w : xW), k90 a0 x2 x3 x4 w = some (rF, wF) → xAW Γ p l e (xRm 2 (x_mc rF) (x_ms rF)) s m args below meth c 6 (xQm Γ below xI rF wF args s (x_mc rF) (x_ms rF)) w 0 0 90 [(0, .ref a0), (2, .int x2), (3, .int x3), (4, .int x4)] []) : ∀ (n : Nat) (a0 : Nat) (x2 : Int32) (x3 : Int32) (x4 : Int32) (x5 : Int32) (w0 : xW), f_X7_moves_L99 k90 n a0 x2 x3 x4 x5 w0 = some (rF, wF) → xAW Γ p l e (xRm 2 (x_mc rF) (x_ms rF)) s m args below meth c 6 (xQm Γ below xI rF wF args s (x_mc rF) (x_ms rF)) w0 0 0 99 [(0, .ref a0), (2, .int x2), (3, .int x3), (4, .int x4), (5, .int x5)] [] := by
  intro n
  induction n with
  | zero =>
    intro a0 x2 x3 x4 x5 w0 hyp
    cases (show (none : xO Int32) = some (rF, wF) from hyp)
  | succ n ih =>
    intro a0 x2 x3 x4 x5 w0 hyp
    rw [f_X7_moves_L99] at hyp
    refine r_iload G 4 dX7_moves_99 rfl ?_
    refine r_bipush (v := 50) G dX7_moves_101 (by decide) ?_
    refine r_icmp_ge G 144 dX7_moves_103 (by decide) hyp (fun c31 hyp => ?_) (fun c31 hyp => ?_)
    · refine r_iload G 3 dX7_moves_144 rfl ?_
      refine r_iload_n G 2 dX7_moves_146 rfl rfl ?_
      refine r_iadd G dX7_moves_147 ?_
      refine r_istore (lv' := [(4, .int (x4 + x3)), (0, .ref a0), (2, .int x2), (3, .int x3), (5, .int x5)]) G dX7_moves_148 (by decide) ⟨fun _ => rfl, fun _ => rfl, fun _ => rfl, fun _ => rfl, fun _ => rfl, trivial⟩ rfl ?_
      refine r_goto G 90 dX7_moves_150 (by decide) ?_
      refine r_weak (lv' := [(0, .ref a0), (2, .int x2), (3, .int x3), (4, .int (x4 + x3))]) [1, 2, 3, 0] rfl ?_
      exact hk90 a0 x2 x3 (x4 + x3) w0 hyp
    · refine r_aload_n G 0 dX7_moves_106 rfl rfl ?_
      obtain ⟨v32, hv32, hyp⟩ := x_some hyp
      refine r_getv (C := RX7) (T := TX7) (N := 22) (ci := 7) G 1 (x_getr_e hv32) rfl uw_7 (Nat.le_of_ble_eq_true rfl) rfl ww_561 dX7_moves_107 ?_
      refine r_iconst (v := 3) G dX7_moves_110 (by decide) ?_
      refine r_bipush (v := 50) G dX7_moves_111 (by decide) ?_
      refine r_iload G 3 dX7_moves_113 rfl ?_
      refine r_imul G dX7_moves_115 ?_
      refine r_iadd G dX7_moves_116 ?_
      refine r_iload G 4 dX7_moves_117 rfl ?_
      refine r_iadd G dX7_moves_119 ?_
      refine r_aload_n G 0 dX7_moves_120 rfl rfl ?_
      obtain ⟨v33, hv33, hyp⟩ := x_some hyp
      refine r_getv (C := RX7) (T := TX7) (N := 22) (ci := 7) G 1 (x_getr_e hv33) rfl uw_7 (Nat.le_of_ble_eq_true rfl) rfl ww_561 dX7_moves_121 ?_
      refine r_iconst (v := 3) G dX7_moves_124 (by decide) ?_
      refine r_bipush (v := 50) G dX7_moves_125 (by decide) ?_
      refine r_iload G 3 dX7_moves_127 rfl ?_
      refine r_iload_n G 2 dX7_moves_129 rfl rfl ?_
      refine r_iadd G dX7_moves_130 ?_
      refine r_imul G dX7_moves_131 ?_
      refine r_iadd G dX7_moves_132 ?_
      refine r_iload G 4 dX7_moves_133 rfl ?_
      refine r_iadd G dX7_moves_135 ?_
      refine r_ref hyp (fun a34 ha34 hz => ?_)
      clear hyp; subst ha34; have hyp := hz; clear hz
      obtain ⟨v35, hv35, hyp⟩ := x_some hyp
      refine r_iald G hv35 dX7_moves_136 ?_
      refine r_ref hyp (fun a36 ha36 hz => ?_)
      clear hyp; subst ha36; have hyp := hz; clear hz
      obtain ⟨w37, hw37, hyp⟩ := x_some hyp
      refine r_iast G hw37 dX7_moves_137 ?_
      refine r_iinc (v := (x5 + 1)) (lv' := [(5, .int (x5 + 1)), (0, .ref a0), (2, .int x2), (3, .int x3), (4, .int x4)]) G 4 dX7_moves_138 rfl rfl (by decide) ⟨fun _ => rfl, fun _ => rfl, fun _ => rfl, fun _ => rfl, fun _ => rfl, trivial⟩ rfl ?_
      refine r_goto G 99 dX7_moves_141 (by decide) ?_
      refine r_weak (lv' := [(0, .ref a0), (2, .int x2), (3, .int x3), (4, .int x4), (5, .int (x5 + 1))]) [1, 2, 3, 4, 0] rfl ?_
      exact ih a0 x2 x3 x4 (x5 + 1) w37 hyp
set_option maxRecDepth 100000 in
set_option maxHeartbeats 4000000 in
theorem nd_X7_moves_L90 (G : xCx Γ p l s m args meth c RX7 cX7_moves 6 (some .int)) (hno : ∀ x ∈ c.exceptionTable.toList, False) : ∀ (n : Nat) (a0 : Nat) (x2 : Int32) (x3 : Int32) (x4 : Int32) (w0 : xW), f_X7_moves_L90 n a0 x2 x3 x4 w0 = some (rF, wF) → xAW Γ p l e (xRm 2 (x_mc rF) (x_ms rF)) s m args below meth c 6 (xQm Γ below xI rF wF args s (x_mc rF) (x_ms rF)) w0 0 0 90 [(0, .ref a0), (2, .int x2), (3, .int x3), (4, .int x4)] [] := by
  intro n
  induction n with
  | zero =>
    intro a0 x2 x3 x4 w0 hyp
    cases (show (none : xO Int32) = some (rF, wF) from hyp)
  | succ n ih =>
    intro a0 x2 x3 x4 w0 hyp
    rw [f_X7_moves_L90] at hyp
    refine r_iload G 3 dX7_moves_90 rfl ?_
    refine r_iload_n G 1 dX7_moves_92 rfl rfl ?_
    refine r_icmp_eq G 153 dX7_moves_93 (by decide) hyp (fun c12 hyp => ?_) (fun c12 hyp => ?_)
    · refine r_iconst (v := 0) G dX7_moves_153 (by decide) ?_
      refine r_istore (lv' := [(4, .int 0), (0, .ref a0), (2, .int x2), (3, .int x3)]) G dX7_moves_154 (by decide) ⟨fun _ => rfl, fun _ => rfl, fun _ => rfl, fun _ => rfl, trivial⟩ rfl ?_
      refine r_weak (lv' := [(0, .ref a0), (2, .int x2), (4, .int 0)]) [1, 2, 0] rfl ?_
      exact nd_X7_moves_L156 G hno xfuel a0 x2 0 w0 hyp
    · refine r_iconst (v := 0) G dX7_moves_96 (by decide) ?_
      refine r_istore (lv' := [(5, .int 0), (0, .ref a0), (2, .int x2), (3, .int x3), (4, .int x4)]) G dX7_moves_97 (by decide) ⟨fun _ => rfl, fun _ => rfl, fun _ => rfl, fun _ => rfl, trivial⟩ rfl ?_
      refine r_weak (lv' := [(0, .ref a0), (2, .int x2), (3, .int x3), (4, .int x4), (5, .int 0)]) [1, 2, 3, 4, 0] rfl ?_
      exact nd_X7_moves_L99 G hno ih xfuel a0 x2 x3 x4 0 w0 hyp
set_option maxRecDepth 100000 in
set_option maxHeartbeats 4000000 in
theorem nd_X7_moves_L45 (G : xCx Γ p l s m args meth c RX7 cX7_moves 6 (some .int)) (hno : ∀ x ∈ c.exceptionTable.toList, False) : ∀ (n : Nat) (a0 : Nat) (x1 : Int32) (x2 : Int32) (x3 : Int32) (w0 : xW), f_X7_moves_L45 n a0 x1 x2 x3 w0 = some (rF, wF) → xAW Γ p l e (xRm 2 (x_mc rF) (x_ms rF)) s m args below meth c 6 (xQm Γ below xI rF wF args s (x_mc rF) (x_ms rF)) w0 0 0 45 [(0, .ref a0), (1, .int x1), (2, .int x2), (3, .int x3)] [] := by
  intro n
  induction n with
  | zero =>
    intro a0 x1 x2 x3 w0 hyp
    cases (show (none : xO Int32) = some (rF, wF) from hyp)
  | succ n ih =>
    intro a0 x1 x2 x3 w0 hyp
    rw [f_X7_moves_L45] at hyp
    refine r_iload_n G 3 dX7_moves_45 rfl rfl ?_
    refine r_bipush (v := 50) G dX7_moves_46 (by decide) ?_
    refine r_icmp_ge G 76 dX7_moves_48 (by decide) hyp (fun c10 hyp => ?_) (fun c10 hyp => ?_)
    · refine r_iload_n G 1 dX7_moves_76 rfl rfl ?_
      refine r_iload_n G 2 dX7_moves_77 rfl rfl ?_
      refine r_icmp_ge G 85 dX7_moves_78 (by decide) hyp (fun c11 hyp => ?_) (fun c11 hyp => ?_)
      · refine r_iconst (v := (-1)) G dX7_moves_85 (by decide) ?_
        refine r_istore_n (lv' := [(3, .int (-1)), (0, .ref a0), (1, .int x1), (2, .int x2)]) G dX7_moves_86 rfl (by decide) ⟨fun _ => rfl, fun _ => rfl, fun _ => rfl, fun _ => rfl, trivial⟩ rfl ?_
        refine r_iload_n G 2 dX7_moves_87 rfl rfl ?_
        refine r_istore (lv' := [(4, .int x1), (3, .int (-1)), (0, .ref a0), (1, .int x1), (2, .int x2)]) G dX7_moves_88 (by decide) ⟨fun _ => rfl, fun _ => rfl, fun _ => rfl, fun _ => rfl, trivial⟩ rfl ?_
        refine r_weak (lv' := [(0, .ref a0), (2, .int x2), (3, .int (-1)), (4, .int x1)]) [2, 4, 1, 0] rfl ?_
        exact nd_X7_moves_L90 G hno xfuel a0 x2 (-1) x1 w0 hyp
      · refine r_iconst (v := 1) G dX7_moves_81 (by decide) ?_
        refine r_goto G 86 dX7_moves_82 (by decide) ?_
        refine r_istore_n (lv' := [(3, .int 1), (0, .ref a0), (1, .int x1), (2, .int x2)]) G dX7_moves_86 rfl (by decide) ⟨fun _ => rfl, fun _ => rfl, fun _ => rfl, fun _ => rfl, trivial⟩ rfl ?_
        refine r_iload_n G 2 dX7_moves_87 rfl rfl ?_
        refine r_istore (lv' := [(4, .int x1), (3, .int 1), (0, .ref a0), (1, .int x1), (2, .int x2)]) G dX7_moves_88 (by decide) ⟨fun _ => rfl, fun _ => rfl, fun _ => rfl, fun _ => rfl, trivial⟩ rfl ?_
        refine r_weak (lv' := [(0, .ref a0), (2, .int x2), (3, .int 1), (4, .int x1)]) [2, 4, 1, 0] rfl ?_
        exact nd_X7_moves_L90 G hno xfuel a0 x2 1 x1 w0 hyp
    · refine r_aload_n G 0 dX7_moves_51 rfl rfl ?_
      obtain ⟨v38, hv38, hyp⟩ := x_some hyp
      refine r_getv (C := RX7) (T := TX7) (N := 22) (ci := 7) G 12 (x_getr_e hv38) rfl uw_7 (Nat.le_of_ble_eq_true rfl) rfl ww_570 dX7_moves_52 ?_
      refine r_iload_n G 3 dX7_moves_55 rfl rfl ?_
      refine r_aload_n G 0 dX7_moves_56 rfl rfl ?_
      obtain ⟨v39, hv39, hyp⟩ := x_some hyp
      refine r_getv (C := RX7) (T := TX7) (N := 22) (ci := 7) G 1 (x_getr_e hv39) rfl uw_7 (Nat.le_of_ble_eq_true rfl) rfl ww_561 dX7_moves_57 ?_
      refine r_iconst (v := 3) G dX7_moves_60 (by decide) ?_
      refine r_bipush (v := 50) G dX7_moves_61 (by decide) ?_
      refine r_iload_n G 1 dX7_moves_63 rfl rfl ?_
      refine r_imul G dX7_moves_64 ?_
      refine r_iadd G dX7_moves_65 ?_
      refine r_iload_n G 3 dX7_moves_66 rfl rfl ?_
      refine r_iadd G dX7_moves_67 ?_
      refine r_ref hyp (fun a40 ha40 hz => ?_)
      clear hyp; subst ha40; have hyp := hz; clear hz
      obtain ⟨v41, hv41, hyp⟩ := x_some hyp
      refine r_iald G hv41 dX7_moves_68 ?_
      refine r_ref hyp (fun a42 ha42 hz => ?_)
      clear hyp; subst ha42; have hyp := hz; clear hz
      obtain ⟨w43, hw43, hyp⟩ := x_some hyp
      refine r_iast G hw43 dX7_moves_69 ?_
      refine r_iinc (v := (x3 + 1)) (lv' := [(3, .int (x3 + 1)), (0, .ref a0), (1, .int x1), (2, .int x2)]) G 3 dX7_moves_70 rfl rfl (by decide) ⟨fun _ => rfl, fun _ => rfl, fun _ => rfl, fun _ => rfl, trivial⟩ rfl ?_
      refine r_goto G 45 dX7_moves_73 (by decide) ?_
      refine r_weak (lv' := [(0, .ref a0), (1, .int x1), (2, .int x2), (3, .int (x3 + 1))]) [1, 2, 3, 0] rfl ?_
      exact ih a0 x1 x2 (x3 + 1) w43 hyp
set_option maxRecDepth 100000 in
set_option maxHeartbeats 4000000 in
theorem nd_X7_moves_L20 (G : xCx Γ p l s m args meth c RX7 cX7_moves 6 (some .int)) (hno : ∀ x ∈ c.exceptionTable.toList, False) : ∀ (n : Nat) (a0 : Nat) (x1 : Int32) (x2 : Int32) (x3 : Int32) (w0 : xW), f_X7_moves_L20 n a0 x1 x2 x3 w0 = some (rF, wF) → xAW Γ p l e (xRm 2 (x_mc rF) (x_ms rF)) s m args below meth c 6 (xQm Γ below xI rF wF args s (x_mc rF) (x_ms rF)) w0 0 0 20 [(0, .ref a0), (1, .int x1), (2, .int x2), (3, .int x3)] [] := by
  intro n
  induction n with
  | zero =>
    intro a0 x1 x2 x3 w0 hyp
    cases (show (none : xO Int32) = some (rF, wF) from hyp)
  | succ n ih =>
    intro a0 x1 x2 x3 w0 hyp
    rw [f_X7_moves_L20] at hyp
    refine r_iload_n G 3 dX7_moves_20 rfl rfl ?_
    refine r_bipush (v := 48) G dX7_moves_21 (by decide) ?_
    refine r_icmp_ge G 43 dX7_moves_23 (by decide) hyp (fun c9 hyp => ?_) (fun c9 hyp => ?_)
    · refine r_iconst (v := 0) G dX7_moves_43 (by decide) ?_
      refine r_istore_n (lv' := [(3, .int 0), (0, .ref a0), (1, .int x1), (2, .int x2)]) G dX7_moves_44 rfl (by decide) ⟨fun _ => rfl, fun _ => rfl, fun _ => rfl, fun _ => rfl, trivial⟩ rfl ?_
      refine r_weak (lv' := [(0, .ref a0), (1, .int x1), (2, .int x2), (3, .int 0)]) [1, 2, 3, 0] rfl ?_
      exact nd_X7_moves_L45 G hno xfuel a0 x1 x2 0 w0 hyp
    · refine r_aload_n G 0 dX7_moves_26 rfl rfl ?_
      obtain ⟨v44, hv44, hyp⟩ := x_some hyp
      refine r_getv (C := RX7) (T := TX7) (N := 22) (ci := 7) G 10 (x_getr_e hv44) rfl uw_7 (Nat.le_of_ble_eq_true rfl) rfl ww_568 dX7_moves_27 ?_
      refine r_iload_n G 3 dX7_moves_30 rfl rfl ?_
      refine r_aload_n G 0 dX7_moves_31 rfl rfl ?_
      refine r_iload_n G 3 dX7_moves_32 rfl rfl ?_
      obtain ⟨o47, hyp⟩ := x_chk hyp
      refine r_callV (ι := xI) (T := TX7) (N := 22) (ci := 7) (b := a0) (rest := [.int x3, va_rf v44]) (As := [.int x3]) G hno tg_X7_look (fun r w' h => ct_X7_look (xhl G) _ _ _ r w' h) o47 hyp rfl ww_630 ww_632 ww_631 (by decide) (by decide) rfl rfl (xroom (Nat.le_of_ble_eq_true rfl)) dX7_moves_33 (push := (fun r46 => [.int r46, .int x3, va_rf v44])) (fun _ => rfl) (fun r46 w45 hyp => ?_)
      refine r_ref hyp (fun a48 ha48 hz => ?_)
      clear hyp; subst ha48; have hyp := hz; clear hz
      obtain ⟨w49, hw49, hyp⟩ := x_some hyp
      refine r_iast G hw49 dX7_moves_36 ?_
      refine r_iinc (v := (x3 + 1)) (lv' := [(3, .int (x3 + 1)), (0, .ref a0), (1, .int x1), (2, .int x2)]) G 3 dX7_moves_37 rfl rfl (by decide) ⟨fun _ => rfl, fun _ => rfl, fun _ => rfl, fun _ => rfl, trivial⟩ rfl ?_
      refine r_goto G 20 dX7_moves_40 (by decide) ?_
      refine r_weak (lv' := [(0, .ref a0), (1, .int x1), (2, .int x2), (3, .int (x3 + 1))]) [1, 2, 3, 0] rfl ?_
      exact ih a0 x1 x2 (x3 + 1) w49 hyp
end
set_option maxRecDepth 100000 in
set_option maxHeartbeats 4000000 in
theorem ct_X7_moves {Γ : xG} {l : Launch} (hl : l.stackTraces = false) (a0 : Nat) (x1 : Int32) (x2 : Int32) (w0 : xW) (rF : Int32 ⊕ String) (wF : xW) (hyp : f_X7_moves a0 x1 x2 w0 = some (rF, wF)) : xMet Γ l yX7_moves (xws yX7_moves cX7_moves 6 (some .int)) 2 xI [.ref a0, .int x1, .int x2] w0 rF wF (x_mc rF) (x_ms rF) := by
  refine xOfW tg_X7_moves hl (lv0 := [(0, .ref a0), (1, .int x1), (2, .int x2)]) (Nat.le_of_ble_eq_true rfl) rfl ?_
  intro p e s m below meth c G hno hin
  rw [f_X7_moves] at hyp
  refine r_aload_n G 0 dX7_moves_0 rfl rfl ?_
  refine r_iload_n G 1 dX7_moves_1 rfl rfl ?_
  obtain ⟨o3, hyp⟩ := x_chk hyp
  refine r_callV (ι := xI) (T := TX7) (N := 22) (ci := 7) (b := a0) (rest := []) (As := [.int x1]) G hno tg_X7_isLayer (fun r w' h => ct_X7_isLayer (xhl G) _ _ _ r w' h) o3 hyp rfl ww_678 ww_680 ww_679 (by decide) (by decide) rfl rfl (xroom (Nat.le_of_ble_eq_true rfl)) dX7_moves_2 (push := (fun r2 => [.int r2])) (fun _ => rfl) (fun r2 w1 hyp => ?_)
  refine r_if_eq G 16 dX7_moves_5 (by decide) hyp (fun c4 hyp => ?_) (fun c4 hyp => ?_)
  · refine r_iconst (v := 1) G dX7_moves_16 (by decide) ?_
    exact r_iret G hyp rfl (Nat.zero_le _) (Nat.zero_le _) dX7_moves_17
  · refine r_aload_n G 0 dX7_moves_8 rfl rfl ?_
    refine r_iload_n G 2 dX7_moves_9 rfl rfl ?_
    obtain ⟨o7, hyp⟩ := x_chk hyp
    refine r_callV (ι := xI) (T := TX7) (N := 22) (ci := 7) (b := a0) (rest := []) (As := [.int x2]) G hno tg_X7_isLayer (fun r w' h => ct_X7_isLayer (xhl G) _ _ _ r w' h) o7 hyp rfl ww_678 ww_680 ww_679 (by decide) (by decide) rfl rfl (xroom (Nat.le_of_ble_eq_true rfl)) dX7_moves_10 (push := (fun r6 => [.int r6])) (fun _ => rfl) (fun r6 w5 hyp => ?_)
    refine r_if_ne G 18 dX7_moves_13 (by decide) hyp (fun c8 hyp => ?_) (fun c8 hyp => ?_)
    · refine r_iconst (v := 0) G dX7_moves_18 (by decide) ?_
      refine r_istore_n (lv' := [(3, .int 0), (0, .ref a0), (1, .int x1), (2, .int x2)]) G dX7_moves_19 rfl (by decide) ⟨fun _ => rfl, fun _ => rfl, fun _ => rfl, trivial⟩ rfl ?_
      refine r_weak (lv' := [(0, .ref a0), (1, .int x1), (2, .int x2), (3, .int 0)]) [1, 2, 3, 0] rfl ?_
      exact nd_X7_moves_L20 G hno xfuel a0 x1 x2 0 w5 hyp
    · refine r_iconst (v := 1) G dX7_moves_16 (by decide) ?_
      exact r_iret G hyp rfl (Nat.zero_le _) (Nat.zero_le _) dX7_moves_17
