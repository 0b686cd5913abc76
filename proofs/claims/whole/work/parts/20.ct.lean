theorem tg_X7_layerCount : xTgt yX7_layerCount cX7_layerCount 1 (some .int) 0 := ⟨ww_751, ww_574, by decide, by decide +kernel, by decide +kernel⟩
section
variable {Γ : xG} {p : Program} {l : Launch} {e : Env} {s : State} {m : MethodId} {args : Array Value} {below : List Frame} {meth : Method} {c : Code} {rF : Int32 ⊕ String} {wF : xW}
end
set_option maxRecDepth 100000 in
set_option maxHeartbeats 4000000 in
theorem ct_X7_layerCount {Γ : xG} {l : Launch} (hl : l.stackTraces = false) (a0 : Nat) (w0 : xW) (rF : Int32 ⊕ String) (wF : xW) (hyp : f_X7_layerCount a0 w0 = some (rF, wF)) : xMet Γ l yX7_layerCount (xws yX7_layerCount cX7_layerCount 1 (some .int)) 0 xI [.ref a0] w0 rF wF (x_mc rF) (x_ms rF) := by
  refine xOfW tg_X7_layerCount hl (lv0 := [(0, .ref a0)]) (Nat.le_of_ble_eq_true rfl) rfl ?_
  intro p e s m below meth c G hno hin
  rw [f_X7_layerCount] at hyp
  refine r_aload_n G 0 dX7_layerCount_0 rfl rfl ?_
  refine r_iconst (v := 0) G dX7_layerCount_1 (by decide) ?_
  obtain ⟨w1, hw1, hyp⟩ := x_some hyp
  refine r_putv (C := RX7) (T := TX7) (N := 22) (ci := 7) G tyX7 tyX7_ok nmX7 0 hw1 rfl uw_7 (Nat.le_of_ble_eq_true rfl) rfl ww_594 rfl rfl rfl dX7_layerCount_2 ?_
  refine r_aload_n G 0 dX7_layerCount_5 rfl rfl ?_
  obtain ⟨v2, hv2, hyp⟩ := x_some hyp
  refine r_getv (C := RX7) (T := TX7) (N := 22) (ci := 7) G 1 (x_getr_e hv2) rfl uw_7 (Nat.le_of_ble_eq_true rfl) rfl ww_561 dX7_layerCount_6 ?_
  refine r_iconst (v := 0) G dX7_layerCount_9 (by decide) ?_
  refine r_ref hyp (fun a3 ha3 hz => ?_)
  clear hyp; subst ha3; have hyp := hz; clear hz
  obtain ⟨v4, hv4, hyp⟩ := x_some hyp
  refine r_iald G hv4 dX7_layerCount_10 ?_
  exact r_iret G hyp rfl (Nat.zero_le _) (Nat.zero_le _) dX7_layerCount_11
theorem tg_X7_meanTone : xTgt yX7_meanTone cX7_meanTone 1 (some .double) 0 := ⟨ww_753, ww_574, by decide, by decide +kernel, by decide +kernel⟩
section
variable {Γ : xG} {p : Program} {l : Launch} {e : Env} {s : State} {m : MethodId} {args : Array Value} {below : List Frame} {meth : Method} {c : Code} {rF : UInt64 ⊕ String} {wF : xW}
end
set_option maxRecDepth 100000 in
set_option maxHeartbeats 4000000 in
theorem ct_X7_meanTone {Γ : xG} {l : Launch} (hl : l.stackTraces = false) (a0 : Nat) (w0 : xW) (rF : UInt64 ⊕ String) (wF : xW) (hyp : f_X7_meanTone a0 w0 = some (rF, wF)) : xMet Γ l yX7_meanTone (xws yX7_meanTone cX7_meanTone 1 (some .double)) 3 xDb [.ref a0] w0 rF wF (x_mc rF) (x_ms rF) := by
  refine xOfW tg_X7_meanTone hl (lv0 := [(0, .ref a0)]) (Nat.le_of_ble_eq_true rfl) rfl ?_
  intro p e s m below meth c G hno hin
  rw [f_X7_meanTone] at hyp
  refine r_aload_n G 0 dX7_meanTone_0 rfl rfl ?_
  refine r_iconst (v := 0) G dX7_meanTone_1 (by decide) ?_
  obtain ⟨w1, hw1, hyp⟩ := x_some hyp
  refine r_putv (C := RX7) (T := TX7) (N := 22) (ci := 7) G tyX7 tyX7_ok nmX7 0 hw1 rfl uw_7 (Nat.le_of_ble_eq_true rfl) rfl ww_594 rfl rfl rfl dX7_meanTone_2 ?_
  refine r_aload_n G 0 dX7_meanTone_5 rfl rfl ?_
  refine r_iconst (v := 0) G dX7_meanTone_6 (by decide) ?_
  refine r_iconst (v := 0) G dX7_meanTone_7 (by decide) ?_
  refine r_bipush (v := 7) G dX7_meanTone_8 (by decide) ?_
  refine r_iconst (v := 5) G dX7_meanTone_10 (by decide) ?_
  obtain ⟨o4, hyp⟩ := x_chk hyp
  refine r_callV (ι := xI) (T := TX7) (N := 22) (ci := 7) (b := a0) (rest := []) (As := [.int 0, .int 0, .int 7, .int 5]) G hno tg_X7_sum (fun r w' h => ct_X7_sum (xhl G) _ _ _ _ _ _ r w' h) o4 hyp rfl ww_703 ww_705 ww_704 (by decide) (by decide) rfl rfl (xroom (Nat.le_of_ble_eq_true rfl)) dX7_meanTone_11 (push := (fun r3 => [.int r3])) (fun _ => rfl) (fun r3 w2 hyp => ?_)
  refine r_i2d G dX7_meanTone_14 ?_
  refine r_ldcd G dX7_meanTone_15 ww_752 ?_
  obtain ⟨h5, hyp⟩ := x_chk hyp
  refine r_ddiv G dX7_meanTone_18 (x_n64_e h5) ?_
  exact r_dret G hyp (Nat.zero_le _) (Nat.zero_le _) dX7_meanTone_19
theorem tg_X7_mergeDown : xTgt yX7_mergeDown cX7_mergeDown 2 (some .int) 1 := ⟨ww_754, ww_574, by decide, by decide +kernel, by decide +kernel⟩
section
variable {Γ : xG} {p : Program} {l : Launch} {e : Env} {s : State} {m : MethodId} {args : Array Value} {below : List Frame} {meth : Method} {c : Code} {rF : Int32 ⊕ String} {wF : xW}
end
set_option maxRecDepth 100000 in
set_option maxHeartbeats 4000000 in
theorem ct_X7_mergeDown {Γ : xG} {l : Launch} (hl : l.stackTraces = false) (a0 : Nat) (x1 : Int32) (w0 : xW) (rF : Int32 ⊕ String) (wF : xW) (hyp : f_X7_mergeDown a0 x1 w0 = some (rF, wF)) : xMet Γ l yX7_mergeDown (xws yX7_mergeDown cX7_mergeDown 2 (some .int)) 3 xI [.ref a0, .int x1] w0 rF wF (x_mc rF) (x_ms rF) := by
  refine xOfW tg_X7_mergeDown hl (lv0 := [(0, .ref a0), (1, .int x1)]) (Nat.le_of_ble_eq_true rfl) rfl ?_
  intro p e s m below meth c G hno hin
  rw [f_X7_mergeDown] at hyp
  refine r_aload_n G 0 dX7_mergeDown_0 rfl rfl ?_
  obtain ⟨o3, hyp⟩ := x_chk hyp
  refine r_callV (ι := xV) (T := TX7) (N := 22) (ci := 7) (b := a0) (rest := []) (As := []) G hno tg_X7_remembers (fun r w' h => ct_X7_remembers (xhl G) _ _ r w' h) o3 hyp rfl ww_604 ww_606 ww_605 (by decide) (by decide) rfl rfl (xroom (Nat.le_of_ble_eq_true rfl)) dX7_mergeDown_1 (push := (fun _ => [])) (fun _ => rfl) (fun _ w1 hyp => ?_)
  refine r_aload_n G 0 dX7_mergeDown_4 rfl rfl ?_
  refine r_aload_n G 0 dX7_mergeDown_5 rfl rfl ?_
  refine r_iload_n G 1 dX7_mergeDown_6 rfl rfl ?_
  obtain ⟨o6, hyp⟩ := x_chk hyp
  refine r_callV (ι := xI) (T := TX7) (N := 22) (ci := 7) (b := a0) (rest := [.ref a0]) (As := [.int x1]) G hno tg_X7_merges (fun r w' h => ct_X7_merges (xhl G) _ _ _ r w' h) o6 hyp rfl ww_727 ww_729 ww_728 (by decide) (by decide) rfl rfl (xroom (Nat.le_of_ble_eq_true rfl)) dX7_mergeDown_7 (push := (fun r5 => [.int r5, .ref a0])) (fun _ => rfl) (fun r5 w4 hyp => ?_)
  obtain ⟨o9, hyp⟩ := x_chk hyp
  refine r_callV (ι := xI) (T := TX7) (N := 22) (ci := 7) (b := a0) (rest := []) (As := [.int r5]) G hno tg_X7_ends (fun r w' h => ct_X7_ends (xhl G) _ _ _ r w' h) o9 hyp rfl ww_610 ww_612 ww_611 (by decide) (by decide) rfl rfl (xroom (Nat.le_of_ble_eq_true rfl)) dX7_mergeDown_10 (push := (fun r8 => [.int r8])) (fun _ => rfl) (fun r8 w7 hyp => ?_)
  exact r_iret G hyp rfl (Nat.zero_le _) (Nat.zero_le _) dX7_mergeDown_13
theorem tg_X7_mode : xTgt yX7_mode cX7_mode 2 (some .char) 1 := ⟨ww_755, ww_574, by decide, by decide +kernel, by decide +kernel⟩
section
variable {Γ : xG} {p : Program} {l : Launch} {e : Env} {s : State} {m : MethodId} {args : Array Value} {below : List Frame} {meth : Method} {c : Code} {rF : Int32 ⊕ String} {wF : xW}
end
set_option maxRecDepth 100000 in
set_option maxHeartbeats 4000000 in
theorem ct_X7_mode {Γ : xG} {l : Launch} (hl : l.stackTraces = false) (a0 : Nat) (x1 : Int32) (w0 : xW) (rF : Int32 ⊕ String) (wF : xW) (hyp : f_X7_mode a0 x1 w0 = some (rF, wF)) : xMet Γ l yX7_mode (xws yX7_mode cX7_mode 2 (some .char)) 2 xI [.ref a0, .int x1] w0 rF wF (x_mc rF) (x_ms rF) := by
  refine xOfW tg_X7_mode hl (lv0 := [(0, .ref a0), (1, .int x1)]) (Nat.le_of_ble_eq_true rfl) rfl ?_
  intro p e s m below meth c G hno hin
  rw [f_X7_mode] at hyp
  refine r_aload_n G 0 dX7_mode_0 rfl rfl ?_
  refine r_aload_n G 0 dX7_mode_1 rfl rfl ?_
  refine r_iload_n G 1 dX7_mode_2 rfl rfl ?_
  obtain ⟨o3, hyp⟩ := x_chk hyp
  refine r_callV (ι := xI) (T := TX7) (N := 22) (ci := 7) (b := a0) (rest := [.ref a0]) (As := [.int x1]) G hno tg_X7_isLayer (fun r w' h => ct_X7_isLayer (xhl G) _ _ _ r w' h) o3 hyp rfl ww_678 ww_680 ww_679 (by decide) (by decide) rfl rfl (xroom (Nat.le_of_ble_eq_true rfl)) dX7_mode_3 (push := (fun r2 => [.int r2, .ref a0])) (fun _ => rfl) (fun r2 w1 hyp => ?_)
  refine r_if_eq G 13 dX7_mode_6 (by decide) hyp (fun c4 hyp => ?_) (fun c4 hyp => ?_)
  · refine r_iconst (v := 1) G dX7_mode_13 (by decide) ?_
    obtain ⟨w5, hw5, hyp⟩ := x_some hyp
    refine r_putv (C := RX7) (T := TX7) (N := 22) (ci := 7) G tyX7 tyX7_ok nmX7 0 hw5 rfl uw_7 (Nat.le_of_ble_eq_true rfl) rfl ww_594 rfl rfl rfl dX7_mode_14 ?_
    refine r_aload_n G 0 dX7_mode_17 rfl rfl ?_
    obtain ⟨v6, hv6, hyp⟩ := x_some hyp
    refine r_getv (C := RX7) (T := TX7) (N := 22) (ci := 7) G 0 (x_geti_e hv6) rfl uw_7 (Nat.le_of_ble_eq_true rfl) rfl ww_594 dX7_mode_18 ?_
    refine r_if_le G 28 dX7_mode_21 (by decide) hyp (fun c7 hyp => ?_) (fun c7 hyp => ?_)
    · refine r_aload_n G 0 dX7_mode_28 rfl rfl ?_
      refine r_iload_n G 1 dX7_mode_29 rfl rfl ?_
      obtain ⟨o10, hyp⟩ := x_chk hyp
      refine r_callV (ι := xI) (T := TX7) (N := 22) (ci := 7) (b := a0) (rest := []) (As := [.int x1]) G hno tg_X7_mode0 (fun r w' h => ct_X7_mode0 (xhl G) _ _ _ r w' h) o10 hyp rfl ww_624 ww_626 ww_625 (by decide) (by decide) rfl rfl (xroom (Nat.le_of_ble_eq_true rfl)) dX7_mode_30 (push := (fun r9 => [.int r9])) (fun _ => rfl) (fun r9 w8 hyp => ?_)
      refine r_i2c G dX7_mode_33 ?_
      obtain ⟨h11, hyp⟩ := x_chk hyp
      exact r_iret G hyp (xnc h11).1 (Nat.zero_le _) (Nat.zero_le _) dX7_mode_34
    · refine r_iconst (v := 0) G dX7_mode_24 (by decide) ?_
      refine r_goto G 34 dX7_mode_25 (by decide) ?_
      exact r_iret G hyp (by decide) (Nat.zero_le _) (Nat.zero_le _) dX7_mode_34
  · refine r_iconst (v := 0) G dX7_mode_9 (by decide) ?_
    refine r_goto G 14 dX7_mode_10 (by decide) ?_
    obtain ⟨w12, hw12, hyp⟩ := x_some hyp
    refine r_putv (C := RX7) (T := TX7) (N := 22) (ci := 7) G tyX7 tyX7_ok nmX7 0 hw12 rfl uw_7 (Nat.le_of_ble_eq_true rfl) rfl ww_594 rfl rfl rfl dX7_mode_14 ?_
    refine r_aload_n G 0 dX7_mode_17 rfl rfl ?_
    obtain ⟨v13, hv13, hyp⟩ := x_some hyp
    refine r_getv (C := RX7) (T := TX7) (N := 22) (ci := 7) G 0 (x_geti_e hv13) rfl uw_7 (Nat.le_of_ble_eq_true rfl) rfl ww_594 dX7_mode_18 ?_
    refine r_if_le G 28 dX7_mode_21 (by decide) hyp (fun c14 hyp => ?_) (fun c14 hyp => ?_)
    · refine r_aload_n G 0 dX7_mode_28 rfl rfl ?_
      refine r_iload_n G 1 dX7_mode_29 rfl rfl ?_
      obtain ⟨o17, hyp⟩ := x_chk hyp
      refine r_callV (ι := xI) (T := TX7) (N := 22) (ci := 7) (b := a0) (rest := []) (As := [.int x1]) G hno tg_X7_mode0 (fun r w' h => ct_X7_mode0 (xhl G) _ _ _ r w' h) o17 hyp rfl ww_624 ww_626 ww_625 (by decide) (by decide) rfl rfl (xroom (Nat.le_of_ble_eq_true rfl)) dX7_mode_30 (push := (fun r16 => [.int r16])) (fun _ => rfl) (fun r16 w15 hyp => ?_)
      refine r_i2c G dX7_mode_33 ?_
      obtain ⟨h18, hyp⟩ := x_chk hyp
      exact r_iret G hyp (xnc h18).1 (Nat.zero_le _) (Nat.zero_le _) dX7_mode_34
    · refine r_iconst (v := 0) G dX7_mode_24 (by decide) ?_
      refine r_goto G 34 dX7_mode_25 (by decide) ?_
      exact r_iret G hyp (by decide) (Nat.zero_le _) (Nat.zero_le _) dX7_mode_34
theorem tg_X7_moveLayer : xTgt yX7_moveLayer cX7_moveLayer 3 (some .int) 2 := ⟨ww_756, ww_574, by decide, by decide +kernel, by decide +kernel⟩
section
variable {Γ : xG} {p : Program} {l : Launch} {e : Env} {s : State} {m : MethodId} {args : Array Value} {below : List Frame} {meth : Method} {c : Code} {rF : Int32 ⊕ String} {wF : xW}
end
set_option maxRecDepth 100000 in
set_option maxHeartbeats 4000000 in
theorem ct_X7_moveLayer {Γ : xG} {l : Launch} (hl : l.stackTraces = false) (a0 : Nat) (x1 : Int32) (x2 : Int32) (w0 : xW) (rF : Int32 ⊕ String) (wF : xW) (hyp : f_X7_moveLayer a0 x1 x2 w0 = some (rF, wF)) : xMet Γ l yX7_moveLayer (xws yX7_moveLayer cX7_moveLayer 3 (some .int)) 3 xI [.ref a0, .int x1, .int x2] w0 rF wF (x_mc rF) (x_ms rF) := by
  refine xOfW tg_X7_moveLayer hl (lv0 := [(0, .ref a0), (1, .int x1), (2, .int x2)]) (Nat.le_of_ble_eq_true rfl) rfl ?_
  intro p e s m below meth c G hno hin
  rw [f_X7_moveLayer] at hyp
  refine r_aload_n G 0 dX7_moveLayer_0 rfl rfl ?_
  obtain ⟨o3, hyp⟩ := x_chk hyp
  refine r_callV (ι := xV) (T := TX7) (N := 22) (ci := 7) (b := a0) (rest := []) (As := []) G hno tg_X7_remembers (fun r w' h => ct_X7_remembers (xhl G) _ _ r w' h) o3 hyp rfl ww_604 ww_606 ww_605 (by decide) (by decide) rfl rfl (xroom (Nat.le_of_ble_eq_true rfl)) dX7_moveLayer_1 (push := (fun _ => [])) (fun _ => rfl) (fun _ w1 hyp => ?_)
  refine r_aload_n G 0 dX7_moveLayer_4 rfl rfl ?_
  refine r_aload_n G 0 dX7_moveLayer_5 rfl rfl ?_
  refine r_iload_n G 1 dX7_moveLayer_6 rfl rfl ?_
  refine r_iload_n G 2 dX7_moveLayer_7 rfl rfl ?_
  obtain ⟨o6, hyp⟩ := x_chk hyp
  refine r_callV (ι := xI) (T := TX7) (N := 22) (ci := 7) (b := a0) (rest := [.ref a0]) (As := [.int x1, .int x2]) G hno tg_X7_moves (fun r w' h => ct_X7_moves (xhl G) _ _ _ _ r w' h) o6 hyp rfl ww_730 ww_732 ww_731 (by decide) (by decide) rfl rfl (xroom (Nat.le_of_ble_eq_true rfl)) dX7_moveLayer_8 (push := (fun r5 => [.int r5, .ref a0])) (fun _ => rfl) (fun r5 w4 hyp => ?_)
  obtain ⟨o9, hyp⟩ := x_chk hyp
  refine r_callV (ι := xI) (T := TX7) (N := 22) (ci := 7) (b := a0) (rest := []) (As := [.int r5]) G hno tg_X7_ends (fun r w' h => ct_X7_ends (xhl G) _ _ _ r w' h) o9 hyp rfl ww_610 ww_612 ww_611 (by decide) (by decide) rfl rfl (xroom (Nat.le_of_ble_eq_true rfl)) dX7_moveLayer_11 (push := (fun r8 => [.int r8])) (fun _ => rfl) (fun r8 w7 hyp => ?_)
  exact r_iret G hyp rfl (Nat.zero_le _) (Nat.zero_le _) dX7_moveLayer_14
theorem tg_X7_outputChar : xTgt yX7_outputChar cX7_outputChar 2 (some .char) 1 := ⟨ww_758, ww_574, by decide, by decide +kernel, by decide +kernel⟩
section
variable {Γ : xG} {p : Program} {l : Launch} {e : Env} {s : State} {m : MethodId} {args : Array Value} {below : List Frame} {meth : Method} {c : Code} {rF : Int32 ⊕ String} {wF : xW}
end
set_option maxRecDepth 100000 in
set_option maxHeartbeats 4000000 in
theorem ct_X7_outputChar {Γ : xG} {l : Launch} (hl : l.stackTraces = false) (a0 : Nat) (x1 : Int32) (w0 : xW) (rF : Int32 ⊕ String) (wF : xW) (hyp : f_X7_outputChar a0 x1 w0 = some (rF, wF)) : xMet Γ l yX7_outputChar (xws yX7_outputChar cX7_outputChar 2 (some .char)) 1 xI [.ref a0, .int x1] w0 rF wF (x_mc rF) (x_ms rF) := by
  refine xOfW tg_X7_outputChar hl (lv0 := [(0, .ref a0), (1, .int x1)]) (Nat.le_of_ble_eq_true rfl) rfl ?_
  intro p e s m below meth c G hno hin
  rw [f_X7_outputChar] at hyp
  refine r_aload_n G 0 dX7_outputChar_0 rfl rfl ?_
  refine r_iload_n G 1 dX7_outputChar_1 rfl rfl ?_
  refine r_iconst (v := 0) G dX7_outputChar_2 (by decide) ?_
  refine r_aload_n G 0 dX7_outputChar_3 rfl rfl ?_
  obtain ⟨v1, hv1, hyp⟩ := x_some hyp
  refine r_getv (C := RX7) (T := TX7) (N := 22) (ci := 7) G 14 (x_geti_e hv1) rfl uw_7 (Nat.le_of_ble_eq_true rfl) rfl ww_757 dX7_outputChar_4 ?_
  refine r_iconst (v := 1) G dX7_outputChar_7 (by decide) ?_
  refine r_isub G dX7_outputChar_8 ?_
  refine r_callS (ι := xI) (rest := [.ref a0]) (As := [.int x1, .int 0, .int (v1 - 1)]) G hno tg_X7_in (fun r w' h => ct_X7_in (xhl G) _ _ _ _ r w' h) hyp ww_647 ww_648 (by decide) (by decide) rfl rfl (xroom (Nat.le_of_ble_eq_true rfl)) dX7_outputChar_9 (push := (fun r3 => [.int r3, .ref a0])) (fun _ => rfl) (fun r3 w2 hyp => ?_)
  refine r_if_eq G 19 dX7_outputChar_12 (by decide) hyp (fun c4 hyp => ?_) (fun c4 hyp => ?_)
  · refine r_iconst (v := 1) G dX7_outputChar_19 (by decide) ?_
    obtain ⟨w5, hw5, hyp⟩ := x_some hyp
    refine r_putv (C := RX7) (T := TX7) (N := 22) (ci := 7) G tyX7 tyX7_ok nmX7 0 hw5 rfl uw_7 (Nat.le_of_ble_eq_true rfl) rfl ww_594 rfl rfl rfl dX7_outputChar_20 ?_
    refine r_aload_n G 0 dX7_outputChar_23 rfl rfl ?_
    obtain ⟨v6, hv6, hyp⟩ := x_some hyp
    refine r_getv (C := RX7) (T := TX7) (N := 22) (ci := 7) G 0 (x_geti_e hv6) rfl uw_7 (Nat.le_of_ble_eq_true rfl) rfl ww_594 dX7_outputChar_24 ?_
    refine r_if_le G 34 dX7_outputChar_27 (by decide) hyp (fun c7 hyp => ?_) (fun c7 hyp => ?_)
    · refine r_aload_n G 0 dX7_outputChar_34 rfl rfl ?_
      obtain ⟨v8, hv8, hyp⟩ := x_some hyp
      refine r_getv (C := RX7) (T := TX7) (N := 22) (ci := 7) G 9 (x_getr_e hv8) rfl uw_7 (Nat.le_of_ble_eq_true rfl) rfl ww_567 dX7_outputChar_35 ?_
      refine r_iload_n G 1 dX7_outputChar_38 rfl rfl ?_
      refine r_ref hyp (fun a9 ha9 hz => ?_)
      clear hyp; subst ha9; have hyp := hz; clear hz
      obtain ⟨v10, hv10, hyp⟩ := x_some hyp
      refine r_iald G hv10 dX7_outputChar_39 ?_
      refine r_i2c G dX7_outputChar_40 ?_
      obtain ⟨h11, hyp⟩ := x_chk hyp
      exact r_iret G hyp (xnc h11).1 (Nat.zero_le _) (Nat.zero_le _) dX7_outputChar_41
    · refine r_iconst (v := 0) G dX7_outputChar_30 (by decide) ?_
      refine r_goto G 41 dX7_outputChar_31 (by decide) ?_
      exact r_iret G hyp (by decide) (Nat.zero_le _) (Nat.zero_le _) dX7_outputChar_41
  · refine r_iconst (v := 0) G dX7_outputChar_15 (by decide) ?_
    refine r_goto G 20 dX7_outputChar_16 (by decide) ?_
    obtain ⟨w12, hw12, hyp⟩ := x_some hyp
    refine r_putv (C := RX7) (T := TX7) (N := 22) (ci := 7) G tyX7 tyX7_ok nmX7 0 hw12 rfl uw_7 (Nat.le_of_ble_eq_true rfl) rfl ww_594 rfl rfl rfl dX7_outputChar_20 ?_
    refine r_aload_n G 0 dX7_outputChar_23 rfl rfl ?_
    obtain ⟨v13, hv13, hyp⟩ := x_some hyp
    refine r_getv (C := RX7) (T := TX7) (N := 22) (ci := 7) G 0 (x_geti_e hv13) rfl uw_7 (Nat.le_of_ble_eq_true rfl) rfl ww_594 dX7_outputChar_24 ?_
    refine r_if_le G 34 dX7_outputChar_27 (by decide) hyp (fun c14 hyp => ?_) (fun c14 hyp => ?_)
    · refine r_aload_n G 0 dX7_outputChar_34 rfl rfl ?_
      obtain ⟨v15, hv15, hyp⟩ := x_some hyp
      refine r_getv (C := RX7) (T := TX7) (N := 22) (ci := 7) G 9 (x_getr_e hv15) rfl uw_7 (Nat.le_of_ble_eq_true rfl) rfl ww_567 dX7_outputChar_35 ?_
      refine r_iload_n G 1 dX7_outputChar_38 rfl rfl ?_
      refine r_ref hyp (fun a16 ha16 hz => ?_)
      clear hyp; subst ha16; have hyp := hz; clear hz
      obtain ⟨v17, hv17, hyp⟩ := x_some hyp
      refine r_iald G hv17 dX7_outputChar_39 ?_
      refine r_i2c G dX7_outputChar_40 ?_
      obtain ⟨h18, hyp⟩ := x_chk hyp
      exact r_iret G hyp (xnc h18).1 (Nat.zero_le _) (Nat.zero_le _) dX7_outputChar_41
    · refine r_iconst (v := 0) G dX7_outputChar_30 (by decide) ?_
      refine r_goto G 41 dX7_outputChar_31 (by decide) ?_
      exact r_iret G hyp (by decide) (Nat.zero_le _) (Nat.zero_le _) dX7_outputChar_41
theorem tg_X7_paint : xTgt yX7_paint cX7_paint 7 (some .int) 6 := ⟨ww_759, ww_574, by decide, by decide +kernel, by decide +kernel⟩
section
variable {Γ : xG} {p : Program} {l : Launch} {e : Env} {s : State} {m : MethodId} {args : Array Value} {below : List Frame} {meth : Method} {c : Code} {rF : Int32 ⊕ String} {wF : xW}
end
set_option maxRecDepth 100000 in
set_option maxHeartbeats 4000000 in
theorem ct_X7_paint {Γ : xG} {l : Launch} (hl : l.stackTraces = false) (a0 : Nat) (x1 : Int32) (x2 : Int32) (x3 : Int32) (x4 : Int32) (x5 : Int32) (x6 : Int32) (w0 : xW) (rF : Int32 ⊕ String) (wF : xW) (hyp : f_X7_paint a0 x1 x2 x3 x4 x5 x6 w0 = some (rF, wF)) : xMet Γ l yX7_paint (xws yX7_paint cX7_paint 7 (some .int)) 3 xI [.ref a0, .int x1, .int x2, .int x3, .int x4, .int x5, .int x6] w0 rF wF (x_mc rF) (x_ms rF) := by
  refine xOfW tg_X7_paint hl (lv0 := [(0, .ref a0), (1, .int x1), (2, .int x2), (3, .int x3), (4, .int x4), (5, .int x5), (6, .int x6)]) (Nat.le_of_ble_eq_true rfl) rfl ?_
  intro p e s m below meth c G hno hin
  rw [f_X7_paint] at hyp
  refine r_aload_n G 0 dX7_paint_0 rfl rfl ?_
  obtain ⟨o3, hyp⟩ := x_chk hyp
  refine r_callV (ι := xV) (T := TX7) (N := 22) (ci := 7) (b := a0) (rest := []) (As := []) G hno tg_X7_remembers (fun r w' h => ct_X7_remembers (xhl G) _ _ r w' h) o3 hyp rfl ww_604 ww_606 ww_605 (by decide) (by decide) rfl rfl (xroom (Nat.le_of_ble_eq_true rfl)) dX7_paint_1 (push := (fun _ => [])) (fun _ => rfl) (fun _ w1 hyp => ?_)
  refine r_aload_n G 0 dX7_paint_4 rfl rfl ?_
  refine r_aload_n G 0 dX7_paint_5 rfl rfl ?_
  refine r_iload_n G 1 dX7_paint_6 rfl rfl ?_
  refine r_iload_n G 2 dX7_paint_7 rfl rfl ?_
  refine r_iload_n G 3 dX7_paint_8 rfl rfl ?_
  refine r_iload G 4 dX7_paint_9 rfl ?_
  refine r_iload G 5 dX7_paint_11 rfl ?_
  refine r_iload G 6 dX7_paint_13 rfl ?_
  obtain ⟨o6, hyp⟩ := x_chk hyp
  refine r_callV (ι := xI) (T := TX7) (N := 22) (ci := 7) (b := a0) (rest := [.ref a0]) (As := [.int x1, .int x2, .int x3, .int x4, .int x5, .int x6]) G hno tg_X7_paints (fun r w' h => ct_X7_paints (xhl G) _ _ _ _ _ _ _ _ r w' h) o6 hyp rfl ww_733 ww_735 ww_734 (by decide) (by decide) rfl rfl (xroom (Nat.le_of_ble_eq_true rfl)) dX7_paint_15 (push := (fun r5 => [.int r5, .ref a0])) (fun _ => rfl) (fun r5 w4 hyp => ?_)
  obtain ⟨o9, hyp⟩ := x_chk hyp
  refine r_callV (ι := xI) (T := TX7) (N := 22) (ci := 7) (b := a0) (rest := []) (As := [.int r5]) G hno tg_X7_ends (fun r w' h => ct_X7_ends (xhl G) _ _ _ r w' h) o9 hyp rfl ww_610 ww_612 ww_611 (by decide) (by decide) rfl rfl (xroom (Nat.le_of_ble_eq_true rfl)) dX7_paint_18 (push := (fun r8 => [.int r8])) (fun _ => rfl) (fun r8 w7 hyp => ?_)
  exact r_iret G hyp rfl (Nat.zero_le _) (Nat.zero_le _) dX7_paint_21
theorem tg_X7_painted : xTgt yX7_painted cX7_painted 2 (some .int) 1 := ⟨ww_760, ww_574, by decide, by decide +kernel, by decide +kernel⟩
section
variable {Γ : xG} {p : Program} {l : Launch} {e : Env} {s : State} {m : MethodId} {args : Array Value} {below : List Frame} {meth : Method} {c : Code} {rF : Int32 ⊕ String} {wF : xW}
end
set_option maxRecDepth 100000 in
set_option maxHeartbeats 4000000 in
theorem ct_X7_painted {Γ : xG} {l : Launch} (hl : l.stackTraces = false) (a0 : Nat) (x1 : Int32) (w0 : xW) (rF : Int32 ⊕ String) (wF : xW) (hyp : f_X7_painted a0 x1 w0 = some (rF, wF)) : xMet Γ l yX7_painted (xws yX7_painted cX7_painted 2 (some .int)) 2 xI [.ref a0, .int x1] w0 rF wF (x_mc rF) (x_ms rF) := by
  refine xOfW tg_X7_painted hl (lv0 := [(0, .ref a0), (1, .int x1)]) (Nat.le_of_ble_eq_true rfl) rfl ?_
  intro p e s m below meth c G hno hin
  rw [f_X7_painted] at hyp
  refine r_aload_n G 0 dX7_painted_0 rfl rfl ?_
  refine r_aload_n G 0 dX7_painted_1 rfl rfl ?_
  refine r_iload_n G 1 dX7_painted_2 rfl rfl ?_
  obtain ⟨o3, hyp⟩ := x_chk hyp
  refine r_callV (ι := xI) (T := TX7) (N := 22) (ci := 7) (b := a0) (rest := [.ref a0]) (As := [.int x1]) G hno tg_X7_isLayer (fun r w' h => ct_X7_isLayer (xhl G) _ _ _ r w' h) o3 hyp rfl ww_678 ww_680 ww_679 (by decide) (by decide) rfl rfl (xroom (Nat.le_of_ble_eq_true rfl)) dX7_painted_3 (push := (fun r2 => [.int r2, .ref a0])) (fun _ => rfl) (fun r2 w1 hyp => ?_)
  refine r_if_eq G 13 dX7_painted_6 (by decide) hyp (fun c4 hyp => ?_) (fun c4 hyp => ?_)
  · refine r_iconst (v := 1) G dX7_painted_13 (by decide) ?_
    obtain ⟨w5, hw5, hyp⟩ := x_some hyp
    refine r_putv (C := RX7) (T := TX7) (N := 22) (ci := 7) G tyX7 tyX7_ok nmX7 0 hw5 rfl uw_7 (Nat.le_of_ble_eq_true rfl) rfl ww_594 rfl rfl rfl dX7_painted_14 ?_
    refine r_aload_n G 0 dX7_painted_17 rfl rfl ?_
    obtain ⟨v6, hv6, hyp⟩ := x_some hyp
    refine r_getv (C := RX7) (T := TX7) (N := 22) (ci := 7) G 0 (x_geti_e hv6) rfl uw_7 (Nat.le_of_ble_eq_true rfl) rfl ww_594 dX7_painted_18 ?_
    refine r_if_le G 28 dX7_painted_21 (by decide) hyp (fun c7 hyp => ?_) (fun c7 hyp => ?_)
    · refine r_aload_n G 0 dX7_painted_28 rfl rfl ?_
      refine r_iload_n G 1 dX7_painted_29 rfl rfl ?_
      obtain ⟨o10, hyp⟩ := x_chk hyp
      refine r_callV (ι := xI) (T := TX7) (N := 22) (ci := 7) (b := a0) (rest := []) (As := [.int x1]) G hno tg_X7_full (fun r w' h => ct_X7_full (xhl G) _ _ _ r w' h) o10 hyp rfl ww_681 ww_683 ww_682 (by decide) (by decide) rfl rfl (xroom (Nat.le_of_ble_eq_true rfl)) dX7_painted_30 (push := (fun r9 => [.int r9])) (fun _ => rfl) (fun r9 w8 hyp => ?_)
      exact r_iret G hyp rfl (Nat.zero_le _) (Nat.zero_le _) dX7_painted_33
    · refine r_iconst (v := 0) G dX7_painted_24 (by decide) ?_
      refine r_goto G 33 dX7_painted_25 (by decide) ?_
      exact r_iret G hyp rfl (Nat.zero_le _) (Nat.zero_le _) dX7_painted_33
  · refine r_iconst (v := 0) G dX7_painted_9 (by decide) ?_
    refine r_goto G 14 dX7_painted_10 (by decide) ?_
    obtain ⟨w11, hw11, hyp⟩ := x_some hyp
    refine r_putv (C := RX7) (T := TX7) (N := 22) (ci := 7) G tyX7 tyX7_ok nmX7 0 hw11 rfl uw_7 (Nat.le_of_ble_eq_true rfl) rfl ww_594 rfl rfl rfl dX7_painted_14 ?_
    refine r_aload_n G 0 dX7_painted_17 rfl rfl ?_
    obtain ⟨v12, hv12, hyp⟩ := x_some hyp
    refine r_getv (C := RX7) (T := TX7) (N := 22) (ci := 7) G 0 (x_geti_e hv12) rfl uw_7 (Nat.le_of_ble_eq_true rfl) rfl ww_594 dX7_painted_18 ?_
    refine r_if_le G 28 dX7_painted_21 (by decide) hyp (fun c13 hyp => ?_) (fun c13 hyp => ?_)
    · refine r_aload_n G 0 dX7_painted_28 rfl rfl ?_
      refine r_iload_n G 1 dX7_painted_29 rfl rfl ?_
      obtain ⟨o16, hyp⟩ := x_chk hyp
      refine r_callV (ι := xI) (T := TX7) (N := 22) (ci := 7) (b := a0) (rest := []) (As := [.int x1]) G hno tg_X7_full (fun r w' h => ct_X7_full (xhl G) _ _ _ r w' h) o16 hyp rfl ww_681 ww_683 ww_682 (by decide) (by decide) rfl rfl (xroom (Nat.le_of_ble_eq_true rfl)) dX7_painted_30 (push := (fun r15 => [.int r15])) (fun _ => rfl) (fun r15 w14 hyp => ?_)
      exact r_iret G hyp rfl (Nat.zero_le _) (Nat.zero_le _) dX7_painted_33
    · refine r_iconst (v := 0) G dX7_painted_24 (by decide) ?_
      refine r_goto G 33 dX7_painted_25 (by decide) ?_
      exact r_iret G hyp rfl (Nat.zero_le _) (Nat.zero_le _) dX7_painted_33
theorem tg_X7_paintedCells : xTgt yX7_paintedCells cX7_paintedCells 1 (some .int) 0 := ⟨ww_761, ww_574, by decide, by decide +kernel, by decide +kernel⟩
section
variable {Γ : xG} {p : Program} {l : Launch} {e : Env} {s : State} {m : MethodId} {args : Array Value} {below : List Frame} {meth : Method} {c : Code} {rF : Int32 ⊕ String} {wF : xW}
end
set_option maxRecDepth 100000 in
set_option maxHeartbeats 4000000 in
theorem ct_X7_paintedCells {Γ : xG} {l : Launch} (hl : l.stackTraces = false) (a0 : Nat) (w0 : xW) (rF : Int32 ⊕ String) (wF : xW) (hyp : f_X7_paintedCells a0 w0 = some (rF, wF)) : xMet Γ l yX7_paintedCells (xws yX7_paintedCells cX7_paintedCells 1 (some .int)) 0 xI [.ref a0] w0 rF wF (x_mc rF) (x_ms rF) := by
  refine xOfW tg_X7_paintedCells hl (lv0 := [(0, .ref a0)]) (Nat.le_of_ble_eq_true rfl) rfl ?_
  intro p e s m below meth c G hno hin
  rw [f_X7_paintedCells] at hyp
  refine r_aload_n G 0 dX7_paintedCells_0 rfl rfl ?_
  refine r_iconst (v := 0) G dX7_paintedCells_1 (by decide) ?_
  obtain ⟨w1, hw1, hyp⟩ := x_some hyp
  refine r_putv (C := RX7) (T := TX7) (N := 22) (ci := 7) G tyX7 tyX7_ok nmX7 0 hw1 rfl uw_7 (Nat.le_of_ble_eq_true rfl) rfl ww_594 rfl rfl rfl dX7_paintedCells_2 ?_
  refine r_aload_n G 0 dX7_paintedCells_5 rfl rfl ?_
  obtain ⟨v2, hv2, hyp⟩ := x_some hyp
  refine r_getv (C := RX7) (T := TX7) (N := 22) (ci := 7) G 1 (x_getr_e hv2) rfl uw_7 (Nat.le_of_ble_eq_true rfl) rfl ww_561 dX7_paintedCells_6 ?_
  refine r_iconst (v := 1) G dX7_paintedCells_9 (by decide) ?_
  refine r_ref hyp (fun a3 ha3 hz => ?_)
  clear hyp; subst ha3; have hyp := hz; clear hz
  obtain ⟨v4, hv4, hyp⟩ := x_some hyp
  refine r_iald G hv4 dX7_paintedCells_10 ?_
  exact r_iret G hyp rfl (Nat.zero_le _) (Nat.zero_le _) dX7_paintedCells_11
theorem tg_X7_readsLayer : xTgt yX7_readsLayer cX7_readsLayer 1 none 0 := ⟨ww_762, ww_574, by decide, by decide +kernel, by decide +kernel⟩
section
variable {Γ : xG} {p : Program} {l : Launch} {e : Env} {s : State} {m : MethodId} {args : Array Value} {below : List Frame} {meth : Method} {c : Code} {rF : Unit ⊕ String} {wF : xW}
set_option maxRecDepth 100000 in
set_option maxHeartbeats 4000000 in
theorem nd_X7_readsLayer_J44 (G : xCx Γ p l s m args meth c RX7 cX7_readsLayer 1 none) (hno : ∀ x ∈ c.exceptionTable.toList, False) (a0 : Nat) (s0 : Int32) (s1 : Option Nat) (w0 : xW) (hyp : f_X7_readsLayer_J44 a0 s0 s1 w0 = some (rF, wF)) : xAW Γ p l e (xRm 5 (x_mc rF) (x_ms rF)) s m args below meth c 1 (xQm Γ below xV rF wF args s (x_mc rF) (x_ms rF)) w0 0 0 44 [(0, .ref a0)] [.int s0, va_rf s1] := by
  rw [f_X7_readsLayer_J44] at hyp
  refine r_ref hyp (fun a10 ha10 hz => ?_)
  clear hyp; subst ha10; have hyp := hz; clear hz
  obtain ⟨h11, hyp⟩ := x_chk hyp
  obtain ⟨w12, hw12, hyp⟩ := x_some hyp
  refine r_putv (C := RX7) (T := TX7) (N := 22) (ci := 7) G tyX7 tyX7_ok nmX7 21 hw12 rfl uw_7 (Nat.le_of_ble_eq_true rfl) rfl ww_660 rfl (xnz h11).1 (xnz h11).2 dX7_readsLayer_44 ?_
  refine r_aload_n G 0 dX7_readsLayer_47 rfl rfl ?_
  obtain ⟨v13, hv13, hyp⟩ := x_some hyp
  refine r_getv (C := RX7) (T := TX7) (N := 22) (ci := 7) G 8 (x_getr_e hv13) rfl uw_7 (Nat.le_of_ble_eq_true rfl) rfl ww_566 dX7_readsLayer_48 ?_
  refine r_bipush (v := 7) G dX7_readsLayer_51 (by decide) ?_
  refine r_aload_n G 0 dX7_readsLayer_53 rfl rfl ?_
  obtain ⟨v14, hv14, hyp⟩ := x_some hyp
  refine r_getv (C := RX7) (T := TX7) (N := 22) (ci := 7) G 20 (x_geti_e hv14) rfl uw_7 (Nat.le_of_ble_eq_true rfl) rfl ww_661 dX7_readsLayer_54 ?_
  refine r_imul G dX7_readsLayer_57 ?_
  refine r_iconst (v := 1) G dX7_readsLayer_58 (by decide) ?_
  refine r_iadd G dX7_readsLayer_59 ?_
  refine r_aload_n G 0 dX7_readsLayer_60 rfl rfl ?_
  obtain ⟨v15, hv15, hyp⟩ := x_some hyp
  refine r_getv (C := RX7) (T := TX7) (N := 22) (ci := 7) G 21 (x_geti_e hv15) rfl uw_7 (Nat.le_of_ble_eq_true rfl) rfl ww_660 dX7_readsLayer_61 ?_
  refine r_if_eq G 71 dX7_readsLayer_64 (by decide) hyp (fun c16 hyp => ?_) (fun c16 hyp => ?_)
  · refine r_aload_n G 0 dX7_readsLayer_71 rfl rfl ?_
    refine r_iconst (v := 0) G dX7_readsLayer_72 (by decide) ?_
    obtain ⟨o19, hyp⟩ := x_chk hyp
    refine r_callV (ι := xI) (T := TX7) (N := 22) (ci := 7) (b := a0) (rest := [.int ((7 * v14) + 1), va_rf v13]) (As := [.int 0]) G hno tg_X7_here (fun r w' h => ct_X7_here (xhl G) _ _ _ r w' h) o19 hyp rfl ww_662 ww_664 ww_663 (by decide) (by decide) rfl rfl (xroom (Nat.le_of_ble_eq_true rfl)) dX7_readsLayer_73 (push := (fun r18 => [.int r18, .int ((7 * v14) + 1), va_rf v13])) (fun _ => rfl) (fun r18 w17 hyp => ?_)
    refine r_ref hyp (fun a20 ha20 hz => ?_)
    clear hyp; subst ha20; have hyp := hz; clear hz
    obtain ⟨w21, hw21, hyp⟩ := x_some hyp
    refine r_iast G hw21 dX7_readsLayer_76 ?_
    refine r_aload_n G 0 dX7_readsLayer_77 rfl rfl ?_
    refine r_dup G dX7_readsLayer_78 rfl ?_
    obtain ⟨v22, hv22, hyp⟩ := x_some hyp
    refine r_getv (C := RX7) (T := TX7) (N := 22) (ci := 7) G 18 (x_geti_e hv22) rfl uw_7 (Nat.le_of_ble_eq_true rfl) rfl ww_657 dX7_readsLayer_79 ?_
    refine r_aload_n G 0 dX7_readsLayer_82 rfl rfl ?_
    obtain ⟨v23, hv23, hyp⟩ := x_some hyp
    refine r_getv (C := RX7) (T := TX7) (N := 22) (ci := 7) G 21 (x_geti_e hv23) rfl uw_7 (Nat.le_of_ble_eq_true rfl) rfl ww_660 dX7_readsLayer_83 ?_
    refine r_if_eq G 93 dX7_readsLayer_86 (by decide) hyp (fun c24 hyp => ?_) (fun c24 hyp => ?_)
    · refine r_iconst (v := 1) G dX7_readsLayer_93 (by decide) ?_
      refine r_iadd G dX7_readsLayer_94 ?_
      obtain ⟨w25, hw25, hyp⟩ := x_some hyp
      refine r_putv (C := RX7) (T := TX7) (N := 22) (ci := 7) G tyX7 tyX7_ok nmX7 18 hw25 rfl uw_7 (Nat.le_of_ble_eq_true rfl) rfl ww_657 rfl rfl rfl dX7_readsLayer_95 ?_
      exact r_vret G hyp (Nat.zero_le _) (Nat.zero_le _) dX7_readsLayer_98
    · refine r_iconst (v := 0) G dX7_readsLayer_89 (by decide) ?_
      refine r_goto G 94 dX7_readsLayer_90 (by decide) ?_
      refine r_iadd G dX7_readsLayer_94 ?_
      obtain ⟨w26, hw26, hyp⟩ := x_some hyp
      refine r_putv (C := RX7) (T := TX7) (N := 22) (ci := 7) G tyX7 tyX7_ok nmX7 18 hw26 rfl uw_7 (Nat.le_of_ble_eq_true rfl) rfl ww_657 rfl rfl rfl dX7_readsLayer_95 ?_
      exact r_vret G hyp (Nat.zero_le _) (Nat.zero_le _) dX7_readsLayer_98
  · refine r_iconst (v := 0) G dX7_readsLayer_67 (by decide) ?_
    refine r_goto G 76 dX7_readsLayer_68 (by decide) ?_
    refine r_ref hyp (fun a27 ha27 hz => ?_)
    clear hyp; subst ha27; have hyp := hz; clear hz
    obtain ⟨w28, hw28, hyp⟩ := x_some hyp
    refine r_iast G hw28 dX7_readsLayer_76 ?_
    refine r_aload_n G 0 dX7_readsLayer_77 rfl rfl ?_
    refine r_dup G dX7_readsLayer_78 rfl ?_
    obtain ⟨v29, hv29, hyp⟩ := x_some hyp
    refine r_getv (C := RX7) (T := TX7) (N := 22) (ci := 7) G 18 (x_geti_e hv29) rfl uw_7 (Nat.le_of_ble_eq_true rfl) rfl ww_657 dX7_readsLayer_79 ?_
    refine r_aload_n G 0 dX7_readsLayer_82 rfl rfl ?_
    obtain ⟨v30, hv30, hyp⟩ := x_some hyp
    refine r_getv (C := RX7) (T := TX7) (N := 22) (ci := 7) G 21 (x_geti_e hv30) rfl uw_7 (Nat.le_of_ble_eq_true rfl) rfl ww_660 dX7_readsLayer_83 ?_
    refine r_if_eq G 93 dX7_readsLayer_86 (by decide) hyp (fun c31 hyp => ?_) (fun c31 hyp => ?_)
    · refine r_iconst (v := 1) G dX7_readsLayer_93 (by decide) ?_
      refine r_iadd G dX7_readsLayer_94 ?_
      obtain ⟨w32, hw32, hyp⟩ := x_some hyp
      refine r_putv (C := RX7) (T := TX7) (N := 22) (ci := 7) G tyX7 tyX7_ok nmX7 18 hw32 rfl uw_7 (Nat.le_of_ble_eq_true rfl) rfl ww_657 rfl rfl rfl dX7_readsLayer_95 ?_
      exact r_vret G hyp (Nat.zero_le _) (Nat.zero_le _) dX7_readsLayer_98
    · refine r_iconst (v := 0) G dX7_readsLayer_89 (by decide) ?_
      refine r_goto G 94 dX7_readsLayer_90 (by decide) ?_
      refine r_iadd G dX7_readsLayer_94 ?_
      obtain ⟨w33, hw33, hyp⟩ := x_some hyp
      refine r_putv (C := RX7) (T := TX7) (N := 22) (ci := 7) G tyX7 tyX7_ok nmX7 18 hw33 rfl uw_7 (Nat.le_of_ble_eq_true rfl) rfl ww_657 rfl rfl rfl dX7_readsLayer_95 ?_
      exact r_vret G hyp (Nat.zero_le _) (Nat.zero_le _) dX7_readsLayer_98
set_option maxRecDepth 100000 in
set_option maxHeartbeats 4000000 in
theorem nd_X7_readsLayer_J39 (G : xCx Γ p l s m args meth c RX7 cX7_readsLayer 1 none) (hno : ∀ x ∈ c.exceptionTable.toList, False) (a0 : Nat) (s0 : Option Nat) (w0 : xW) (hyp : f_X7_readsLayer_J39 a0 s0 w0 = some (rF, wF)) : xAW Γ p l e (xRm 5 (x_mc rF) (x_ms rF)) s m args below meth c 1 (xQm Γ below xV rF wF args s (x_mc rF) (x_ms rF)) w0 0 0 39 [(0, .ref a0)] [va_rf s0] := by
  rw [f_X7_readsLayer_J39] at hyp
  refine r_iconst (v := 1) G dX7_readsLayer_39 (by decide) ?_
  refine r_goto G 44 dX7_readsLayer_40 (by decide) ?_
  exact nd_X7_readsLayer_J44 G hno a0 1 s0 w0 hyp
end
set_option maxRecDepth 100000 in
set_option maxHeartbeats 4000000 in
theorem ct_X7_readsLayer {Γ : xG} {l : Launch} (hl : l.stackTraces = false) (a0 : Nat) (w0 : xW) (rF : Unit ⊕ String) (wF : xW) (hyp : f_X7_readsLayer a0 w0 = some (rF, wF)) : xMet Γ l yX7_readsLayer (xws yX7_readsLayer cX7_readsLayer 1 none) 5 xV [.ref a0] w0 rF wF (x_mc rF) (x_ms rF) := by
  refine xOfW tg_X7_readsLayer hl (lv0 := [(0, .ref a0)]) (Nat.le_of_ble_eq_true rfl) rfl ?_
  intro p e s m below meth c G hno hin
  rw [f_X7_readsLayer] at hyp
  refine r_aload_n G 0 dX7_readsLayer_0 rfl rfl ?_
  obtain ⟨v1, hv1, hyp⟩ := x_some hyp
  refine r_getv (C := RX7) (T := TX7) (N := 22) (ci := 7) G 8 (x_getr_e hv1) rfl uw_7 (Nat.le_of_ble_eq_true rfl) rfl ww_566 dX7_readsLayer_1 ?_
  refine r_bipush (v := 7) G dX7_readsLayer_4 (by decide) ?_
  refine r_aload_n G 0 dX7_readsLayer_6 rfl rfl ?_
  obtain ⟨v2, hv2, hyp⟩ := x_some hyp
  refine r_getv (C := RX7) (T := TX7) (N := 22) (ci := 7) G 20 (x_geti_e hv2) rfl uw_7 (Nat.le_of_ble_eq_true rfl) rfl ww_661 dX7_readsLayer_7 ?_
  refine r_imul G dX7_readsLayer_10 ?_
  refine r_bipush (v := 108) G dX7_readsLayer_11 (by decide) ?_
  refine r_ref hyp (fun a3 ha3 hz => ?_)
  clear hyp; subst ha3; have hyp := hz; clear hz
  obtain ⟨w4, hw4, hyp⟩ := x_some hyp
  refine r_iast G hw4 dX7_readsLayer_13 ?_
  refine r_aload_n G 0 dX7_readsLayer_14 rfl rfl ?_
  refine r_ldcs G 34 dX7_readsLayer_15 lit_34 ?_
  obtain ⟨o7, hyp⟩ := x_chk hyp
  refine r_callV (ι := xV) (T := TX7) (N := 22) (ci := 7) (b := a0) (rest := []) (As := [.ref (Γ.2.2.2.1 34)]) G hno tg_X7_says (fun r w' h => ct_X7_says (xhl G) _ _ _ r w' h) o7 hyp rfl ww_669 ww_671 ww_670 (by decide) (by decide) rfl rfl (xroom (Nat.le_of_ble_eq_true rfl)) dX7_readsLayer_17 (push := (fun _ => [])) (fun _ => rfl) (fun _ w5 hyp => ?_)
  refine r_aload_n G 0 dX7_readsLayer_20 rfl rfl ?_
  refine r_aload_n G 0 dX7_readsLayer_21 rfl rfl ?_
  obtain ⟨v8, hv8, hyp⟩ := x_some hyp
  refine r_getv (C := RX7) (T := TX7) (N := 22) (ci := 7) G 21 (x_geti_e hv8) rfl uw_7 (Nat.le_of_ble_eq_true rfl) rfl ww_660 dX7_readsLayer_22 ?_
  refine r_if_ne G 39 dX7_readsLayer_25 (by decide) hyp (fun c9 hyp => ?_) (fun c9 hyp => ?_)
  · exact nd_X7_readsLayer_J39 G hno a0 (some a0) w5 hyp
  · refine r_aload_n G 0 dX7_readsLayer_28 rfl rfl ?_
    refine r_iconst (v := 0) G dX7_readsLayer_29 (by decide) ?_
    obtain ⟨o36, hyp⟩ := x_chk hyp
    refine r_callV (ι := xI) (T := TX7) (N := 22) (ci := 7) (b := a0) (rest := [.ref a0]) (As := [.int 0]) G hno tg_X7_here (fun r w' h => ct_X7_here (xhl G) _ _ _ r w' h) o36 hyp rfl ww_662 ww_664 ww_663 (by decide) (by decide) rfl rfl (xroom (Nat.le_of_ble_eq_true rfl)) dX7_readsLayer_30 (push := (fun r35 => [.int r35, .ref a0])) (fun _ => rfl) (fun r35 w34 hyp => ?_)
    refine r_callS (ι := xI) (rest := [.ref a0]) (As := [.int r35]) G hno tg_X7_isMode (fun r w' h => ct_X7_isMode (xhl G) _ _ r w' h) hyp ww_583 ww_584 (by decide) (by decide) rfl rfl (xroom (Nat.le_of_ble_eq_true rfl)) dX7_readsLayer_33 (push := (fun r38 => [.int r38, .ref a0])) (fun _ => rfl) (fun r38 w37 hyp => ?_)
    refine r_if_ne G 43 dX7_readsLayer_36 (by decide) hyp (fun c39 hyp => ?_) (fun c39 hyp => ?_)
    · refine r_iconst (v := 0) G dX7_readsLayer_43 (by decide) ?_
      exact nd_X7_readsLayer_J44 G hno a0 0 (some a0) w37 hyp
    · exact nd_X7_readsLayer_J39 G hno a0 (some a0) w37 hyp
theorem tg_X7_readsOne : xTgt yX7_readsOne cX7_readsOne 2 none 0 := ⟨ww_769, ww_574, by decide, by decide +kernel, by decide +kernel⟩
section
variable {Γ : xG} {p : Program} {l : Launch} {e : Env} {s : State} {m : MethodId} {args : Array Value} {below : List Frame} {meth : Method} {c : Code} {rF : Unit ⊕ String} {wF : xW}
set_option maxRecDepth 100000 in
set_option maxHeartbeats 4000000 in
theorem nd_X7_readsOne_L111 (G : xCx Γ p l s m args meth c RX7 cX7_readsOne 2 none) (hno : ∀ x ∈ c.exceptionTable.toList, False) : ∀ (n : Nat) (a0 : Nat) (x1 : Int32) (w0 : xW), f_X7_readsOne_L111 n a0 x1 w0 = some (rF, wF) → xAW Γ p l e (xRm 6 (x_mc rF) (x_ms rF)) s m args below meth c 2 (xQm Γ below xV rF wF args s (x_mc rF) (x_ms rF)) w0 0 0 111 [(0, .ref a0), (1, .int x1)] [] := by
  intro n
  induction n with
  | zero =>
    intro a0 x1 w0 hyp
    cases (show (none : xO Unit) = some (rF, wF) from hyp)
  | succ n ih =>
    intro a0 x1 w0 hyp
    rw [f_X7_readsOne_L111] at hyp
    refine r_iload_n G 1 dX7_readsOne_111 rfl rfl ?_
    refine r_bipush (v := 6) G dX7_readsOne_112 (by decide) ?_
    refine r_icmp_ge G 129 dX7_readsOne_114 (by decide) hyp (fun c77 hyp => ?_) (fun c77 hyp => ?_)
    · refine r_aload_n G 0 dX7_readsOne_129 rfl rfl ?_
      refine r_ldcs G 36 dX7_readsOne_130 lit_36 ?_
      obtain ⟨o80, hyp⟩ := x_chk hyp
      refine r_callV (ι := xV) (T := TX7) (N := 22) (ci := 7) (b := a0) (rest := []) (As := [.ref (Γ.2.2.2.1 36)]) G hno tg_X7_says (fun r w' h => ct_X7_says (xhl G) _ _ _ r w' h) o80 hyp rfl ww_669 ww_671 ww_670 (by decide) (by decide) rfl rfl (xroom (Nat.le_of_ble_eq_true rfl)) dX7_readsOne_132 (push := (fun _ => [])) (fun _ => rfl) (fun _ w78 hyp => ?_)
      refine r_aload_n G 0 dX7_readsOne_135 rfl rfl ?_
      refine r_bipush (v := 6) G dX7_readsOne_136 (by decide) ?_
      refine r_iconst (v := 2) G dX7_readsOne_138 (by decide) ?_
      obtain ⟨o83, hyp⟩ := x_chk hyp
      refine r_callV (ι := xV) (T := TX7) (N := 22) (ci := 7) (b := a0) (rest := []) (As := [.int 6, .int 2]) G hno tg_X7_number (fun r w' h => ct_X7_number (xhl G) _ _ _ _ r w' h) o83 hyp rfl ww_672 ww_674 ww_673 (by decide) (by decide) rfl rfl (xroom (Nat.le_of_ble_eq_true rfl)) dX7_readsOne_139 (push := (fun _ => [])) (fun _ => rfl) (fun _ w81 hyp => ?_)
      refine r_goto G 280 dX7_readsOne_142 (by decide) ?_
      refine r_aload_n G 0 dX7_readsOne_280 rfl rfl ?_
      refine r_dup G dX7_readsOne_281 rfl ?_
      obtain ⟨v84, hv84, hyp⟩ := x_some hyp
      refine r_getv (C := RX7) (T := TX7) (N := 22) (ci := 7) G 20 (x_geti_e hv84) rfl uw_7 (Nat.le_of_ble_eq_true rfl) rfl ww_661 dX7_readsOne_282 ?_
      refine r_iconst (v := 1) G dX7_readsOne_285 (by decide) ?_
      refine r_iadd G dX7_readsOne_286 ?_
      obtain ⟨w85, hw85, hyp⟩ := x_some hyp
      refine r_putv (C := RX7) (T := TX7) (N := 22) (ci := 7) G tyX7 tyX7_ok nmX7 20 hw85 rfl uw_7 (Nat.le_of_ble_eq_true rfl) rfl ww_661 rfl rfl rfl dX7_readsOne_287 ?_
      exact r_vret G hyp (Nat.zero_le _) (Nat.zero_le _) dX7_readsOne_290
    · refine r_aload_n G 0 dX7_readsOne_117 rfl rfl ?_
      refine r_iload_n G 1 dX7_readsOne_118 rfl rfl ?_
      refine r_iconst (v := 1) G dX7_readsOne_119 (by decide) ?_
      obtain ⟨o88, hyp⟩ := x_chk hyp
      refine r_callV (ι := xV) (T := TX7) (N := 22) (ci := 7) (b := a0) (rest := []) (As := [.int x1, .int 1]) G hno tg_X7_number (fun r w' h => ct_X7_number (xhl G) _ _ _ _ r w' h) o88 hyp rfl ww_672 ww_674 ww_673 (by decide) (by decide) rfl rfl (xroom (Nat.le_of_ble_eq_true rfl)) dX7_readsOne_120 (push := (fun _ => [])) (fun _ => rfl) (fun _ w86 hyp => ?_)
      refine r_iinc (v := (x1 + 1)) (lv' := [(1, .int (x1 + 1)), (0, .ref a0)]) G 1 dX7_readsOne_123 rfl rfl (by decide) ⟨fun _ => rfl, fun _ => rfl, trivial⟩ rfl ?_
      refine r_goto G 111 dX7_readsOne_126 (by decide) ?_
      refine r_weak (lv' := [(0, .ref a0), (1, .int (x1 + 1))]) [1, 0] rfl ?_
      exact ih a0 (x1 + 1) w86 hyp
end
set_option maxRecDepth 100000 in
set_option maxHeartbeats 4000000 in
theorem ct_X7_readsOne {Γ : xG} {l : Launch} (hl : l.stackTraces = false) (a0 : Nat) (w0 : xW) (rF : Unit ⊕ String) (wF : xW) (hyp : f_X7_readsOne a0 w0 = some (rF, wF)) : xMet Γ l yX7_readsOne (xws yX7_readsOne cX7_readsOne 2 none) 6 xV [.ref a0] w0 rF wF (x_mc rF) (x_ms rF) := by
  refine xOfW tg_X7_readsOne hl (lv0 := [(0, .ref a0)]) (Nat.le_of_ble_eq_true rfl) rfl ?_
  intro p e s m below meth c G hno hin
  rw [f_X7_readsOne] at hyp
  refine r_aload_n G 0 dX7_readsOne_0 rfl rfl ?_
  refine r_iconst (v := 0) G dX7_readsOne_1 (by decide) ?_
  obtain ⟨o3, hyp⟩ := x_chk hyp
  refine r_callV (ι := xI) (T := TX7) (N := 22) (ci := 7) (b := a0) (rest := []) (As := [.int 0]) G hno tg_X7_here (fun r w' h => ct_X7_here (xhl G) _ _ _ r w' h) o3 hyp rfl ww_662 ww_664 ww_663 (by decide) (by decide) rfl rfl (xroom (Nat.le_of_ble_eq_true rfl)) dX7_readsOne_2 (push := (fun r2 => [.int r2])) (fun _ => rfl) (fun r2 w1 hyp => ?_)
  rcases x_if hyp with ⟨k4, hyp⟩ | ⟨k4, hyp⟩
  · refine r_tabK G 99 k4 252 dX7_readsOne_5 (by decide) (by decide) rfl (by decide) ?_
    refine r_aload_n G 0 dX7_readsOne_252 rfl rfl ?_
    refine r_bipush (v := 99) G dX7_readsOne_253 (by decide) ?_
    refine r_ldcs G 42 dX7_readsOne_255 lit_42 ?_
    obtain ⟨o7, hyp⟩ := x_chk hyp
    refine r_callV (ι := xV) (T := TX7) (N := 22) (ci := 7) (b := a0) (rest := []) (As := [.int 99, .ref (Γ.2.2.2.1 42)]) G hno tg_X7_begun (fun r w' h => ct_X7_begun (xhl G) _ _ _ _ r w' h) o7 hyp rfl ww_763 ww_765 ww_764 (by decide) (by decide) rfl rfl (xroom (Nat.le_of_ble_eq_true rfl)) dX7_readsOne_257 (push := (fun _ => [])) (fun _ => rfl) (fun _ w5 hyp => ?_)
    refine r_aload_n G 0 dX7_readsOne_260 rfl rfl ?_
    refine r_ldcs G 36 dX7_readsOne_261 lit_36 ?_
    obtain ⟨o10, hyp⟩ := x_chk hyp
    refine r_callV (ι := xV) (T := TX7) (N := 22) (ci := 7) (b := a0) (rest := []) (As := [.ref (Γ.2.2.2.1 36)]) G hno tg_X7_says (fun r w' h => ct_X7_says (xhl G) _ _ _ r w' h) o10 hyp rfl ww_669 ww_671 ww_670 (by decide) (by decide) rfl rfl (xroom (Nat.le_of_ble_eq_true rfl)) dX7_readsOne_263 (push := (fun _ => [])) (fun _ => rfl) (fun _ w8 hyp => ?_)
    refine r_aload_n G 0 dX7_readsOne_266 rfl rfl ?_
    refine r_iconst (v := 2) G dX7_readsOne_267 (by decide) ?_
    refine r_iconst (v := 2) G dX7_readsOne_268 (by decide) ?_
    obtain ⟨o13, hyp⟩ := x_chk hyp
    refine r_callV (ι := xV) (T := TX7) (N := 22) (ci := 7) (b := a0) (rest := []) (As := [.int 2, .int 2]) G hno tg_X7_number (fun r w' h => ct_X7_number (xhl G) _ _ _ _ r w' h) o13 hyp rfl ww_672 ww_674 ww_673 (by decide) (by decide) rfl rfl (xroom (Nat.le_of_ble_eq_true rfl)) dX7_readsOne_269 (push := (fun _ => [])) (fun _ => rfl) (fun _ w11 hyp => ?_)
    refine r_goto G 280 dX7_readsOne_272 (by decide) ?_
    refine r_aload_n G 0 dX7_readsOne_280 rfl rfl ?_
    refine r_dup G dX7_readsOne_281 rfl ?_
    obtain ⟨v14, hv14, hyp⟩ := x_some hyp
    refine r_getv (C := RX7) (T := TX7) (N := 22) (ci := 7) G 20 (x_geti_e hv14) rfl uw_7 (Nat.le_of_ble_eq_true rfl) rfl ww_661 dX7_readsOne_282 ?_
    refine r_iconst (v := 1) G dX7_readsOne_285 (by decide) ?_
    refine r_iadd G dX7_readsOne_286 ?_
    obtain ⟨w15, hw15, hyp⟩ := x_some hyp
    refine r_putv (C := RX7) (T := TX7) (N := 22) (ci := 7) G tyX7 tyX7_ok nmX7 20 hw15 rfl uw_7 (Nat.le_of_ble_eq_true rfl) rfl ww_661 rfl rfl rfl dX7_readsOne_287 ?_
    exact r_vret G hyp (Nat.zero_le _) (Nat.zero_le _) dX7_readsOne_290
  rcases x_if hyp with ⟨k16, hyp⟩ | ⟨k16, hyp⟩
  · refine r_tabK G 101 k16 145 dX7_readsOne_5 (by decide) (by decide) rfl (by decide) ?_
    refine r_aload_n G 0 dX7_readsOne_145 rfl rfl ?_
    refine r_bipush (v := 101) G dX7_readsOne_146 (by decide) ?_
    refine r_ldcs G 37 dX7_readsOne_148 lit_37 ?_
    obtain ⟨o19, hyp⟩ := x_chk hyp
    refine r_callV (ι := xV) (T := TX7) (N := 22) (ci := 7) (b := a0) (rest := []) (As := [.int 101, .ref (Γ.2.2.2.1 37)]) G hno tg_X7_begun (fun r w' h => ct_X7_begun (xhl G) _ _ _ _ r w' h) o19 hyp rfl ww_763 ww_765 ww_764 (by decide) (by decide) rfl rfl (xroom (Nat.le_of_ble_eq_true rfl)) dX7_readsOne_150 (push := (fun _ => [])) (fun _ => rfl) (fun _ w17 hyp => ?_)
    refine r_aload_n G 0 dX7_readsOne_153 rfl rfl ?_
    refine r_ldcs G 36 dX7_readsOne_154 lit_36 ?_
    obtain ⟨o22, hyp⟩ := x_chk hyp
    refine r_callV (ι := xV) (T := TX7) (N := 22) (ci := 7) (b := a0) (rest := []) (As := [.ref (Γ.2.2.2.1 36)]) G hno tg_X7_says (fun r w' h => ct_X7_says (xhl G) _ _ _ r w' h) o22 hyp rfl ww_669 ww_671 ww_670 (by decide) (by decide) rfl rfl (xroom (Nat.le_of_ble_eq_true rfl)) dX7_readsOne_156 (push := (fun _ => [])) (fun _ => rfl) (fun _ w20 hyp => ?_)
    refine r_aload_n G 0 dX7_readsOne_159 rfl rfl ?_
    refine r_iconst (v := 2) G dX7_readsOne_160 (by decide) ?_
    refine r_iconst (v := 1) G dX7_readsOne_161 (by decide) ?_
    obtain ⟨o25, hyp⟩ := x_chk hyp
    refine r_callV (ι := xV) (T := TX7) (N := 22) (ci := 7) (b := a0) (rest := []) (As := [.int 2, .int 1]) G hno tg_X7_number (fun r w' h => ct_X7_number (xhl G) _ _ _ _ r w' h) o25 hyp rfl ww_672 ww_674 ww_673 (by decide) (by decide) rfl rfl (xroom (Nat.le_of_ble_eq_true rfl)) dX7_readsOne_162 (push := (fun _ => [])) (fun _ => rfl) (fun _ w23 hyp => ?_)
    refine r_aload_n G 0 dX7_readsOne_165 rfl rfl ?_
    refine r_iconst (v := 3) G dX7_readsOne_166 (by decide) ?_
    refine r_iconst (v := 1) G dX7_readsOne_167 (by decide) ?_
    obtain ⟨o28, hyp⟩ := x_chk hyp
    refine r_callV (ι := xV) (T := TX7) (N := 22) (ci := 7) (b := a0) (rest := []) (As := [.int 3, .int 1]) G hno tg_X7_number (fun r w' h => ct_X7_number (xhl G) _ _ _ _ r w' h) o28 hyp rfl ww_672 ww_674 ww_673 (by decide) (by decide) rfl rfl (xroom (Nat.le_of_ble_eq_true rfl)) dX7_readsOne_168 (push := (fun _ => [])) (fun _ => rfl) (fun _ w26 hyp => ?_)
    refine r_aload_n G 0 dX7_readsOne_171 rfl rfl ?_
    refine r_ldcs G 36 dX7_readsOne_172 lit_36 ?_
    obtain ⟨o31, hyp⟩ := x_chk hyp
    refine r_callV (ι := xV) (T := TX7) (N := 22) (ci := 7) (b := a0) (rest := []) (As := [.ref (Γ.2.2.2.1 36)]) G hno tg_X7_says (fun r w' h => ct_X7_says (xhl G) _ _ _ r w' h) o31 hyp rfl ww_669 ww_671 ww_670 (by decide) (by decide) rfl rfl (xroom (Nat.le_of_ble_eq_true rfl)) dX7_readsOne_174 (push := (fun _ => [])) (fun _ => rfl) (fun _ w29 hyp => ?_)
    refine r_aload_n G 0 dX7_readsOne_177 rfl rfl ?_
    refine r_iconst (v := 4) G dX7_readsOne_178 (by decide) ?_
    refine r_iconst (v := 1) G dX7_readsOne_179 (by decide) ?_
    obtain ⟨o34, hyp⟩ := x_chk hyp
    refine r_callV (ι := xV) (T := TX7) (N := 22) (ci := 7) (b := a0) (rest := []) (As := [.int 4, .int 1]) G hno tg_X7_number (fun r w' h => ct_X7_number (xhl G) _ _ _ _ r w' h) o34 hyp rfl ww_672 ww_674 ww_673 (by decide) (by decide) rfl rfl (xroom (Nat.le_of_ble_eq_true rfl)) dX7_readsOne_180 (push := (fun _ => [])) (fun _ => rfl) (fun _ w32 hyp => ?_)
    refine r_goto G 280 dX7_readsOne_183 (by decide) ?_
    refine r_aload_n G 0 dX7_readsOne_280 rfl rfl ?_
    refine r_dup G dX7_readsOne_281 rfl ?_
    obtain ⟨v35, hv35, hyp⟩ := x_some hyp
    refine r_getv (C := RX7) (T := TX7) (N := 22) (ci := 7) G 20 (x_geti_e hv35) rfl uw_7 (Nat.le_of_ble_eq_true rfl) rfl ww_661 dX7_readsOne_282 ?_
    refine r_iconst (v := 1) G dX7_readsOne_285 (by decide) ?_
    refine r_iadd G dX7_readsOne_286 ?_
    obtain ⟨w36, hw36, hyp⟩ := x_some hyp
    refine r_putv (C := RX7) (T := TX7) (N := 22) (ci := 7) G tyX7 tyX7_ok nmX7 20 hw36 rfl uw_7 (Nat.le_of_ble_eq_true rfl) rfl ww_661 rfl rfl rfl dX7_readsOne_287 ?_
    exact r_vret G hyp (Nat.zero_le _) (Nat.zero_le _) dX7_readsOne_290
  rcases x_if hyp with ⟨k37, hyp⟩ | ⟨k37, hyp⟩
  · refine r_tabK G 104 k37 186 dX7_readsOne_5 (by decide) (by decide) rfl (by decide) ?_
    refine r_aload_n G 0 dX7_readsOne_186 rfl rfl ?_
    refine r_bipush (v := 104) G dX7_readsOne_187 (by decide) ?_
    refine r_ldcs G 38 dX7_readsOne_189 lit_38 ?_
    obtain ⟨o40, hyp⟩ := x_chk hyp
    refine r_callV (ι := xV) (T := TX7) (N := 22) (ci := 7) (b := a0) (rest := []) (As := [.int 104, .ref (Γ.2.2.2.1 38)]) G hno tg_X7_begun (fun r w' h => ct_X7_begun (xhl G) _ _ _ _ r w' h) o40 hyp rfl ww_763 ww_765 ww_764 (by decide) (by decide) rfl rfl (xroom (Nat.le_of_ble_eq_true rfl)) dX7_readsOne_191 (push := (fun _ => [])) (fun _ => rfl) (fun _ w38 hyp => ?_)
    refine r_goto G 280 dX7_readsOne_194 (by decide) ?_
    refine r_aload_n G 0 dX7_readsOne_280 rfl rfl ?_
    refine r_dup G dX7_readsOne_281 rfl ?_
    obtain ⟨v41, hv41, hyp⟩ := x_some hyp
    refine r_getv (C := RX7) (T := TX7) (N := 22) (ci := 7) G 20 (x_geti_e hv41) rfl uw_7 (Nat.le_of_ble_eq_true rfl) rfl ww_661 dX7_readsOne_282 ?_
    refine r_iconst (v := 1) G dX7_readsOne_285 (by decide) ?_
    refine r_iadd G dX7_readsOne_286 ?_
    obtain ⟨w42, hw42, hyp⟩ := x_some hyp
    refine r_putv (C := RX7) (T := TX7) (N := 22) (ci := 7) G tyX7 tyX7_ok nmX7 20 hw42 rfl uw_7 (Nat.le_of_ble_eq_true rfl) rfl ww_661 rfl rfl rfl dX7_readsOne_287 ?_
    exact r_vret G hyp (Nat.zero_le _) (Nat.zero_le _) dX7_readsOne_290
  rcases x_if hyp with ⟨k43, hyp⟩ | ⟨k43, hyp⟩
  · refine r_tabK G 108 k43 88 dX7_readsOne_5 (by decide) (by decide) rfl (by decide) ?_
    refine r_aload_n G 0 dX7_readsOne_88 rfl rfl ?_
    obtain ⟨o46, hyp⟩ := x_chk hyp
    refine r_callV (ι := xV) (T := TX7) (N := 22) (ci := 7) (b := a0) (rest := []) (As := []) G hno tg_X7_readsLayer (fun r w' h => ct_X7_readsLayer (xhl G) _ _ r w' h) o46 hyp rfl ww_766 ww_768 ww_767 (by decide) (by decide) rfl rfl (xroom (Nat.le_of_ble_eq_true rfl)) dX7_readsOne_89 (push := (fun _ => [])) (fun _ => rfl) (fun _ w44 hyp => ?_)
    refine r_goto G 280 dX7_readsOne_92 (by decide) ?_
    refine r_aload_n G 0 dX7_readsOne_280 rfl rfl ?_
    refine r_dup G dX7_readsOne_281 rfl ?_
    obtain ⟨v47, hv47, hyp⟩ := x_some hyp
    refine r_getv (C := RX7) (T := TX7) (N := 22) (ci := 7) G 20 (x_geti_e hv47) rfl uw_7 (Nat.le_of_ble_eq_true rfl) rfl ww_661 dX7_readsOne_282 ?_
    refine r_iconst (v := 1) G dX7_readsOne_285 (by decide) ?_
    refine r_iadd G dX7_readsOne_286 ?_
    obtain ⟨w48, hw48, hyp⟩ := x_some hyp
    refine r_putv (C := RX7) (T := TX7) (N := 22) (ci := 7) G tyX7 tyX7_ok nmX7 20 hw48 rfl uw_7 (Nat.le_of_ble_eq_true rfl) rfl ww_661 rfl rfl rfl dX7_readsOne_287 ?_
    exact r_vret G hyp (Nat.zero_le _) (Nat.zero_le _) dX7_readsOne_290
  rcases x_if hyp with ⟨k49, hyp⟩ | ⟨k49, hyp⟩
  · refine r_tabK G 109 k49 208 dX7_readsOne_5 (by decide) (by decide) rfl (by decide) ?_
    refine r_aload_n G 0 dX7_readsOne_208 rfl rfl ?_
    refine r_iconst (v := 1) G dX7_readsOne_209 (by decide) ?_
    obtain ⟨o52, hyp⟩ := x_chk hyp
    refine r_callV (ι := xI) (T := TX7) (N := 22) (ci := 7) (b := a0) (rest := []) (As := [.int 1]) G hno tg_X7_here (fun r w' h => ct_X7_here (xhl G) _ _ _ r w' h) o52 hyp rfl ww_662 ww_664 ww_663 (by decide) (by decide) rfl rfl (xroom (Nat.le_of_ble_eq_true rfl)) dX7_readsOne_210 (push := (fun r51 => [.int r51])) (fun _ => rfl) (fun r51 w50 hyp => ?_)
    refine r_bipush (v := 111) G dX7_readsOne_213 (by decide) ?_
    refine r_icmp_ne G 241 dX7_readsOne_215 (by decide) hyp (fun c53 hyp => ?_) (fun c53 hyp => ?_)
    · refine r_aload_n G 0 dX7_readsOne_241 rfl rfl ?_
      refine r_bipush (v := 109) G dX7_readsOne_242 (by decide) ?_
      refine r_ldcs G 41 dX7_readsOne_244 lit_41 ?_
      obtain ⟨o56, hyp⟩ := x_chk hyp
      refine r_callV (ι := xV) (T := TX7) (N := 22) (ci := 7) (b := a0) (rest := []) (As := [.int 109, .ref (Γ.2.2.2.1 41)]) G hno tg_X7_begun (fun r w' h => ct_X7_begun (xhl G) _ _ _ _ r w' h) o56 hyp rfl ww_763 ww_765 ww_764 (by decide) (by decide) rfl rfl (xroom (Nat.le_of_ble_eq_true rfl)) dX7_readsOne_246 (push := (fun _ => [])) (fun _ => rfl) (fun _ w54 hyp => ?_)
      refine r_goto G 280 dX7_readsOne_249 (by decide) ?_
      refine r_aload_n G 0 dX7_readsOne_280 rfl rfl ?_
      refine r_dup G dX7_readsOne_281 rfl ?_
      obtain ⟨v57, hv57, hyp⟩ := x_some hyp
      refine r_getv (C := RX7) (T := TX7) (N := 22) (ci := 7) G 20 (x_geti_e hv57) rfl uw_7 (Nat.le_of_ble_eq_true rfl) rfl ww_661 dX7_readsOne_282 ?_
      refine r_iconst (v := 1) G dX7_readsOne_285 (by decide) ?_
      refine r_iadd G dX7_readsOne_286 ?_
      obtain ⟨w58, hw58, hyp⟩ := x_some hyp
      refine r_putv (C := RX7) (T := TX7) (N := 22) (ci := 7) G tyX7 tyX7_ok nmX7 20 hw58 rfl uw_7 (Nat.le_of_ble_eq_true rfl) rfl ww_661 rfl rfl rfl dX7_readsOne_287 ?_
      exact r_vret G hyp (Nat.zero_le _) (Nat.zero_le _) dX7_readsOne_290
    · refine r_aload_n G 0 dX7_readsOne_218 rfl rfl ?_
      refine r_bipush (v := 111) G dX7_readsOne_219 (by decide) ?_
      refine r_ldcs G 40 dX7_readsOne_221 lit_40 ?_
      obtain ⟨o61, hyp⟩ := x_chk hyp
      refine r_callV (ι := xV) (T := TX7) (N := 22) (ci := 7) (b := a0) (rest := []) (As := [.int 111, .ref (Γ.2.2.2.1 40)]) G hno tg_X7_begun (fun r w' h => ct_X7_begun (xhl G) _ _ _ _ r w' h) o61 hyp rfl ww_763 ww_765 ww_764 (by decide) (by decide) rfl rfl (xroom (Nat.le_of_ble_eq_true rfl)) dX7_readsOne_223 (push := (fun _ => [])) (fun _ => rfl) (fun _ w59 hyp => ?_)
      refine r_aload_n G 0 dX7_readsOne_226 rfl rfl ?_
      refine r_ldcs G 36 dX7_readsOne_227 lit_36 ?_
      obtain ⟨o64, hyp⟩ := x_chk hyp
      refine r_callV (ι := xV) (T := TX7) (N := 22) (ci := 7) (b := a0) (rest := []) (As := [.ref (Γ.2.2.2.1 36)]) G hno tg_X7_says (fun r w' h => ct_X7_says (xhl G) _ _ _ r w' h) o64 hyp rfl ww_669 ww_671 ww_670 (by decide) (by decide) rfl rfl (xroom (Nat.le_of_ble_eq_true rfl)) dX7_readsOne_229 (push := (fun _ => [])) (fun _ => rfl) (fun _ w62 hyp => ?_)
      refine r_aload_n G 0 dX7_readsOne_232 rfl rfl ?_
      refine r_iconst (v := 2) G dX7_readsOne_233 (by decide) ?_
      refine r_iconst (v := 1) G dX7_readsOne_234 (by decide) ?_
      obtain ⟨o67, hyp⟩ := x_chk hyp
      refine r_callV (ι := xV) (T := TX7) (N := 22) (ci := 7) (b := a0) (rest := []) (As := [.int 2, .int 1]) G hno tg_X7_number (fun r w' h => ct_X7_number (xhl G) _ _ _ _ r w' h) o67 hyp rfl ww_672 ww_674 ww_673 (by decide) (by decide) rfl rfl (xroom (Nat.le_of_ble_eq_true rfl)) dX7_readsOne_235 (push := (fun _ => [])) (fun _ => rfl) (fun _ w65 hyp => ?_)
      refine r_goto G 280 dX7_readsOne_238 (by decide) ?_
      refine r_aload_n G 0 dX7_readsOne_280 rfl rfl ?_
      refine r_dup G dX7_readsOne_281 rfl ?_
      obtain ⟨v68, hv68, hyp⟩ := x_some hyp
      refine r_getv (C := RX7) (T := TX7) (N := 22) (ci := 7) G 20 (x_geti_e hv68) rfl uw_7 (Nat.le_of_ble_eq_true rfl) rfl ww_661 dX7_readsOne_282 ?_
      refine r_iconst (v := 1) G dX7_readsOne_285 (by decide) ?_
      refine r_iadd G dX7_readsOne_286 ?_
      obtain ⟨w69, hw69, hyp⟩ := x_some hyp
      refine r_putv (C := RX7) (T := TX7) (N := 22) (ci := 7) G tyX7 tyX7_ok nmX7 20 hw69 rfl uw_7 (Nat.le_of_ble_eq_true rfl) rfl ww_661 rfl rfl rfl dX7_readsOne_287 ?_
      exact r_vret G hyp (Nat.zero_le _) (Nat.zero_le _) dX7_readsOne_290
  rcases x_if hyp with ⟨k70, hyp⟩ | ⟨k70, hyp⟩
  · refine r_tabK G 112 k70 95 dX7_readsOne_5 (by decide) (by decide) rfl (by decide) ?_
    refine r_aload_n G 0 dX7_readsOne_95 rfl rfl ?_
    refine r_bipush (v := 112) G dX7_readsOne_96 (by decide) ?_
    refine r_ldcs G 35 dX7_readsOne_98 lit_35 ?_
    obtain ⟨o73, hyp⟩ := x_chk hyp
    refine r_callV (ι := xV) (T := TX7) (N := 22) (ci := 7) (b := a0) (rest := []) (As := [.int 112, .ref (Γ.2.2.2.1 35)]) G hno tg_X7_begun (fun r w' h => ct_X7_begun (xhl G) _ _ _ _ r w' h) o73 hyp rfl ww_763 ww_765 ww_764 (by decide) (by decide) rfl rfl (xroom (Nat.le_of_ble_eq_true rfl)) dX7_readsOne_100 (push := (fun _ => [])) (fun _ => rfl) (fun _ w71 hyp => ?_)
    refine r_aload_n G 0 dX7_readsOne_103 rfl rfl ?_
    refine r_ldcs G 36 dX7_readsOne_104 lit_36 ?_
    obtain ⟨o76, hyp⟩ := x_chk hyp
    refine r_callV (ι := xV) (T := TX7) (N := 22) (ci := 7) (b := a0) (rest := []) (As := [.ref (Γ.2.2.2.1 36)]) G hno tg_X7_says (fun r w' h => ct_X7_says (xhl G) _ _ _ r w' h) o76 hyp rfl ww_669 ww_671 ww_670 (by decide) (by decide) rfl rfl (xroom (Nat.le_of_ble_eq_true rfl)) dX7_readsOne_106 (push := (fun _ => [])) (fun _ => rfl) (fun _ w74 hyp => ?_)
    refine r_iconst (v := 2) G dX7_readsOne_109 (by decide) ?_
    refine r_istore_n (lv' := [(1, .int 2), (0, .ref a0)]) G dX7_readsOne_110 rfl (by decide) ⟨fun _ => rfl, trivial⟩ rfl ?_
    refine r_weak (lv' := [(0, .ref a0), (1, .int 2)]) [1, 0] rfl ?_
    exact nd_X7_readsOne_L111 G hno xfuel a0 2 w74 hyp
  rcases x_if hyp with ⟨k89, hyp⟩ | ⟨k89, hyp⟩
  · refine r_tabK G 115 k89 197 dX7_readsOne_5 (by decide) (by decide) rfl (by decide) ?_
    refine r_aload_n G 0 dX7_readsOne_197 rfl rfl ?_
    refine r_bipush (v := 115) G dX7_readsOne_198 (by decide) ?_
    refine r_ldcs G 39 dX7_readsOne_200 lit_39 ?_
    obtain ⟨o92, hyp⟩ := x_chk hyp
    refine r_callV (ι := xV) (T := TX7) (N := 22) (ci := 7) (b := a0) (rest := []) (As := [.int 115, .ref (Γ.2.2.2.1 39)]) G hno tg_X7_begun (fun r w' h => ct_X7_begun (xhl G) _ _ _ _ r w' h) o92 hyp rfl ww_763 ww_765 ww_764 (by decide) (by decide) rfl rfl (xroom (Nat.le_of_ble_eq_true rfl)) dX7_readsOne_202 (push := (fun _ => [])) (fun _ => rfl) (fun _ w90 hyp => ?_)
    refine r_goto G 280 dX7_readsOne_205 (by decide) ?_
    refine r_aload_n G 0 dX7_readsOne_280 rfl rfl ?_
    refine r_dup G dX7_readsOne_281 rfl ?_
    obtain ⟨v93, hv93, hyp⟩ := x_some hyp
    refine r_getv (C := RX7) (T := TX7) (N := 22) (ci := 7) G 20 (x_geti_e hv93) rfl uw_7 (Nat.le_of_ble_eq_true rfl) rfl ww_661 dX7_readsOne_282 ?_
    refine r_iconst (v := 1) G dX7_readsOne_285 (by decide) ?_
    refine r_iadd G dX7_readsOne_286 ?_
    obtain ⟨w94, hw94, hyp⟩ := x_some hyp
    refine r_putv (C := RX7) (T := TX7) (N := 22) (ci := 7) G tyX7 tyX7_ok nmX7 20 hw94 rfl uw_7 (Nat.le_of_ble_eq_true rfl) rfl ww_661 rfl rfl rfl dX7_readsOne_287 ?_
    exact r_vret G hyp (Nat.zero_le _) (Nat.zero_le _) dX7_readsOne_290
  refine r_tabD G [99, 101, 104, 108, 109, 112, 115] (by intro k hk; simp only [List.mem_cons, List.not_mem_nil, or_false] at hk; rcases hk with rfl | rfl | rfl | rfl | rfl | rfl | rfl <;> assumption) 275 dX7_readsOne_5 (by decide) (by decide) ?_
  refine r_aload_n G 0 dX7_readsOne_275 rfl rfl ?_
  refine r_iconst (v := 1) G dX7_readsOne_276 (by decide) ?_
  obtain ⟨w95, hw95, hyp⟩ := x_some hyp
  refine r_putv (C := RX7) (T := TX7) (N := 22) (ci := 7) G tyX7 tyX7_ok nmX7 21 hw95 rfl uw_7 (Nat.le_of_ble_eq_true rfl) rfl ww_660 rfl (by decide) (by decide) dX7_readsOne_277 ?_
  refine r_aload_n G 0 dX7_readsOne_280 rfl rfl ?_
  refine r_dup G dX7_readsOne_281 rfl ?_
  obtain ⟨v96, hv96, hyp⟩ := x_some hyp
  refine r_getv (C := RX7) (T := TX7) (N := 22) (ci := 7) G 20 (x_geti_e hv96) rfl uw_7 (Nat.le_of_ble_eq_true rfl) rfl ww_661 dX7_readsOne_282 ?_
  refine r_iconst (v := 1) G dX7_readsOne_285 (by decide) ?_
  refine r_iadd G dX7_readsOne_286 ?_
  obtain ⟨w97, hw97, hyp⟩ := x_some hyp
  refine r_putv (C := RX7) (T := TX7) (N := 22) (ci := 7) G tyX7 tyX7_ok nmX7 20 hw97 rfl uw_7 (Nat.le_of_ble_eq_true rfl) rfl ww_661 rfl rfl rfl dX7_readsOne_287 ?_
  exact r_vret G hyp (Nat.zero_le _) (Nat.zero_le _) dX7_readsOne_290
theorem tg_X7_removeLayer : xTgt yX7_removeLayer cX7_removeLayer 2 (some .int) 1 := ⟨ww_773, ww_574, by decide, by decide +kernel, by decide +kernel⟩
section
variable {Γ : xG} {p : Program} {l : Launch} {e : Env} {s : State} {m : MethodId} {args : Array Value} {below : List Frame} {meth : Method} {c : Code} {rF : Int32 ⊕ String} {wF : xW}
end
set_option maxRecDepth 100000 in
set_option maxHeartbeats 4000000 in
theorem ct_X7_removeLayer {Γ : xG} {l : Launch} (hl : l.stackTraces = false) (a0 : Nat) (x1 : Int32) (w0 : xW) (rF : Int32 ⊕ String) (wF : xW) (hyp : f_X7_removeLayer a0 x1 w0 = some (rF, wF)) : xMet Γ l yX7_removeLayer (xws yX7_removeLayer cX7_removeLayer 2 (some .int)) 3 xI [.ref a0, .int x1] w0 rF wF (x_mc rF) (x_ms rF) := by
  refine xOfW tg_X7_removeLayer hl (lv0 := [(0, .ref a0), (1, .int x1)]) (Nat.le_of_ble_eq_true rfl) rfl ?_
  intro p e s m below meth c G hno hin
  rw [f_X7_removeLayer] at hyp
  refine r_aload_n G 0 dX7_removeLayer_0 rfl rfl ?_
  obtain ⟨o3, hyp⟩ := x_chk hyp
  refine r_callV (ι := xV) (T := TX7) (N := 22) (ci := 7) (b := a0) (rest := []) (As := []) G hno tg_X7_remembers (fun r w' h => ct_X7_remembers (xhl G) _ _ r w' h) o3 hyp rfl ww_604 ww_606 ww_605 (by decide) (by decide) rfl rfl (xroom (Nat.le_of_ble_eq_true rfl)) dX7_removeLayer_1 (push := (fun _ => [])) (fun _ => rfl) (fun _ w1 hyp => ?_)
  refine r_aload_n G 0 dX7_removeLayer_4 rfl rfl ?_
  refine r_aload_n G 0 dX7_removeLayer_5 rfl rfl ?_
  refine r_iload_n G 1 dX7_removeLayer_6 rfl rfl ?_
  obtain ⟨o6, hyp⟩ := x_chk hyp
  refine r_callV (ι := xI) (T := TX7) (N := 22) (ci := 7) (b := a0) (rest := [.ref a0]) (As := [.int x1]) G hno tg_X7_drops (fun r w' h => ct_X7_drops (xhl G) _ _ _ r w' h) o6 hyp rfl ww_770 ww_772 ww_771 (by decide) (by decide) rfl rfl (xroom (Nat.le_of_ble_eq_true rfl)) dX7_removeLayer_7 (push := (fun r5 => [.int r5, .ref a0])) (fun _ => rfl) (fun r5 w4 hyp => ?_)
  obtain ⟨o9, hyp⟩ := x_chk hyp
  refine r_callV (ι := xI) (T := TX7) (N := 22) (ci := 7) (b := a0) (rest := []) (As := [.int r5]) G hno tg_X7_ends (fun r w' h => ct_X7_ends (xhl G) _ _ _ r w' h) o9 hyp rfl ww_610 ww_612 ww_611 (by decide) (by decide) rfl rfl (xroom (Nat.le_of_ble_eq_true rfl)) dX7_removeLayer_10 (push := (fun r8 => [.int r8])) (fun _ => rfl) (fun r8 w7 hyp => ?_)
  exact r_iret G hyp rfl (Nat.zero_le _) (Nat.zero_le _) dX7_removeLayer_13
theorem tg_X7_restore : xTgt yX7_restore cX7_restore 2 (some .int) 0 := ⟨ww_775, ww_574, by decide, by decide +kernel, by decide +kernel⟩
section
variable {Γ : xG} {p : Program} {l : Launch} {e : Env} {s : State} {m : MethodId} {args : Array Value} {below : List Frame} {meth : Method} {c : Code} {rF : Int32 ⊕ String} {wF : xW}
set_option maxRecDepth 100000 in
set_option maxHeartbeats 4000000 in
theorem nd_X7_restore_L20 (G : xCx Γ p l s m args meth c RX7 cX7_restore 2 (some .int)) (hno : ∀ x ∈ c.exceptionTable.toList, False) : ∀ (n : Nat) (a0 : Nat) (x1 : Int32) (w0 : xW), f_X7_restore_L20 n a0 x1 w0 = some (rF, wF) → xAW Γ p l e (xRm 1 (x_mc rF) (x_ms rF)) s m args below meth c 2 (xQm Γ below xI rF wF args s (x_mc rF) (x_ms rF)) w0 0 0 20 [(0, .ref a0), (1, .int x1)] [] := by
  intro n
  induction n with
  | zero =>
    intro a0 x1 w0 hyp
    cases (show (none : xO Int32) = some (rF, wF) from hyp)
  | succ n ih =>
    intro a0 x1 w0 hyp
    rw [f_X7_restore_L20] at hyp
    refine r_iload_n G 1 dX7_restore_20 rfl rfl ?_
    refine r_sipush (v := 303) G dX7_restore_21 (by decide) ?_
    refine r_icmp_ge G 45 dX7_restore_24 (by decide) hyp (fun c4 hyp => ?_) (fun c4 hyp => ?_)
    · refine r_aload_n G 0 dX7_restore_45 rfl rfl ?_
      refine r_iconst (v := 0) G dX7_restore_46 (by decide) ?_
      obtain ⟨w5, hw5, hyp⟩ := x_some hyp
      refine r_putv (C := RX7) (T := TX7) (N := 22) (ci := 7) G tyX7 tyX7_ok nmX7 5 hw5 rfl uw_7 (Nat.le_of_ble_eq_true rfl) rfl ww_592 rfl rfl rfl dX7_restore_47 ?_
      refine r_aload_n G 0 dX7_restore_50 rfl rfl ?_
      obtain ⟨v6, hv6, hyp⟩ := x_some hyp
      refine r_getv (C := RX7) (T := TX7) (N := 22) (ci := 7) G 1 (x_getr_e hv6) rfl uw_7 (Nat.le_of_ble_eq_true rfl) rfl ww_561 dX7_restore_51 ?_
      refine r_iconst (v := 0) G dX7_restore_54 (by decide) ?_
      refine r_ref hyp (fun a7 ha7 hz => ?_)
      clear hyp; subst ha7; have hyp := hz; clear hz
      obtain ⟨v8, hv8, hyp⟩ := x_some hyp
      refine r_iald G hv8 dX7_restore_55 ?_
      exact r_iret G hyp rfl (Nat.zero_le _) (Nat.zero_le _) dX7_restore_56
    · refine r_aload_n G 0 dX7_restore_27 rfl rfl ?_
      obtain ⟨v9, hv9, hyp⟩ := x_some hyp
      refine r_getv (C := RX7) (T := TX7) (N := 22) (ci := 7) G 1 (x_getr_e hv9) rfl uw_7 (Nat.le_of_ble_eq_true rfl) rfl ww_561 dX7_restore_28 ?_
      refine r_iload_n G 1 dX7_restore_31 rfl rfl ?_
      refine r_aload_n G 0 dX7_restore_32 rfl rfl ?_
      obtain ⟨v10, hv10, hyp⟩ := x_some hyp
      refine r_getv (C := RX7) (T := TX7) (N := 22) (ci := 7) G 3 (x_getr_e hv10) rfl uw_7 (Nat.le_of_ble_eq_true rfl) rfl ww_563 dX7_restore_33 ?_
      refine r_iload_n G 1 dX7_restore_36 rfl rfl ?_
      refine r_ref hyp (fun a11 ha11 hz => ?_)
      clear hyp; subst ha11; have hyp := hz; clear hz
      obtain ⟨v12, hv12, hyp⟩ := x_some hyp
      refine r_iald G hv12 dX7_restore_37 ?_
      refine r_ref hyp (fun a13 ha13 hz => ?_)
      clear hyp; subst ha13; have hyp := hz; clear hz
      obtain ⟨w14, hw14, hyp⟩ := x_some hyp
      refine r_iast G hw14 dX7_restore_38 ?_
      refine r_iinc (v := (x1 + 1)) (lv' := [(1, .int (x1 + 1)), (0, .ref a0)]) G 1 dX7_restore_39 rfl rfl (by decide) ⟨fun _ => rfl, fun _ => rfl, trivial⟩ rfl ?_
      refine r_goto G 20 dX7_restore_42 (by decide) ?_
      refine r_weak (lv' := [(0, .ref a0), (1, .int (x1 + 1))]) [1, 0] rfl ?_
      exact ih a0 (x1 + 1) w14 hyp
end
set_option maxRecDepth 100000 in
set_option maxHeartbeats 4000000 in
theorem ct_X7_restore {Γ : xG} {l : Launch} (hl : l.stackTraces = false) (a0 : Nat) (w0 : xW) (rF : Int32 ⊕ String) (wF : xW) (hyp : f_X7_restore a0 w0 = some (rF, wF)) : xMet Γ l yX7_restore (xws yX7_restore cX7_restore 2 (some .int)) 1 xI [.ref a0] w0 rF wF (x_mc rF) (x_ms rF) := by
  refine xOfW tg_X7_restore hl (lv0 := [(0, .ref a0)]) (Nat.le_of_ble_eq_true rfl) rfl ?_
  intro p e s m below meth c G hno hin
  rw [f_X7_restore] at hyp
  refine r_aload_n G 0 dX7_restore_0 rfl rfl ?_
  refine r_iconst (v := 0) G dX7_restore_1 (by decide) ?_
  obtain ⟨w1, hw1, hyp⟩ := x_some hyp
  refine r_putv (C := RX7) (T := TX7) (N := 22) (ci := 7) G tyX7 tyX7_ok nmX7 0 hw1 rfl uw_7 (Nat.le_of_ble_eq_true rfl) rfl ww_594 rfl rfl rfl dX7_restore_2 ?_
  refine r_aload_n G 0 dX7_restore_5 rfl rfl ?_
  obtain ⟨v2, hv2, hyp⟩ := x_some hyp
  refine r_getv (C := RX7) (T := TX7) (N := 22) (ci := 7) G 6 (x_geti_e hv2) rfl uw_7 (Nat.le_of_ble_eq_true rfl) rfl ww_774 dX7_restore_6 ?_
  refine r_if_ne G 18 dX7_restore_9 (by decide) hyp (fun c3 hyp => ?_) (fun c3 hyp => ?_)
  · refine r_iconst (v := 0) G dX7_restore_18 (by decide) ?_
    refine r_istore_n (lv' := [(1, .int 0), (0, .ref a0)]) G dX7_restore_19 rfl (by decide) ⟨fun _ => rfl, trivial⟩ rfl ?_
    refine r_weak (lv' := [(0, .ref a0), (1, .int 0)]) [1, 0] rfl ?_
    exact nd_X7_restore_L20 G hno xfuel a0 0 w1 hyp
  · refine r_aload_n G 0 dX7_restore_12 rfl rfl ?_
    refine r_iconst (v := 1) G dX7_restore_13 (by decide) ?_
    obtain ⟨o17, hyp⟩ := x_chk hyp
    refine r_callV (ι := xI) (T := TX7) (N := 22) (ci := 7) (b := a0) (rest := []) (As := [.int 1]) G hno tg_X7_fails (fun r w' h => ct_X7_fails (xhl G) _ _ _ r w' h) o17 hyp rfl ww_596 ww_598 ww_597 (by decide) (by decide) rfl rfl (xroom (Nat.le_of_ble_eq_true rfl)) dX7_restore_14 (push := (fun r16 => [.int r16])) (fun _ => rfl) (fun r16 w15 hyp => ?_)
    exact r_iret G hyp rfl (Nat.zero_le _) (Nat.zero_le _) dX7_restore_17
theorem tg_X7_runCommands : xTgt yX7_runCommands cX7_runCommands 3 (some .int) 0 := ⟨ww_782, ww_574, by decide, by decide +kernel, by decide +kernel⟩
section
variable {Γ : xG} {p : Program} {l : Launch} {e : Env} {s : State} {m : MethodId} {args : Array Value} {below : List Frame} {meth : Method} {c : Code} {rF : Int32 ⊕ String} {wF : xW}
set_option maxRecDepth 100000 in
set_option maxHeartbeats 4000000 in
theorem nd_X7_runCommands_L125 (G : xCx Γ p l s m args meth c RX7 cX7_runCommands 3 (some .int)) (hno : ∀ x ∈ c.exceptionTable.toList, False) : ∀ (n : Nat) (a0 : Nat) (x1 : Int32) (x2 : Int32) (w0 : xW), f_X7_runCommands_L125 n a0 x1 x2 w0 = some (rF, wF) → xAW Γ p l e (xRm 7 (x_mc rF) (x_ms rF)) s m args below meth c 3 (xQm Γ below xI rF wF args s (x_mc rF) (x_ms rF)) w0 0 0 125 [(0, .ref a0), (1, .int x1), (2, .int x2)] [] := by
  intro n
  induction n with
  | zero =>
    intro a0 x1 x2 w0 hyp
    cases (show (none : xO Int32) = some (rF, wF) from hyp)
  | succ n ih =>
    intro a0 x1 x2 w0 hyp
    rw [f_X7_runCommands_L125] at hyp
    refine r_iload_n G 2 dX7_runCommands_125 rfl rfl ?_
    refine r_sipush (v := 303) G dX7_runCommands_126 (by decide) ?_
    refine r_icmp_ge G 150 dX7_runCommands_129 (by decide) hyp (fun c35 hyp => ?_) (fun c35 hyp => ?_)
    · refine r_aload_n G 0 dX7_runCommands_150 rfl rfl ?_
      refine r_iload_n G 1 dX7_runCommands_151 rfl rfl ?_
      obtain ⟨w36, hw36, hyp⟩ := x_some hyp
      refine r_putv (C := RX7) (T := TX7) (N := 22) (ci := 7) G tyX7 tyX7_ok nmX7 16 hw36 rfl uw_7 (Nat.le_of_ble_eq_true rfl) rfl ww_572 rfl rfl rfl dX7_runCommands_152 ?_
      refine r_aload_n G 0 dX7_runCommands_155 rfl rfl ?_
      refine r_iconst (v := 2) G dX7_runCommands_156 (by decide) ?_
      obtain ⟨o39, hyp⟩ := x_chk hyp
      refine r_callV (ι := xI) (T := TX7) (N := 22) (ci := 7) (b := a0) (rest := []) (As := [.int 2]) G hno tg_X7_fails (fun r w' h => ct_X7_fails (xhl G) _ _ _ r w' h) o39 hyp rfl ww_596 ww_598 ww_597 (by decide) (by decide) rfl rfl (xroom (Nat.le_of_ble_eq_true rfl)) dX7_runCommands_157 (push := (fun r38 => [.int r38])) (fun _ => rfl) (fun r38 w37 hyp => ?_)
      exact r_iret G hyp rfl (Nat.zero_le _) (Nat.zero_le _) dX7_runCommands_160
    · refine r_aload_n G 0 dX7_runCommands_132 rfl rfl ?_
      obtain ⟨v40, hv40, hyp⟩ := x_some hyp
      refine r_getv (C := RX7) (T := TX7) (N := 22) (ci := 7) G 1 (x_getr_e hv40) rfl uw_7 (Nat.le_of_ble_eq_true rfl) rfl ww_561 dX7_runCommands_133 ?_
      refine r_iload_n G 2 dX7_runCommands_136 rfl rfl ?_
      refine r_aload_n G 0 dX7_runCommands_137 rfl rfl ?_
      obtain ⟨v41, hv41, hyp⟩ := x_some hyp
      refine r_getv (C := RX7) (T := TX7) (N := 22) (ci := 7) G 2 (x_getr_e hv41) rfl uw_7 (Nat.le_of_ble_eq_true rfl) rfl ww_562 dX7_runCommands_138 ?_
      refine r_iload_n G 2 dX7_runCommands_141 rfl rfl ?_
      refine r_ref hyp (fun a42 ha42 hz => ?_)
      clear hyp; subst ha42; have hyp := hz; clear hz
      obtain ⟨v43, hv43, hyp⟩ := x_some hyp
      refine r_iald G hv43 dX7_runCommands_142 ?_
      refine r_ref hyp (fun a44 ha44 hz => ?_)
      clear hyp; subst ha44; have hyp := hz; clear hz
      obtain ⟨w45, hw45, hyp⟩ := x_some hyp
      refine r_iast G hw45 dX7_runCommands_143 ?_
      refine r_iinc (v := (x2 + 1)) (lv' := [(2, .int (x2 + 1)), (0, .ref a0), (1, .int x1)]) G 2 dX7_runCommands_144 rfl rfl (by decide) ⟨fun _ => rfl, fun _ => rfl, fun _ => rfl, trivial⟩ rfl ?_
      refine r_goto G 125 dX7_runCommands_147 (by decide) ?_
      refine r_weak (lv' := [(0, .ref a0), (1, .int x1), (2, .int (x2 + 1))]) [1, 2, 0] rfl ?_
      exact ih a0 x1 (x2 + 1) w45 hyp
set_option maxRecDepth 100000 in
set_option maxHeartbeats 4000000 in
theorem nd_X7_runCommands_L104 (G : xCx Γ p l s m args meth c RX7 cX7_runCommands 3 (some .int)) (hno : ∀ x ∈ c.exceptionTable.toList, False) : ∀ (n : Nat) (a0 : Nat) (x1 : Int32) (w0 : xW), f_X7_runCommands_L104 n a0 x1 w0 = some (rF, wF) → xAW Γ p l e (xRm 7 (x_mc rF) (x_ms rF)) s m args below meth c 3 (xQm Γ below xI rF wF args s (x_mc rF) (x_ms rF)) w0 0 0 104 [(0, .ref a0), (1, .int x1)] [] := by
  intro n
  induction n with
  | zero =>
    intro a0 x1 w0 hyp
    cases (show (none : xO Int32) = some (rF, wF) from hyp)
  | succ n ih =>
    intro a0 x1 w0 hyp
    rw [f_X7_runCommands_L104] at hyp
    refine r_iload_n G 1 dX7_runCommands_104 rfl rfl ?_
    refine r_aload_n G 0 dX7_runCommands_105 rfl rfl ?_
    obtain ⟨v25, hv25, hyp⟩ := x_some hyp
    refine r_getv (C := RX7) (T := TX7) (N := 22) (ci := 7) G 20 (x_geti_e hv25) rfl uw_7 (Nat.le_of_ble_eq_true rfl) rfl ww_661 dX7_runCommands_106 ?_
    refine r_icmp_ge G 167 dX7_runCommands_109 (by decide) hyp (fun c26 hyp => ?_) (fun c26 hyp => ?_)
    · refine r_aload_n G 0 dX7_runCommands_167 rfl rfl ?_
      refine r_aload_n G 0 dX7_runCommands_168 rfl rfl ?_
      obtain ⟨v27, hv27, hyp⟩ := x_some hyp
      refine r_getv (C := RX7) (T := TX7) (N := 22) (ci := 7) G 20 (x_geti_e hv27) rfl uw_7 (Nat.le_of_ble_eq_true rfl) rfl ww_661 dX7_runCommands_169 ?_
      obtain ⟨o30, hyp⟩ := x_chk hyp
      refine r_callV (ι := xI) (T := TX7) (N := 22) (ci := 7) (b := a0) (rest := []) (As := [.int v27]) G hno tg_X7_changed (fun r w' h => ct_X7_changed (xhl G) _ _ _ r w' h) o30 hyp rfl ww_599 ww_601 ww_600 (by decide) (by decide) rfl rfl (xroom (Nat.le_of_ble_eq_true rfl)) dX7_runCommands_172 (push := (fun r29 => [.int r29])) (fun _ => rfl) (fun r29 w28 hyp => ?_)
      exact r_iret G hyp rfl (Nat.zero_le _) (Nat.zero_le _) dX7_runCommands_175
    · refine r_aload_n G 0 dX7_runCommands_112 rfl rfl ?_
      refine r_iload_n G 1 dX7_runCommands_113 rfl rfl ?_
      obtain ⟨o33, hyp⟩ := x_chk hyp
      refine r_callV (ι := xI) (T := TX7) (N := 22) (ci := 7) (b := a0) (rest := []) (As := [.int x1]) G hno tg_X7_does (fun r w' h => ct_X7_does (xhl G) _ _ _ r w' h) o33 hyp rfl ww_779 ww_781 ww_780 (by decide) (by decide) rfl rfl (xroom (Nat.le_of_ble_eq_true rfl)) dX7_runCommands_114 (push := (fun r32 => [.int r32])) (fun _ => rfl) (fun r32 w31 hyp => ?_)
      refine r_if_ne G 123 dX7_runCommands_117 (by decide) hyp (fun c34 hyp => ?_) (fun c34 hyp => ?_)
      · refine r_iconst (v := 0) G dX7_runCommands_123 (by decide) ?_
        refine r_istore_n (lv' := [(2, .int 0), (0, .ref a0), (1, .int x1)]) G dX7_runCommands_124 rfl (by decide) ⟨fun _ => rfl, fun _ => rfl, trivial⟩ rfl ?_
        refine r_weak (lv' := [(0, .ref a0), (1, .int x1), (2, .int 0)]) [1, 2, 0] rfl ?_
        exact nd_X7_runCommands_L125 G hno xfuel a0 x1 0 w31 hyp
      · refine r_goto G 161 dX7_runCommands_120 (by decide) ?_
        refine r_iinc (v := (x1 + 1)) (lv' := [(1, .int (x1 + 1)), (0, .ref a0)]) G 1 dX7_runCommands_161 rfl rfl (by decide) ⟨fun _ => rfl, fun _ => rfl, trivial⟩ rfl ?_
        refine r_goto G 104 dX7_runCommands_164 (by decide) ?_
        refine r_weak (lv' := [(0, .ref a0), (1, .int (x1 + 1))]) [1, 0] rfl ?_
        exact ih a0 (x1 + 1) w31 hyp
set_option maxRecDepth 100000 in
set_option maxHeartbeats 4000000 in
theorem nd_X7_runCommands_J70 (G : xCx Γ p l s m args meth c RX7 cX7_runCommands 3 (some .int)) (hno : ∀ x ∈ c.exceptionTable.toList, False) (a0 : Nat) (w0 : xW) (hyp : f_X7_runCommands_J70 a0 w0 = some (rF, wF)) : xAW Γ p l e (xRm 7 (x_mc rF) (x_ms rF)) s m args below meth c 3 (xQm Γ below xI rF wF args s (x_mc rF) (x_ms rF)) w0 0 0 70 [(0, .ref a0)] [] := by
  rw [f_X7_runCommands_J70] at hyp
  refine r_aload_n G 0 dX7_runCommands_70 rfl rfl ?_
  obtain ⟨v15, hv15, hyp⟩ := x_some hyp
  refine r_getv (C := RX7) (T := TX7) (N := 22) (ci := 7) G 21 (x_geti_e hv15) rfl uw_7 (Nat.le_of_ble_eq_true rfl) rfl ww_660 dX7_runCommands_71 ?_
  refine r_if_ne G 88 dX7_runCommands_74 (by decide) hyp (fun c16 hyp => ?_) (fun c16 hyp => ?_)
  · refine r_aload_n G 0 dX7_runCommands_88 rfl rfl ?_
    refine r_aload_n G 0 dX7_runCommands_89 rfl rfl ?_
    obtain ⟨v17, hv17, hyp⟩ := x_some hyp
    refine r_getv (C := RX7) (T := TX7) (N := 22) (ci := 7) G 18 (x_geti_e hv17) rfl uw_7 (Nat.le_of_ble_eq_true rfl) rfl ww_657 dX7_runCommands_90 ?_
    obtain ⟨w18, hw18, hyp⟩ := x_some hyp
    refine r_putv (C := RX7) (T := TX7) (N := 22) (ci := 7) G tyX7 tyX7_ok nmX7 15 hw18 rfl uw_7 (Nat.le_of_ble_eq_true rfl) rfl ww_571 rfl rfl rfl dX7_runCommands_93 ?_
    refine r_aload_n G 0 dX7_runCommands_96 rfl rfl ?_
    refine r_iconst (v := 1) G dX7_runCommands_97 (by decide) ?_
    obtain ⟨o21, hyp⟩ := x_chk hyp
    refine r_callV (ι := xI) (T := TX7) (N := 22) (ci := 7) (b := a0) (rest := []) (As := [.int 1]) G hno tg_X7_fails (fun r w' h => ct_X7_fails (xhl G) _ _ _ r w' h) o21 hyp rfl ww_596 ww_598 ww_597 (by decide) (by decide) rfl rfl (xroom (Nat.le_of_ble_eq_true rfl)) dX7_runCommands_98 (push := (fun r20 => [.int r20])) (fun _ => rfl) (fun r20 w19 hyp => ?_)
    exact r_iret G hyp rfl (Nat.zero_le _) (Nat.zero_le _) dX7_runCommands_101
  · refine r_aload_n G 0 dX7_runCommands_77 rfl rfl ?_
    obtain ⟨v22, hv22, hyp⟩ := x_some hyp
    refine r_getv (C := RX7) (T := TX7) (N := 22) (ci := 7) G 18 (x_geti_e hv22) rfl uw_7 (Nat.le_of_ble_eq_true rfl) rfl ww_657 dX7_runCommands_78 ?_
    refine r_aload_n G 0 dX7_runCommands_81 rfl rfl ?_
    obtain ⟨v23, hv23, hyp⟩ := x_some hyp
    refine r_getv (C := RX7) (T := TX7) (N := 22) (ci := 7) G 19 (x_geti_e hv23) rfl uw_7 (Nat.le_of_ble_eq_true rfl) rfl ww_658 dX7_runCommands_82 ?_
    refine r_icmp_ge G 102 dX7_runCommands_85 (by decide) hyp (fun c24 hyp => ?_) (fun c24 hyp => ?_)
    · refine r_iconst (v := 0) G dX7_runCommands_102 (by decide) ?_
      refine r_istore_n (lv' := [(1, .int 0), (0, .ref a0)]) G dX7_runCommands_103 rfl (by decide) ⟨fun _ => rfl, trivial⟩ rfl ?_
      refine r_weak (lv' := [(0, .ref a0), (1, .int 0)]) [1, 0] rfl ?_
      exact nd_X7_runCommands_L104 G hno xfuel a0 0 w0 hyp
    · refine r_aload_n G 0 dX7_runCommands_88 rfl rfl ?_
      refine r_aload_n G 0 dX7_runCommands_89 rfl rfl ?_
      obtain ⟨v46, hv46, hyp⟩ := x_some hyp
      refine r_getv (C := RX7) (T := TX7) (N := 22) (ci := 7) G 18 (x_geti_e hv46) rfl uw_7 (Nat.le_of_ble_eq_true rfl) rfl ww_657 dX7_runCommands_90 ?_
      obtain ⟨w47, hw47, hyp⟩ := x_some hyp
      refine r_putv (C := RX7) (T := TX7) (N := 22) (ci := 7) G tyX7 tyX7_ok nmX7 15 hw47 rfl uw_7 (Nat.le_of_ble_eq_true rfl) rfl ww_571 rfl rfl rfl dX7_runCommands_93 ?_
      refine r_aload_n G 0 dX7_runCommands_96 rfl rfl ?_
      refine r_iconst (v := 1) G dX7_runCommands_97 (by decide) ?_
      obtain ⟨o50, hyp⟩ := x_chk hyp
      refine r_callV (ι := xI) (T := TX7) (N := 22) (ci := 7) (b := a0) (rest := []) (As := [.int 1]) G hno tg_X7_fails (fun r w' h => ct_X7_fails (xhl G) _ _ _ r w' h) o50 hyp rfl ww_596 ww_598 ww_597 (by decide) (by decide) rfl rfl (xroom (Nat.le_of_ble_eq_true rfl)) dX7_runCommands_98 (push := (fun r49 => [.int r49])) (fun _ => rfl) (fun r49 w48 hyp => ?_)
      exact r_iret G hyp rfl (Nat.zero_le _) (Nat.zero_le _) dX7_runCommands_101
set_option maxRecDepth 100000 in
set_option maxHeartbeats 4000000 in
theorem nd_X7_runCommands_L36 (G : xCx Γ p l s m args meth c RX7 cX7_runCommands 3 (some .int)) (hno : ∀ x ∈ c.exceptionTable.toList, False) : ∀ (n : Nat) (a0 : Nat) (w0 : xW), f_X7_runCommands_L36 n a0 w0 = some (rF, wF) → xAW Γ p l e (xRm 7 (x_mc rF) (x_ms rF)) s m args below meth c 3 (xQm Γ below xI rF wF args s (x_mc rF) (x_ms rF)) w0 0 0 36 [(0, .ref a0)] [] := by
  intro n
  induction n with
  | zero =>
    intro a0 w0 hyp
    cases (show (none : xO Int32) = some (rF, wF) from hyp)
  | succ n ih =>
    intro a0 w0 hyp
    rw [f_X7_runCommands_L36] at hyp
    refine r_aload_n G 0 dX7_runCommands_36 rfl rfl ?_
    obtain ⟨v13, hv13, hyp⟩ := x_some hyp
    refine r_getv (C := RX7) (T := TX7) (N := 22) (ci := 7) G 21 (x_geti_e hv13) rfl uw_7 (Nat.le_of_ble_eq_true rfl) rfl ww_660 dX7_runCommands_37 ?_
    refine r_if_ne G 70 dX7_runCommands_40 (by decide) hyp (fun c14 hyp => ?_) (fun c14 hyp => ?_)
    · exact nd_X7_runCommands_J70 G hno a0 w0 hyp
    · refine r_aload_n G 0 dX7_runCommands_43 rfl rfl ?_
      refine r_iconst (v := 0) G dX7_runCommands_44 (by decide) ?_
      obtain ⟨o53, hyp⟩ := x_chk hyp
      refine r_callV (ι := xI) (T := TX7) (N := 22) (ci := 7) (b := a0) (rest := []) (As := [.int 0]) G hno tg_X7_here (fun r w' h => ct_X7_here (xhl G) _ _ _ r w' h) o53 hyp rfl ww_662 ww_664 ww_663 (by decide) (by decide) rfl rfl (xroom (Nat.le_of_ble_eq_true rfl)) dX7_runCommands_45 (push := (fun r52 => [.int r52])) (fun _ => rfl) (fun r52 w51 hyp => ?_)
      refine r_bipush (v := 59) G dX7_runCommands_48 (by decide) ?_
      refine r_icmp_ne G 70 dX7_runCommands_50 (by decide) hyp (fun c54 hyp => ?_) (fun c54 hyp => ?_)
      · exact nd_X7_runCommands_J70 G hno a0 w51 hyp
      · refine r_aload_n G 0 dX7_runCommands_53 rfl rfl ?_
        refine r_dup G dX7_runCommands_54 rfl ?_
        obtain ⟨v55, hv55, hyp⟩ := x_some hyp
        refine r_getv (C := RX7) (T := TX7) (N := 22) (ci := 7) G 18 (x_geti_e hv55) rfl uw_7 (Nat.le_of_ble_eq_true rfl) rfl ww_657 dX7_runCommands_55 ?_
        refine r_iconst (v := 1) G dX7_runCommands_58 (by decide) ?_
        refine r_iadd G dX7_runCommands_59 ?_
        obtain ⟨w56, hw56, hyp⟩ := x_some hyp
        refine r_putv (C := RX7) (T := TX7) (N := 22) (ci := 7) G tyX7 tyX7_ok nmX7 18 hw56 rfl uw_7 (Nat.le_of_ble_eq_true rfl) rfl ww_657 rfl rfl rfl dX7_runCommands_60 ?_
        refine r_aload_n G 0 dX7_runCommands_63 rfl rfl ?_
        obtain ⟨o59, hyp⟩ := x_chk hyp
        refine r_callV (ι := xV) (T := TX7) (N := 22) (ci := 7) (b := a0) (rest := []) (As := []) G hno tg_X7_readsOne (fun r w' h => ct_X7_readsOne (xhl G) _ _ r w' h) o59 hyp rfl ww_776 ww_778 ww_777 (by decide) (by decide) rfl rfl (xroom (Nat.le_of_ble_eq_true rfl)) dX7_runCommands_64 (push := (fun _ => [])) (fun _ => rfl) (fun _ w57 hyp => ?_)
        refine r_goto G 36 dX7_runCommands_67 (by decide) ?_
        exact ih a0 w57 hyp
end
set_option maxRecDepth 100000 in
set_option maxHeartbeats 4000000 in
theorem ct_X7_runCommands {Γ : xG} {l : Launch} (hl : l.stackTraces = false) (a0 : Nat) (w0 : xW) (rF : Int32 ⊕ String) (wF : xW) (hyp : f_X7_runCommands a0 w0 = some (rF, wF)) : xMet Γ l yX7_runCommands (xws yX7_runCommands cX7_runCommands 3 (some .int)) 7 xI [.ref a0] w0 rF wF (x_mc rF) (x_ms rF) := by
  refine xOfW tg_X7_runCommands hl (lv0 := [(0, .ref a0)]) (Nat.le_of_ble_eq_true rfl) rfl ?_
  intro p e s m below meth c G hno hin
  rw [f_X7_runCommands] at hyp
  refine r_aload_n G 0 dX7_runCommands_0 rfl rfl ?_
  obtain ⟨o3, hyp⟩ := x_chk hyp
  refine r_callV (ι := xV) (T := TX7) (N := 22) (ci := 7) (b := a0) (rest := []) (As := []) G hno tg_X7_remembers (fun r w' h => ct_X7_remembers (xhl G) _ _ r w' h) o3 hyp rfl ww_604 ww_606 ww_605 (by decide) (by decide) rfl rfl (xroom (Nat.le_of_ble_eq_true rfl)) dX7_runCommands_1 (push := (fun _ => [])) (fun _ => rfl) (fun _ w1 hyp => ?_)
  refine r_aload_n G 0 dX7_runCommands_4 rfl rfl ?_
  refine r_iconst (v := 0) G dX7_runCommands_5 (by decide) ?_
  obtain ⟨w4, hw4, hyp⟩ := x_some hyp
  refine r_putv (C := RX7) (T := TX7) (N := 22) (ci := 7) G tyX7 tyX7_ok nmX7 18 hw4 rfl uw_7 (Nat.le_of_ble_eq_true rfl) rfl ww_657 rfl rfl rfl dX7_runCommands_6 ?_
  refine r_aload_n G 0 dX7_runCommands_9 rfl rfl ?_
  refine r_aload_n G 0 dX7_runCommands_10 rfl rfl ?_
  obtain ⟨v5, hv5, hyp⟩ := x_some hyp
  refine r_getv (C := RX7) (T := TX7) (N := 22) (ci := 7) G 13 (x_geti_e hv5) rfl uw_7 (Nat.le_of_ble_eq_true rfl) rfl ww_742 dX7_runCommands_11 ?_
  obtain ⟨w6, hw6, hyp⟩ := x_some hyp
  refine r_putv (C := RX7) (T := TX7) (N := 22) (ci := 7) G tyX7 tyX7_ok nmX7 19 hw6 rfl uw_7 (Nat.le_of_ble_eq_true rfl) rfl ww_658 rfl rfl rfl dX7_runCommands_14 ?_
  refine r_aload_n G 0 dX7_runCommands_17 rfl rfl ?_
  refine r_iconst (v := 0) G dX7_runCommands_18 (by decide) ?_
  obtain ⟨w7, hw7, hyp⟩ := x_some hyp
  refine r_putv (C := RX7) (T := TX7) (N := 22) (ci := 7) G tyX7 tyX7_ok nmX7 13 hw7 rfl uw_7 (Nat.le_of_ble_eq_true rfl) rfl ww_742 rfl rfl rfl dX7_runCommands_19 ?_
  refine r_aload_n G 0 dX7_runCommands_22 rfl rfl ?_
  refine r_iconst (v := 0) G dX7_runCommands_23 (by decide) ?_
  obtain ⟨w8, hw8, hyp⟩ := x_some hyp
  refine r_putv (C := RX7) (T := TX7) (N := 22) (ci := 7) G tyX7 tyX7_ok nmX7 20 hw8 rfl uw_7 (Nat.le_of_ble_eq_true rfl) rfl ww_661 rfl rfl rfl dX7_runCommands_24 ?_
  refine r_aload_n G 0 dX7_runCommands_27 rfl rfl ?_
  refine r_iconst (v := 0) G dX7_runCommands_28 (by decide) ?_
  obtain ⟨w9, hw9, hyp⟩ := x_some hyp
  refine r_putv (C := RX7) (T := TX7) (N := 22) (ci := 7) G tyX7 tyX7_ok nmX7 21 hw9 rfl uw_7 (Nat.le_of_ble_eq_true rfl) rfl ww_660 rfl (by decide) (by decide) dX7_runCommands_29 ?_
  refine r_aload_n G 0 dX7_runCommands_32 rfl rfl ?_
  obtain ⟨o12, hyp⟩ := x_chk hyp
  refine r_callV (ι := xV) (T := TX7) (N := 22) (ci := 7) (b := a0) (rest := []) (As := []) G hno tg_X7_readsOne (fun r w' h => ct_X7_readsOne (xhl G) _ _ r w' h) o12 hyp rfl ww_776 ww_778 ww_777 (by decide) (by decide) rfl rfl (xroom (Nat.le_of_ble_eq_true rfl)) dX7_runCommands_33 (push := (fun _ => [])) (fun _ => rfl) (fun _ w10 hyp => ?_)
  exact nd_X7_runCommands_L36 G hno xfuel a0 w10 hyp
theorem tg_X7_save : xTgt yX7_save cX7_save 2 (some .int) 0 := ⟨ww_783, ww_574, by decide, by decide +kernel, by decide +kernel⟩
section
variable {Γ : xG} {p : Program} {l : Launch} {e : Env} {s : State} {m : MethodId} {args : Array Value} {below : List Frame} {meth : Method} {c : Code} {rF : Int32 ⊕ String} {wF : xW}
set_option maxRecDepth 100000 in
set_option maxHeartbeats 4000000 in
theorem nd_X7_save_L7 (G : xCx Γ p l s m args meth c RX7 cX7_save 2 (some .int)) (hno : ∀ x ∈ c.exceptionTable.toList, False) : ∀ (n : Nat) (a0 : Nat) (x1 : Int32) (w0 : xW), f_X7_save_L7 n a0 x1 w0 = some (rF, wF) → xAW Γ p l e (xRm 0 (x_mc rF) (x_ms rF)) s m args below meth c 2 (xQm Γ below xI rF wF args s (x_mc rF) (x_ms rF)) w0 0 0 7 [(0, .ref a0), (1, .int x1)] [] := by
  intro n
  induction n with
  | zero =>
    intro a0 x1 w0 hyp
    cases (show (none : xO Int32) = some (rF, wF) from hyp)
  | succ n ih =>
    intro a0 x1 w0 hyp
    rw [f_X7_save_L7] at hyp
    refine r_iload_n G 1 dX7_save_7 rfl rfl ?_
    refine r_sipush (v := 303) G dX7_save_8 (by decide) ?_
    refine r_icmp_ge G 32 dX7_save_11 (by decide) hyp (fun c2 hyp => ?_) (fun c2 hyp => ?_)
    · refine r_aload_n G 0 dX7_save_32 rfl rfl ?_
      refine r_iconst (v := 1) G dX7_save_33 (by decide) ?_
      obtain ⟨w3, hw3, hyp⟩ := x_some hyp
      refine r_putv (C := RX7) (T := TX7) (N := 22) (ci := 7) G tyX7 tyX7_ok nmX7 6 hw3 rfl uw_7 (Nat.le_of_ble_eq_true rfl) rfl ww_774 rfl (by decide) (by decide) dX7_save_34 ?_
      refine r_aload_n G 0 dX7_save_37 rfl rfl ?_
      obtain ⟨v4, hv4, hyp⟩ := x_some hyp
      refine r_getv (C := RX7) (T := TX7) (N := 22) (ci := 7) G 1 (x_getr_e hv4) rfl uw_7 (Nat.le_of_ble_eq_true rfl) rfl ww_561 dX7_save_38 ?_
      refine r_iconst (v := 0) G dX7_save_41 (by decide) ?_
      refine r_ref hyp (fun a5 ha5 hz => ?_)
      clear hyp; subst ha5; have hyp := hz; clear hz
      obtain ⟨v6, hv6, hyp⟩ := x_some hyp
      refine r_iald G hv6 dX7_save_42 ?_
      exact r_iret G hyp rfl (Nat.zero_le _) (Nat.zero_le _) dX7_save_43
    · refine r_aload_n G 0 dX7_save_14 rfl rfl ?_
      obtain ⟨v7, hv7, hyp⟩ := x_some hyp
      refine r_getv (C := RX7) (T := TX7) (N := 22) (ci := 7) G 3 (x_getr_e hv7) rfl uw_7 (Nat.le_of_ble_eq_true rfl) rfl ww_563 dX7_save_15 ?_
      refine r_iload_n G 1 dX7_save_18 rfl rfl ?_
      refine r_aload_n G 0 dX7_save_19 rfl rfl ?_
      obtain ⟨v8, hv8, hyp⟩ := x_some hyp
      refine r_getv (C := RX7) (T := TX7) (N := 22) (ci := 7) G 1 (x_getr_e hv8) rfl uw_7 (Nat.le_of_ble_eq_true rfl) rfl ww_561 dX7_save_20 ?_
      refine r_iload_n G 1 dX7_save_23 rfl rfl ?_
      refine r_ref hyp (fun a9 ha9 hz => ?_)
      clear hyp; subst ha9; have hyp := hz; clear hz
      obtain ⟨v10, hv10, hyp⟩ := x_some hyp
      refine r_iald G hv10 dX7_save_24 ?_
      refine r_ref hyp (fun a11 ha11 hz => ?_)
      clear hyp; subst ha11; have hyp := hz; clear hz
      obtain ⟨w12, hw12, hyp⟩ := x_some hyp
      refine r_iast G hw12 dX7_save_25 ?_
      refine r_iinc (v := (x1 + 1)) (lv' := [(1, .int (x1 + 1)), (0, .ref a0)]) G 1 dX7_save_26 rfl rfl (by decide) ⟨fun _ => rfl, fun _ => rfl, trivial⟩ rfl ?_
      refine r_goto G 7 dX7_save_29 (by decide) ?_
      refine r_weak (lv' := [(0, .ref a0), (1, .int (x1 + 1))]) [1, 0] rfl ?_
      exact ih a0 (x1 + 1) w12 hyp
end
set_option maxRecDepth 100000 in
set_option maxHeartbeats 4000000 in
theorem ct_X7_save {Γ : xG} {l : Launch} (hl : l.stackTraces = false) (a0 : Nat) (w0 : xW) (rF : Int32 ⊕ String) (wF : xW) (hyp : f_X7_save a0 w0 = some (rF, wF)) : xMet Γ l yX7_save (xws yX7_save cX7_save 2 (some .int)) 0 xI [.ref a0] w0 rF wF (x_mc rF) (x_ms rF) := by
  refine xOfW tg_X7_save hl (lv0 := [(0, .ref a0)]) (Nat.le_of_ble_eq_true rfl) rfl ?_
  intro p e s m below meth c G hno hin
  rw [f_X7_save] at hyp
  refine r_aload_n G 0 dX7_save_0 rfl rfl ?_
  refine r_iconst (v := 0) G dX7_save_1 (by decide) ?_
  obtain ⟨w1, hw1, hyp⟩ := x_some hyp
  refine r_putv (C := RX7) (T := TX7) (N := 22) (ci := 7) G tyX7 tyX7_ok nmX7 0 hw1 rfl uw_7 (Nat.le_of_ble_eq_true rfl) rfl ww_594 rfl rfl rfl dX7_save_2 ?_
  refine r_iconst (v := 0) G dX7_save_5 (by decide) ?_
  refine r_istore_n (lv' := [(1, .int 0), (0, .ref a0)]) G dX7_save_6 rfl (by decide) ⟨fun _ => rfl, trivial⟩ rfl ?_
  refine r_weak (lv' := [(0, .ref a0), (1, .int 0)]) [1, 0] rfl ?_
  exact nd_X7_save_L7 G hno xfuel a0 0 w1 hyp
theorem tg_X7_seen : xTgt yX7_seen cX7_seen 3 (some .int) 2 := ⟨ww_784, ww_574, by decide, by decide +kernel, by decide +kernel⟩
section
variable {Γ : xG} {p : Program} {l : Launch} {e : Env} {s : State} {m : MethodId} {args : Array Value} {below : List Frame} {meth : Method} {c : Code} {rF : Int32 ⊕ String} {wF : xW}
end
set_option maxRecDepth 100000 in
set_option maxHeartbeats 4000000 in
theorem ct_X7_seen {Γ : xG} {l : Launch} (hl : l.stackTraces = false) (a0 : Nat) (x1 : Int32) (x2 : Int32) (w0 : xW) (rF : Int32 ⊕ String) (wF : xW) (hyp : f_X7_seen a0 x1 x2 w0 = some (rF, wF)) : xMet Γ l yX7_seen (xws yX7_seen cX7_seen 3 (some .int)) 2 xI [.ref a0, .int x1, .int x2] w0 rF wF (x_mc rF) (x_ms rF) := by
  refine xOfW tg_X7_seen hl (lv0 := [(0, .ref a0), (1, .int x1), (2, .int x2)]) (Nat.le_of_ble_eq_true rfl) rfl ?_
  intro p e s m below meth c G hno hin
  rw [f_X7_seen] at hyp
  refine r_aload_n G 0 dX7_seen_0 rfl rfl ?_
  refine r_iload_n G 1 dX7_seen_1 rfl rfl ?_
  refine r_iload_n G 2 dX7_seen_2 rfl rfl ?_
  refine r_callS (ι := xI) (rest := [.ref a0]) (As := [.int x1, .int x2]) G hno tg_X7_isCell (fun r w' h => ct_X7_isCell (xhl G) _ _ _ r w' h) hyp ww_651 ww_652 (by decide) (by decide) rfl rfl (xroom (Nat.le_of_ble_eq_true rfl)) dX7_seen_3 (push := (fun r2 => [.int r2, .ref a0])) (fun _ => rfl) (fun r2 w1 hyp => ?_)
  refine r_if_eq G 13 dX7_seen_6 (by decide) hyp (fun c3 hyp => ?_) (fun c3 hyp => ?_)
  · refine r_iconst (v := 1) G dX7_seen_13 (by decide) ?_
    obtain ⟨w4, hw4, hyp⟩ := x_some hyp
    refine r_putv (C := RX7) (T := TX7) (N := 22) (ci := 7) G tyX7 tyX7_ok nmX7 0 hw4 rfl uw_7 (Nat.le_of_ble_eq_true rfl) rfl ww_594 rfl rfl rfl dX7_seen_14 ?_
    refine r_aload_n G 0 dX7_seen_17 rfl rfl ?_
    obtain ⟨v5, hv5, hyp⟩ := x_some hyp
    refine r_getv (C := RX7) (T := TX7) (N := 22) (ci := 7) G 0 (x_geti_e hv5) rfl uw_7 (Nat.le_of_ble_eq_true rfl) rfl ww_594 dX7_seen_18 ?_
    refine r_if_le G 28 dX7_seen_21 (by decide) hyp (fun c6 hyp => ?_) (fun c6 hyp => ?_)
    · refine r_aload_n G 0 dX7_seen_28 rfl rfl ?_
      refine r_bipush (v := 8) G dX7_seen_29 (by decide) ?_
      refine r_iload_n G 2 dX7_seen_31 rfl rfl ?_
      refine r_imul G dX7_seen_32 ?_
      refine r_iload_n G 1 dX7_seen_33 rfl rfl ?_
      refine r_iadd G dX7_seen_34 ?_
      obtain ⟨o9, hyp⟩ := x_chk hyp
      refine r_callV (ι := xI) (T := TX7) (N := 22) (ci := 7) (b := a0) (rest := []) (As := [.int ((8 * x2) + x1)]) G hno tg_X7_look (fun r w' h => ct_X7_look (xhl G) _ _ _ r w' h) o9 hyp rfl ww_630 ww_632 ww_631 (by decide) (by decide) rfl rfl (xroom (Nat.le_of_ble_eq_true rfl)) dX7_seen_35 (push := (fun r8 => [.int r8])) (fun _ => rfl) (fun r8 w7 hyp => ?_)
      exact r_iret G hyp rfl (Nat.zero_le _) (Nat.zero_le _) dX7_seen_38
    · refine r_iconst (v := 0) G dX7_seen_24 (by decide) ?_
      refine r_goto G 38 dX7_seen_25 (by decide) ?_
      exact r_iret G hyp rfl (Nat.zero_le _) (Nat.zero_le _) dX7_seen_38
  · refine r_iconst (v := 0) G dX7_seen_9 (by decide) ?_
    refine r_goto G 14 dX7_seen_10 (by decide) ?_
    obtain ⟨w10, hw10, hyp⟩ := x_some hyp
    refine r_putv (C := RX7) (T := TX7) (N := 22) (ci := 7) G tyX7 tyX7_ok nmX7 0 hw10 rfl uw_7 (Nat.le_of_ble_eq_true rfl) rfl ww_594 rfl rfl rfl dX7_seen_14 ?_
    refine r_aload_n G 0 dX7_seen_17 rfl rfl ?_
    obtain ⟨v11, hv11, hyp⟩ := x_some hyp
    refine r_getv (C := RX7) (T := TX7) (N := 22) (ci := 7) G 0 (x_geti_e hv11) rfl uw_7 (Nat.le_of_ble_eq_true rfl) rfl ww_594 dX7_seen_18 ?_
    refine r_if_le G 28 dX7_seen_21 (by decide) hyp (fun c12 hyp => ?_) (fun c12 hyp => ?_)
    · refine r_aload_n G 0 dX7_seen_28 rfl rfl ?_
      refine r_bipush (v := 8) G dX7_seen_29 (by decide) ?_
      refine r_iload_n G 2 dX7_seen_31 rfl rfl ?_
      refine r_imul G dX7_seen_32 ?_
      refine r_iload_n G 1 dX7_seen_33 rfl rfl ?_
      refine r_iadd G dX7_seen_34 ?_
      obtain ⟨o15, hyp⟩ := x_chk hyp
      refine r_callV (ι := xI) (T := TX7) (N := 22) (ci := 7) (b := a0) (rest := []) (As := [.int ((8 * x2) + x1)]) G hno tg_X7_look (fun r w' h => ct_X7_look (xhl G) _ _ _ r w' h) o15 hyp rfl ww_630 ww_632 ww_631 (by decide) (by decide) rfl rfl (xroom (Nat.le_of_ble_eq_true rfl)) dX7_seen_35 (push := (fun r14 => [.int r14])) (fun _ => rfl) (fun r14 w13 hyp => ?_)
      exact r_iret G hyp rfl (Nat.zero_le _) (Nat.zero_le _) dX7_seen_38
    · refine r_iconst (v := 0) G dX7_seen_24 (by decide) ?_
      refine r_goto G 38 dX7_seen_25 (by decide) ?_
      exact r_iret G hyp rfl (Nat.zero_le _) (Nat.zero_le _) dX7_seen_38
theorem tg_X7_seenFromTop : xTgt yX7_seenFromTop cX7_seenFromTop 3 (some .int) 2 := ⟨ww_788, ww_574, by decide, by decide +kernel, by decide +kernel⟩
section
variable {Γ : xG} {p : Program} {l : Launch} {e : Env} {s : State} {m : MethodId} {args : Array Value} {below : List Frame} {meth : Method} {c : Code} {rF : Int32 ⊕ String} {wF : xW}
end
set_option maxRecDepth 100000 in
set_option maxHeartbeats 4000000 in
theorem ct_X7_seenFromTop {Γ : xG} {l : Launch} (hl : l.stackTraces = false) (a0 : Nat) (x1 : Int32) (x2 : Int32) (w0 : xW) (rF : Int32 ⊕ String) (wF : xW) (hyp : f_X7_seenFromTop a0 x1 x2 w0 = some (rF, wF)) : xMet Γ l yX7_seenFromTop (xws yX7_seenFromTop cX7_seenFromTop 3 (some .int)) 3 xI [.ref a0, .int x1, .int x2] w0 rF wF (x_mc rF) (x_ms rF) := by
  refine xOfW tg_X7_seenFromTop hl (lv0 := [(0, .ref a0), (1, .int x1), (2, .int x2)]) (Nat.le_of_ble_eq_true rfl) rfl ?_
  intro p e s m below meth c G hno hin
  rw [f_X7_seenFromTop] at hyp
  refine r_aload_n G 0 dX7_seenFromTop_0 rfl rfl ?_
  refine r_iload_n G 1 dX7_seenFromTop_1 rfl rfl ?_
  refine r_iload_n G 2 dX7_seenFromTop_2 rfl rfl ?_
  obtain ⟨o3, hyp⟩ := x_chk hyp
  refine r_callV (ι := xI) (T := TX7) (N := 22) (ci := 7) (b := a0) (rest := []) (As := [.int x1, .int x2]) G hno tg_X7_seen (fun r w' h => ct_X7_seen (xhl G) _ _ _ _ r w' h) o3 hyp rfl ww_785 ww_787 ww_786 (by decide) (by decide) rfl rfl (xroom (Nat.le_of_ble_eq_true rfl)) dX7_seenFromTop_3 (push := (fun r2 => [.int r2])) (fun _ => rfl) (fun r2 w1 hyp => ?_)
  exact r_iret G hyp rfl (Nat.zero_le _) (Nat.zero_le _) dX7_seenFromTop_6
theorem tg_X7_show : xTgt yX7_show cX7_show 2 (some .int) 1 := ⟨ww_789, ww_574, by decide, by decide +kernel, by decide +kernel⟩
section
variable {Γ : xG} {p : Program} {l : Launch} {e : Env} {s : State} {m : MethodId} {args : Array Value} {below : List Frame} {meth : Method} {c : Code} {rF : Int32 ⊕ String} {wF : xW}
end
set_option maxRecDepth 100000 in
set_option maxHeartbeats 4000000 in
theorem ct_X7_show {Γ : xG} {l : Launch} (hl : l.stackTraces = false) (a0 : Nat) (x1 : Int32) (w0 : xW) (rF : Int32 ⊕ String) (wF : xW) (hyp : f_X7_show a0 x1 w0 = some (rF, wF)) : xMet Γ l yX7_show (xws yX7_show cX7_show 2 (some .int)) 3 xI [.ref a0, .int x1] w0 rF wF (x_mc rF) (x_ms rF) := by
  refine xOfW tg_X7_show hl (lv0 := [(0, .ref a0), (1, .int x1)]) (Nat.le_of_ble_eq_true rfl) rfl ?_
  intro p e s m below meth c G hno hin
  rw [f_X7_show] at hyp
  refine r_aload_n G 0 dX7_show_0 rfl rfl ?_
  obtain ⟨o3, hyp⟩ := x_chk hyp
  refine r_callV (ι := xV) (T := TX7) (N := 22) (ci := 7) (b := a0) (rest := []) (As := []) G hno tg_X7_remembers (fun r w' h => ct_X7_remembers (xhl G) _ _ r w' h) o3 hyp rfl ww_604 ww_606 ww_605 (by decide) (by decide) rfl rfl (xroom (Nat.le_of_ble_eq_true rfl)) dX7_show_1 (push := (fun _ => [])) (fun _ => rfl) (fun _ w1 hyp => ?_)
  refine r_aload_n G 0 dX7_show_4 rfl rfl ?_
  refine r_aload_n G 0 dX7_show_5 rfl rfl ?_
  refine r_iload_n G 1 dX7_show_6 rfl rfl ?_
  refine r_iconst (v := 1) G dX7_show_7 (by decide) ?_
  obtain ⟨o6, hyp⟩ := x_chk hyp
  refine r_callV (ι := xI) (T := TX7) (N := 22) (ci := 7) (b := a0) (rest := [.ref a0]) (As := [.int x1, .int 1]) G hno tg_X7_turns (fun r w' h => ct_X7_turns (xhl G) _ _ _ _ r w' h) o6 hyp rfl ww_724 ww_726 ww_725 (by decide) (by decide) rfl rfl (xroom (Nat.le_of_ble_eq_true rfl)) dX7_show_8 (push := (fun r5 => [.int r5, .ref a0])) (fun _ => rfl) (fun r5 w4 hyp => ?_)
  obtain ⟨o9, hyp⟩ := x_chk hyp
  refine r_callV (ι := xI) (T := TX7) (N := 22) (ci := 7) (b := a0) (rest := []) (As := [.int r5]) G hno tg_X7_ends (fun r w' h => ct_X7_ends (xhl G) _ _ _ r w' h) o9 hyp rfl ww_610 ww_612 ww_611 (by decide) (by decide) rfl rfl (xroom (Nat.le_of_ble_eq_true rfl)) dX7_show_11 (push := (fun r8 => [.int r8])) (fun _ => rfl) (fun r8 w7 hyp => ?_)
  exact r_iret G hyp rfl (Nat.zero_le _) (Nat.zero_le _) dX7_show_14
theorem tg_X7_sumOfTones : xTgt yX7_sumOfTones cX7_sumOfTones 5 (some .int) 4 := ⟨ww_790, ww_574, by decide, by decide +kernel, by decide +kernel⟩
section
variable {Γ : xG} {p : Program} {l : Launch} {e : Env} {s : State} {m : MethodId} {args : Array Value} {below : List Frame} {meth : Method} {c : Code} {rF : Int32 ⊕ String} {wF : xW}
set_option maxRecDepth 100000 in
set_option maxHeartbeats 4000000 in
theorem nd_X7_sumOfTones_J18 (G : xCx Γ p l s m args meth c RX7 cX7_sumOfTones 5 (some .int)) (hno : ∀ x ∈ c.exceptionTable.toList, False) (a0 : Nat) (x1 : Int32) (x2 : Int32) (x3 : Int32) (x4 : Int32) (s0 : Option Nat) (w0 : xW) (hyp : f_X7_sumOfTones_J18 a0 x1 x2 x3 x4 s0 w0 = some (rF, wF)) : xAW Γ p l e (xRm 3 (x_mc rF) (x_ms rF)) s m args below meth c 5 (xQm Γ below xI rF wF args s (x_mc rF) (x_ms rF)) w0 0 0 18 [(0, .ref a0), (1, .int x1), (2, .int x2), (3, .int x3), (4, .int x4)] [va_rf s0] := by
  rw [f_X7_sumOfTones_J18] at hyp
  refine r_iconst (v := 1) G dX7_sumOfTones_18 (by decide) ?_
  refine r_goto G 38 dX7_sumOfTones_19 (by decide) ?_
  refine r_ref hyp (fun a4 ha4 hz => ?_)
  clear hyp; subst ha4; have hyp := hz; clear hz
  obtain ⟨w5, hw5, hyp⟩ := x_some hyp
  refine r_putv (C := RX7) (T := TX7) (N := 22) (ci := 7) G tyX7 tyX7_ok nmX7 0 hw5 rfl uw_7 (Nat.le_of_ble_eq_true rfl) rfl ww_594 rfl rfl rfl dX7_sumOfTones_38 ?_
  refine r_aload_n G 0 dX7_sumOfTones_41 rfl rfl ?_
  obtain ⟨v6, hv6, hyp⟩ := x_some hyp
  refine r_getv (C := RX7) (T := TX7) (N := 22) (ci := 7) G 0 (x_geti_e hv6) rfl uw_7 (Nat.le_of_ble_eq_true rfl) rfl ww_594 dX7_sumOfTones_42 ?_
  refine r_if_le G 52 dX7_sumOfTones_45 (by decide) hyp (fun c7 hyp => ?_) (fun c7 hyp => ?_)
  · refine r_aload_n G 0 dX7_sumOfTones_52 rfl rfl ?_
    refine r_iload_n G 1 dX7_sumOfTones_53 rfl rfl ?_
    refine r_iload_n G 2 dX7_sumOfTones_54 rfl rfl ?_
    refine r_iload_n G 3 dX7_sumOfTones_55 rfl rfl ?_
    refine r_iload G 4 dX7_sumOfTones_56 rfl ?_
    obtain ⟨o10, hyp⟩ := x_chk hyp
    refine r_callV (ι := xI) (T := TX7) (N := 22) (ci := 7) (b := a0) (rest := []) (As := [.int x1, .int x2, .int x3, .int x4]) G hno tg_X7_sum (fun r w' h => ct_X7_sum (xhl G) _ _ _ _ _ _ r w' h) o10 hyp rfl ww_703 ww_705 ww_704 (by decide) (by decide) rfl rfl (xroom (Nat.le_of_ble_eq_true rfl)) dX7_sumOfTones_58 (push := (fun r9 => [.int r9])) (fun _ => rfl) (fun r9 w8 hyp => ?_)
    exact r_iret G hyp rfl (Nat.zero_le _) (Nat.zero_le _) dX7_sumOfTones_61
  · refine r_iconst (v := 0) G dX7_sumOfTones_48 (by decide) ?_
    refine r_goto G 61 dX7_sumOfTones_49 (by decide) ?_
    exact r_iret G hyp rfl (Nat.zero_le _) (Nat.zero_le _) dX7_sumOfTones_61
set_option maxRecDepth 100000 in
set_option maxHeartbeats 4000000 in
theorem nd_X7_sumOfTones_J33 (G : xCx Γ p l s m args meth c RX7 cX7_sumOfTones 5 (some .int)) (hno : ∀ x ∈ c.exceptionTable.toList, False) (a0 : Nat) (x1 : Int32) (x2 : Int32) (x3 : Int32) (x4 : Int32) (s0 : Option Nat) (w0 : xW) (hyp : f_X7_sumOfTones_J33 a0 x1 x2 x3 x4 s0 w0 = some (rF, wF)) : xAW Γ p l e (xRm 3 (x_mc rF) (x_ms rF)) s m args below meth c 5 (xQm Γ below xI rF wF args s (x_mc rF) (x_ms rF)) w0 0 0 33 [(0, .ref a0), (1, .int x1), (2, .int x2), (3, .int x3), (4, .int x4)] [va_rf s0] := by
  rw [f_X7_sumOfTones_J33] at hyp
  refine r_iconst (v := 2) G dX7_sumOfTones_33 (by decide) ?_
  refine r_goto G 38 dX7_sumOfTones_34 (by decide) ?_
  refine r_ref hyp (fun a15 ha15 hz => ?_)
  clear hyp; subst ha15; have hyp := hz; clear hz
  obtain ⟨w16, hw16, hyp⟩ := x_some hyp
  refine r_putv (C := RX7) (T := TX7) (N := 22) (ci := 7) G tyX7 tyX7_ok nmX7 0 hw16 rfl uw_7 (Nat.le_of_ble_eq_true rfl) rfl ww_594 rfl rfl rfl dX7_sumOfTones_38 ?_
  refine r_aload_n G 0 dX7_sumOfTones_41 rfl rfl ?_
  obtain ⟨v17, hv17, hyp⟩ := x_some hyp
  refine r_getv (C := RX7) (T := TX7) (N := 22) (ci := 7) G 0 (x_geti_e hv17) rfl uw_7 (Nat.le_of_ble_eq_true rfl) rfl ww_594 dX7_sumOfTones_42 ?_
  refine r_if_le G 52 dX7_sumOfTones_45 (by decide) hyp (fun c18 hyp => ?_) (fun c18 hyp => ?_)
  · refine r_aload_n G 0 dX7_sumOfTones_52 rfl rfl ?_
    refine r_iload_n G 1 dX7_sumOfTones_53 rfl rfl ?_
    refine r_iload_n G 2 dX7_sumOfTones_54 rfl rfl ?_
    refine r_iload_n G 3 dX7_sumOfTones_55 rfl rfl ?_
    refine r_iload G 4 dX7_sumOfTones_56 rfl ?_
    obtain ⟨o21, hyp⟩ := x_chk hyp
    refine r_callV (ι := xI) (T := TX7) (N := 22) (ci := 7) (b := a0) (rest := []) (As := [.int x1, .int x2, .int x3, .int x4]) G hno tg_X7_sum (fun r w' h => ct_X7_sum (xhl G) _ _ _ _ _ _ r w' h) o21 hyp rfl ww_703 ww_705 ww_704 (by decide) (by decide) rfl rfl (xroom (Nat.le_of_ble_eq_true rfl)) dX7_sumOfTones_58 (push := (fun r20 => [.int r20])) (fun _ => rfl) (fun r20 w19 hyp => ?_)
    exact r_iret G hyp rfl (Nat.zero_le _) (Nat.zero_le _) dX7_sumOfTones_61
  · refine r_iconst (v := 0) G dX7_sumOfTones_48 (by decide) ?_
    refine r_goto G 61 dX7_sumOfTones_49 (by decide) ?_
    exact r_iret G hyp rfl (Nat.zero_le _) (Nat.zero_le _) dX7_sumOfTones_61
end
set_option maxRecDepth 100000 in
set_option maxHeartbeats 4000000 in
theorem ct_X7_sumOfTones {Γ : xG} {l : Launch} (hl : l.stackTraces = false) (a0 : Nat) (x1 : Int32) (x2 : Int32) (x3 : Int32) (x4 : Int32) (w0 : xW) (rF : Int32 ⊕ String) (wF : xW) (hyp : f_X7_sumOfTones a0 x1 x2 x3 x4 w0 = some (rF, wF)) : xMet Γ l yX7_sumOfTones (xws yX7_sumOfTones cX7_sumOfTones 5 (some .int)) 3 xI [.ref a0, .int x1, .int x2, .int x3, .int x4] w0 rF wF (x_mc rF) (x_ms rF) := by
  refine xOfW tg_X7_sumOfTones hl (lv0 := [(0, .ref a0), (1, .int x1), (2, .int x2), (3, .int x3), (4, .int x4)]) (Nat.le_of_ble_eq_true rfl) rfl ?_
  intro p e s m below meth c G hno hin
  rw [f_X7_sumOfTones] at hyp
  refine r_aload_n G 0 dX7_sumOfTones_0 rfl rfl ?_
  refine r_iload_n G 1 dX7_sumOfTones_1 rfl rfl ?_
  refine r_iload_n G 2 dX7_sumOfTones_2 rfl rfl ?_
  refine r_callS (ι := xI) (rest := [.ref a0]) (As := [.int x1, .int x2]) G hno tg_X7_isCell (fun r w' h => ct_X7_isCell (xhl G) _ _ _ r w' h) hyp ww_651 ww_652 (by decide) (by decide) rfl rfl (xroom (Nat.le_of_ble_eq_true rfl)) dX7_sumOfTones_3 (push := (fun r2 => [.int r2, .ref a0])) (fun _ => rfl) (fun r2 w1 hyp => ?_)
  refine r_if_eq G 18 dX7_sumOfTones_6 (by decide) hyp (fun c3 hyp => ?_) (fun c3 hyp => ?_)
  · exact nd_X7_sumOfTones_J18 G hno a0 x1 x2 x3 x4 (some a0) w1 hyp
  · refine r_iload_n G 3 dX7_sumOfTones_9 rfl rfl ?_
    refine r_iload G 4 dX7_sumOfTones_10 rfl ?_
    refine r_callS (ι := xI) (rest := [.ref a0]) (As := [.int x3, .int x4]) G hno tg_X7_isCell (fun r w' h => ct_X7_isCell (xhl G) _ _ _ r w' h) hyp ww_651 ww_652 (by decide) (by decide) rfl rfl (xroom (Nat.le_of_ble_eq_true rfl)) dX7_sumOfTones_12 (push := (fun r12 => [.int r12, .ref a0])) (fun _ => rfl) (fun r12 w11 hyp => ?_)
    refine r_if_ne G 22 dX7_sumOfTones_15 (by decide) hyp (fun c13 hyp => ?_) (fun c13 hyp => ?_)
    · refine r_iload_n G 1 dX7_sumOfTones_22 rfl rfl ?_
      refine r_iload_n G 3 dX7_sumOfTones_23 rfl rfl ?_
      refine r_icmp_gt G 33 dX7_sumOfTones_24 (by decide) hyp (fun c14 hyp => ?_) (fun c14 hyp => ?_)
      · exact nd_X7_sumOfTones_J33 G hno a0 x1 x2 x3 x4 (some a0) w11 hyp
      · refine r_iload_n G 2 dX7_sumOfTones_27 rfl rfl ?_
        refine r_iload G 4 dX7_sumOfTones_28 rfl ?_
        refine r_icmp_le G 37 dX7_sumOfTones_30 (by decide) hyp (fun c22 hyp => ?_) (fun c22 hyp => ?_)
        · refine r_iconst (v := 0) G dX7_sumOfTones_37 (by decide) ?_
          obtain ⟨w23, hw23, hyp⟩ := x_some hyp
          refine r_putv (C := RX7) (T := TX7) (N := 22) (ci := 7) G tyX7 tyX7_ok nmX7 0 hw23 rfl uw_7 (Nat.le_of_ble_eq_true rfl) rfl ww_594 rfl rfl rfl dX7_sumOfTones_38 ?_
          refine r_aload_n G 0 dX7_sumOfTones_41 rfl rfl ?_
          obtain ⟨v24, hv24, hyp⟩ := x_some hyp
          refine r_getv (C := RX7) (T := TX7) (N := 22) (ci := 7) G 0 (x_geti_e hv24) rfl uw_7 (Nat.le_of_ble_eq_true rfl) rfl ww_594 dX7_sumOfTones_42 ?_
          refine r_if_le G 52 dX7_sumOfTones_45 (by decide) hyp (fun c25 hyp => ?_) (fun c25 hyp => ?_)
          · refine r_aload_n G 0 dX7_sumOfTones_52 rfl rfl ?_
            refine r_iload_n G 1 dX7_sumOfTones_53 rfl rfl ?_
            refine r_iload_n G 2 dX7_sumOfTones_54 rfl rfl ?_
            refine r_iload_n G 3 dX7_sumOfTones_55 rfl rfl ?_
            refine r_iload G 4 dX7_sumOfTones_56 rfl ?_
            obtain ⟨o28, hyp⟩ := x_chk hyp
            refine r_callV (ι := xI) (T := TX7) (N := 22) (ci := 7) (b := a0) (rest := []) (As := [.int x1, .int x2, .int x3, .int x4]) G hno tg_X7_sum (fun r w' h => ct_X7_sum (xhl G) _ _ _ _ _ _ r w' h) o28 hyp rfl ww_703 ww_705 ww_704 (by decide) (by decide) rfl rfl (xroom (Nat.le_of_ble_eq_true rfl)) dX7_sumOfTones_58 (push := (fun r27 => [.int r27])) (fun _ => rfl) (fun r27 w26 hyp => ?_)
            exact r_iret G hyp rfl (Nat.zero_le _) (Nat.zero_le _) dX7_sumOfTones_61
          · refine r_iconst (v := 0) G dX7_sumOfTones_48 (by decide) ?_
            refine r_goto G 61 dX7_sumOfTones_49 (by decide) ?_
            exact r_iret G hyp rfl (Nat.zero_le _) (Nat.zero_le _) dX7_sumOfTones_61
        · exact nd_X7_sumOfTones_J33 G hno a0 x1 x2 x3 x4 (some a0) w11 hyp
    · exact nd_X7_sumOfTones_J18 G hno a0 x1 x2 x3 x4 (some a0) w11 hyp
theorem tg_X7_sumOfTonesByTable : xTgt yX7_sumOfTonesByTable cX7_sumOfTonesByTable 5 (some .int) 4 := ⟨ww_794, ww_574, by decide, by decide +kernel, by decide +kernel⟩
section
variable {Γ : xG} {p : Program} {l : Launch} {e : Env} {s : State} {m : MethodId} {args : Array Value} {below : List Frame} {meth : Method} {c : Code} {rF : Int32 ⊕ String} {wF : xW}
end
set_option maxRecDepth 100000 in
set_option maxHeartbeats 4000000 in
theorem ct_X7_sumOfTonesByTable {Γ : xG} {l : Launch} (hl : l.stackTraces = false) (a0 : Nat) (x1 : Int32) (x2 : Int32) (x3 : Int32) (x4 : Int32) (w0 : xW) (rF : Int32 ⊕ String) (wF : xW) (hyp : f_X7_sumOfTonesByTable a0 x1 x2 x3 x4 w0 = some (rF, wF)) : xMet Γ l yX7_sumOfTonesByTable (xws yX7_sumOfTonesByTable cX7_sumOfTonesByTable 5 (some .int)) 4 xI [.ref a0, .int x1, .int x2, .int x3, .int x4] w0 rF wF (x_mc rF) (x_ms rF) := by
  refine xOfW tg_X7_sumOfTonesByTable hl (lv0 := [(0, .ref a0), (1, .int x1), (2, .int x2), (3, .int x3), (4, .int x4)]) (Nat.le_of_ble_eq_true rfl) rfl ?_
  intro p e s m below meth c G hno hin
  rw [f_X7_sumOfTonesByTable] at hyp
  refine r_aload_n G 0 dX7_sumOfTonesByTable_0 rfl rfl ?_
  refine r_iload_n G 1 dX7_sumOfTonesByTable_1 rfl rfl ?_
  refine r_iload_n G 2 dX7_sumOfTonesByTable_2 rfl rfl ?_
  refine r_iload_n G 3 dX7_sumOfTonesByTable_3 rfl rfl ?_
  refine r_iload G 4 dX7_sumOfTonesByTable_4 rfl ?_
  obtain ⟨o3, hyp⟩ := x_chk hyp
  refine r_callV (ι := xI) (T := TX7) (N := 22) (ci := 7) (b := a0) (rest := []) (As := [.int x1, .int x2, .int x3, .int x4]) G hno tg_X7_sumOfTones (fun r w' h => ct_X7_sumOfTones (xhl G) _ _ _ _ _ _ r w' h) o3 hyp rfl ww_791 ww_793 ww_792 (by decide) (by decide) rfl rfl (xroom (Nat.le_of_ble_eq_true rfl)) dX7_sumOfTonesByTable_6 (push := (fun r2 => [.int r2])) (fun _ => rfl) (fun r2 w1 hyp => ?_)
  exact r_iret G hyp rfl (Nat.zero_le _) (Nat.zero_le _) dX7_sumOfTonesByTable_9
theorem tg_X7_thrown : xTgt yX7_thrown cX7_thrown 1 (some .int) 0 := ⟨ww_795, ww_574, by decide, by decide +kernel, by decide +kernel⟩
section
variable {Γ : xG} {p : Program} {l : Launch} {e : Env} {s : State} {m : MethodId} {args : Array Value} {below : List Frame} {meth : Method} {c : Code} {rF : Int32 ⊕ String} {wF : xW}
end
set_option maxRecDepth 100000 in
set_option maxHeartbeats 4000000 in
theorem ct_X7_thrown {Γ : xG} {l : Launch} (hl : l.stackTraces = false) (a0 : Nat) (w0 : xW) (rF : Int32 ⊕ String) (wF : xW) (hyp : f_X7_thrown a0 w0 = some (rF, wF)) : xMet Γ l yX7_thrown (xws yX7_thrown cX7_thrown 1 (some .int)) 0 xI [.ref a0] w0 rF wF (x_mc rF) (x_ms rF) := by
  refine xOfW tg_X7_thrown hl (lv0 := [(0, .ref a0)]) (Nat.le_of_ble_eq_true rfl) rfl ?_
  intro p e s m below meth c G hno hin
  rw [f_X7_thrown] at hyp
  refine r_aload_n G 0 dX7_thrown_0 rfl rfl ?_
  obtain ⟨v1, hv1, hyp⟩ := x_some hyp
  refine r_getv (C := RX7) (T := TX7) (N := 22) (ci := 7) G 0 (x_geti_e hv1) rfl uw_7 (Nat.le_of_ble_eq_true rfl) rfl ww_594 dX7_thrown_1 ?_
  exact r_iret G hyp rfl (Nat.zero_le _) (Nat.zero_le _) dX7_thrown_4
theorem tg_X7_tone : xTgt yX7_tone cX7_tone 4 (some .int) 3 := ⟨ww_796, ww_574, by decide, by decide +kernel, by decide +kernel⟩
section
variable {Γ : xG} {p : Program} {l : Launch} {e : Env} {s : State} {m : MethodId} {args : Array Value} {below : List Frame} {meth : Method} {c : Code} {rF : Int32 ⊕ String} {wF : xW}
set_option maxRecDepth 100000 in
set_option maxHeartbeats 4000000 in
theorem nd_X7_tone_J40 (G : xCx Γ p l s m args meth c RX7 cX7_tone 4 (some .int)) (hno : ∀ x ∈ c.exceptionTable.toList, False) (a0 : Nat) (x1 : Int32) (x2 : Int32) (x3 : Int32) (s0 : Int32) (s1 : Option Nat) (w0 : xW) (hyp : f_X7_tone_J40 a0 x1 x2 x3 s0 s1 w0 = some (rF, wF)) : xAW Γ p l e (xRm 2 (x_mc rF) (x_ms rF)) s m args below meth c 4 (xQm Γ below xI rF wF args s (x_mc rF) (x_ms rF)) w0 0 0 40 [(0, .ref a0), (1, .int x1), (2, .int x2), (3, .int x3)] [.int s0, va_rf s1] := by
  rw [f_X7_tone_J40] at hyp
  refine r_ref hyp (fun a5 ha5 hz => ?_)
  clear hyp; subst ha5; have hyp := hz; clear hz
  obtain ⟨w6, hw6, hyp⟩ := x_some hyp
  refine r_putv (C := RX7) (T := TX7) (N := 22) (ci := 7) G tyX7 tyX7_ok nmX7 0 hw6 rfl uw_7 (Nat.le_of_ble_eq_true rfl) rfl ww_594 rfl rfl rfl dX7_tone_40 ?_
  refine r_aload_n G 0 dX7_tone_43 rfl rfl ?_
  obtain ⟨v7, hv7, hyp⟩ := x_some hyp
  refine r_getv (C := RX7) (T := TX7) (N := 22) (ci := 7) G 0 (x_geti_e hv7) rfl uw_7 (Nat.le_of_ble_eq_true rfl) rfl ww_594 dX7_tone_44 ?_
  refine r_if_le G 54 dX7_tone_47 (by decide) hyp (fun c8 hyp => ?_) (fun c8 hyp => ?_)
  · refine r_aload_n G 0 dX7_tone_54 rfl rfl ?_
    refine r_iload_n G 1 dX7_tone_55 rfl rfl ?_
    refine r_bipush (v := 8) G dX7_tone_56 (by decide) ?_
    refine r_iload_n G 3 dX7_tone_58 rfl rfl ?_
    refine r_imul G dX7_tone_59 ?_
    refine r_iload_n G 2 dX7_tone_60 rfl rfl ?_
    refine r_iadd G dX7_tone_61 ?_
    obtain ⟨o11, hyp⟩ := x_chk hyp
    refine r_callV (ι := xI) (T := TX7) (N := 22) (ci := 7) (b := a0) (rest := []) (As := [.int x1, .int ((8 * x3) + x2)]) G hno tg_X7_at (fun r w' h => ct_X7_at (xhl G) _ _ _ _ r w' h) o11 hyp rfl ww_621 ww_623 ww_622 (by decide) (by decide) rfl rfl (xroom (Nat.le_of_ble_eq_true rfl)) dX7_tone_62 (push := (fun r10 => [.int r10])) (fun _ => rfl) (fun r10 w9 hyp => ?_)
    refine r_iconst (v := 1) G dX7_tone_65 (by decide) ?_
    refine r_isub G dX7_tone_66 ?_
    exact r_iret G hyp rfl (Nat.zero_le _) (Nat.zero_le _) dX7_tone_67
  · refine r_iconst (v := 0) G dX7_tone_50 (by decide) ?_
    refine r_goto G 67 dX7_tone_51 (by decide) ?_
    exact r_iret G hyp rfl (Nat.zero_le _) (Nat.zero_le _) dX7_tone_67
set_option maxRecDepth 100000 in
set_option maxHeartbeats 4000000 in
theorem nd_X7_tone_J17 (G : xCx Γ p l s m args meth c RX7 cX7_tone 4 (some .int)) (hno : ∀ x ∈ c.exceptionTable.toList, False) (a0 : Nat) (x1 : Int32) (x2 : Int32) (x3 : Int32) (s0 : Option Nat) (w0 : xW) (hyp : f_X7_tone_J17 a0 x1 x2 x3 s0 w0 = some (rF, wF)) : xAW Γ p l e (xRm 2 (x_mc rF) (x_ms rF)) s m args below meth c 4 (xQm Γ below xI rF wF args s (x_mc rF) (x_ms rF)) w0 0 0 17 [(0, .ref a0), (1, .int x1), (2, .int x2), (3, .int x3)] [va_rf s0] := by
  rw [f_X7_tone_J17] at hyp
  refine r_iconst (v := 1) G dX7_tone_17 (by decide) ?_
  refine r_goto G 40 dX7_tone_18 (by decide) ?_
  exact nd_X7_tone_J40 G hno a0 x1 x2 x3 1 s0 w0 hyp
end
set_option maxRecDepth 100000 in
set_option maxHeartbeats 4000000 in
theorem ct_X7_tone {Γ : xG} {l : Launch} (hl : l.stackTraces = false) (a0 : Nat) (x1 : Int32) (x2 : Int32) (x3 : Int32) (w0 : xW) (rF : Int32 ⊕ String) (wF : xW) (hyp : f_X7_tone a0 x1 x2 x3 w0 = some (rF, wF)) : xMet Γ l yX7_tone (xws yX7_tone cX7_tone 4 (some .int)) 2 xI [.ref a0, .int x1, .int x2, .int x3] w0 rF wF (x_mc rF) (x_ms rF) := by
  refine xOfW tg_X7_tone hl (lv0 := [(0, .ref a0), (1, .int x1), (2, .int x2), (3, .int x3)]) (Nat.le_of_ble_eq_true rfl) rfl ?_
  intro p e s m below meth c G hno hin
  rw [f_X7_tone] at hyp
  refine r_aload_n G 0 dX7_tone_0 rfl rfl ?_
  refine r_aload_n G 0 dX7_tone_1 rfl rfl ?_
  refine r_iload_n G 1 dX7_tone_2 rfl rfl ?_
  obtain ⟨o3, hyp⟩ := x_chk hyp
  refine r_callV (ι := xI) (T := TX7) (N := 22) (ci := 7) (b := a0) (rest := [.ref a0]) (As := [.int x1]) G hno tg_X7_isLayer (fun r w' h => ct_X7_isLayer (xhl G) _ _ _ r w' h) o3 hyp rfl ww_678 ww_680 ww_679 (by decide) (by decide) rfl rfl (xroom (Nat.le_of_ble_eq_true rfl)) dX7_tone_3 (push := (fun r2 => [.int r2, .ref a0])) (fun _ => rfl) (fun r2 w1 hyp => ?_)
  refine r_if_eq G 17 dX7_tone_6 (by decide) hyp (fun c4 hyp => ?_) (fun c4 hyp => ?_)
  · exact nd_X7_tone_J17 G hno a0 x1 x2 x3 (some a0) w1 hyp
  · refine r_iload_n G 2 dX7_tone_9 rfl rfl ?_
    refine r_iload_n G 3 dX7_tone_10 rfl rfl ?_
    refine r_callS (ι := xI) (rest := [.ref a0]) (As := [.int x2, .int x3]) G hno tg_X7_isCell (fun r w' h => ct_X7_isCell (xhl G) _ _ _ r w' h) hyp ww_651 ww_652 (by decide) (by decide) rfl rfl (xroom (Nat.le_of_ble_eq_true rfl)) dX7_tone_11 (push := (fun r13 => [.int r13, .ref a0])) (fun _ => rfl) (fun r13 w12 hyp => ?_)
    refine r_if_ne G 21 dX7_tone_14 (by decide) hyp (fun c14 hyp => ?_) (fun c14 hyp => ?_)
    · refine r_aload_n G 0 dX7_tone_21 rfl rfl ?_
      refine r_iload_n G 1 dX7_tone_22 rfl rfl ?_
      refine r_bipush (v := 8) G dX7_tone_23 (by decide) ?_
      refine r_iload_n G 3 dX7_tone_25 rfl rfl ?_
      refine r_imul G dX7_tone_26 ?_
      refine r_iload_n G 2 dX7_tone_27 rfl rfl ?_
      refine r_iadd G dX7_tone_28 ?_
      obtain ⟨o17, hyp⟩ := x_chk hyp
      refine r_callV (ι := xI) (T := TX7) (N := 22) (ci := 7) (b := a0) (rest := [.ref a0]) (As := [.int x1, .int ((8 * x3) + x2)]) G hno tg_X7_at (fun r w' h => ct_X7_at (xhl G) _ _ _ _ r w' h) o17 hyp rfl ww_621 ww_623 ww_622 (by decide) (by decide) rfl rfl (xroom (Nat.le_of_ble_eq_true rfl)) dX7_tone_29 (push := (fun r16 => [.int r16, .ref a0])) (fun _ => rfl) (fun r16 w15 hyp => ?_)
      refine r_if_ne G 39 dX7_tone_32 (by decide) hyp (fun c18 hyp => ?_) (fun c18 hyp => ?_)
      · refine r_iconst (v := 0) G dX7_tone_39 (by decide) ?_
        exact nd_X7_tone_J40 G hno a0 x1 x2 x3 0 (some a0) w15 hyp
      · refine r_iconst (v := 2) G dX7_tone_35 (by decide) ?_
        refine r_goto G 40 dX7_tone_36 (by decide) ?_
        exact nd_X7_tone_J40 G hno a0 x1 x2 x3 2 (some a0) w15 hyp
    · exact nd_X7_tone_J17 G hno a0 x1 x2 x3 (some a0) w12 hyp
