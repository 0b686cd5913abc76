theorem tg_X2_fetchPrepared : xTgt yX2_fetchPrepared cX2_fetchPrepared 3 none 1 := ⟨ww_505, ww_51, by decide, by decide +kernel, by decide +kernel⟩
section
variable {Γ : xG} {p : Program} {l : Launch} {e : Env} {s : State} {m : MethodId} {args : Array Value} {below : List Frame} {meth : Method} {c : Code} {rF : Unit ⊕ String} {wF : xW}
end
set_option maxRecDepth 100000 in
set_option maxHeartbeats 4000000 in
theorem ct_X2_fetchPrepared {Γ : xG} {l : Launch} (hl : l.stackTraces = false) (a0 : Nat) (x1 : Option Nat) (w0 : xW) (rF : Unit ⊕ String) (wF : xW) (hyp : f_X2_fetchPrepared a0 x1 w0 = some (rF, wF)) : xMet Γ l yX2_fetchPrepared (xws yX2_fetchPrepared cX2_fetchPrepared 3 none) 3 xV [.ref a0, va_rf x1] w0 rF wF (x_mc rF) (x_ms rF) := by
  refine xOfW tg_X2_fetchPrepared hl (lv0 := [(0, .ref a0), (1, va_rf x1)]) (by cases x1 <;> exact Nat.le_of_ble_eq_true rfl) (by cases x1 <;> rfl) ?_
  intro p e s m below meth c G hno hin
  rw [f_X2_fetchPrepared] at hyp
  refine r_aload_n G 0 dX2_fetchPrepared_0 rfl rfl ?_
  obtain ⟨o3, hyp⟩ := x_chk hyp
  refine r_callV (ι := xQ) (T := TX2) (N := 3) (ci := 2) (b := a0) (rest := []) (As := []) G hno tg_X2_nextSlot (fun r w' h => ct_X2_nextSlot (xhl G) _ _ r w' h) o3 hyp rfl ww_106 ww_108 ww_107 (by decide) (by decide) rfl rfl (xroom (Nat.le_of_ble_eq_true rfl)) dX2_fetchPrepared_1 (push := (fun r2 => [va_rf r2])) (fun _ => rfl) (fun r2 w1 hyp => ?_)
  refine r_astore_nq (lv' := [(2, va_rf r2), (0, .ref a0), (1, va_rf x1)]) G dX2_fetchPrepared_4 rfl (by decide) ⟨fun _ => rfl, fun _ => xcq _, trivial⟩ rfl ?_
  refine r_aload_nq G 0 dX2_fetchPrepared_5 rfl rfl ?_
  refine r_ifnull G 14 dX2_fetchPrepared_6 (by decide) hyp (fun hyp => ?_) (fun a4 ha4 hz => ?_)
  · exact r_vret G hyp (Nat.zero_le _) (Nat.zero_le _) dX2_fetchPrepared_14
  · clear hyp; subst ha4; have hyp := hz; clear hz
    refine r_aload_nq G 2 dX2_fetchPrepared_9 rfl rfl ?_
    refine r_aload_n G 0 dX2_fetchPrepared_10 rfl rfl ?_
    refine r_ref hyp (fun a5 ha5 hz => ?_)
    clear hyp; subst ha5; have hyp := hz; clear hz
    obtain ⟨o8, hyp⟩ := x_chk hyp
    refine r_callV (ι := xV) (T := TX4) (N := 4) (ci := 4) (b := a5) (rest := []) (As := [va_rf (some a4)]) G hno tg_X4_copyFrom (fun r w' h => ct_X4_copyFrom (xhl G) _ _ _ r w' h) o8 hyp rfl ww_109 ww_111 ww_110 (by decide) (by decide) rfl rfl (xroom (Nat.le_of_ble_eq_true rfl)) dX2_fetchPrepared_11 (push := (fun _ => [])) (fun _ => rfl) (fun _ w6 hyp => ?_)
    exact r_vret G hyp (Nat.zero_le _) (Nat.zero_le _) dX2_fetchPrepared_14
theorem tg_X6_runCommands : xTgt yX6_runCommands cX6_runCommands 3 (some .int) 0 := ⟨ww_519, ww_86, by decide, by decide +kernel, by decide +kernel⟩
section
variable {Γ : xG} {p : Program} {l : Launch} {e : Env} {s : State} {m : MethodId} {args : Array Value} {below : List Frame} {meth : Method} {c : Code} {rF : Int32 ⊕ String} {wF : xW}
end
set_option maxRecDepth 100000 in
set_option maxHeartbeats 4000000 in
theorem ct_X6_runCommands {Γ : xG} {l : Launch} (hl : l.stackTraces = false) (a0 : Nat) (w0 : xW) (rF : Int32 ⊕ String) (wF : xW) (hyp : f_X6_runCommands a0 w0 = some (rF, wF)) : xMet Γ l yX6_runCommands (xws yX6_runCommands cX6_runCommands 3 (some .int)) 7 xI [.ref a0] w0 rF wF (x_mc rF) (x_ms rF) := by
  refine xOfW tg_X6_runCommands hl (lv0 := [(0, .ref a0)]) (Nat.le_of_ble_eq_true rfl) rfl ?_
  intro p e s m below meth c G hno hin
  rw [f_X6_runCommands] at hyp
  refine r_aload_n G 0 dX6_runCommands_0 rfl rfl ?_
  obtain ⟨v1, hv1, hyp⟩ := x_some hyp
  refine r_getv (C := RX6) (T := TX6) (N := 9) (ci := 6) G 5 (x_getr_e hv1) rfl uw_6 (Nat.le_of_ble_eq_true rfl) rfl ww_77 dX6_runCommands_1 ?_
  refine r_ref hyp (fun a2 ha2 hz => ?_)
  clear hyp; subst ha2; have hyp := hz; clear hz
  obtain ⟨o5, hyp⟩ := x_chk hyp
  refine r_callV (ι := xI) (T := TX0) (N := 6) (ci := 0) (b := a2) (rest := []) (As := []) G hno tg_X0_countCommands (fun r w' h => ct_X0_countCommands (xhl G) _ _ r w' h) o5 hyp rfl ww_506 ww_508 ww_507 (by decide) (by decide) rfl rfl (xroom (Nat.le_of_ble_eq_true rfl)) dX6_runCommands_4 (push := (fun r4 => [.int r4])) (fun _ => rfl) (fun r4 w3 hyp => ?_)
  refine r_istore_n (lv' := [(1, .int r4), (0, .ref a0)]) G dX6_runCommands_7 rfl (by decide) ⟨fun _ => rfl, trivial⟩ rfl ?_
  refine r_iload_n G 0 dX6_runCommands_8 rfl rfl ?_
  refine r_iconst (v := (-1)) G dX6_runCommands_9 (by decide) ?_
  refine r_icmp_ne G 42 dX6_runCommands_10 (by decide) hyp (fun c6 hyp => ?_) (fun c6 hyp => ?_)
  · refine r_aload_n G 1 dX6_runCommands_42 rfl rfl ?_
    obtain ⟨v7, hv7, hyp⟩ := x_some hyp
    refine r_getv (C := RX6) (T := TX6) (N := 9) (ci := 6) G 1 (x_getr_e hv7) rfl uw_6 (Nat.le_of_ble_eq_true rfl) rfl ww_65 dX6_runCommands_43 ?_
    refine r_aload_n G 1 dX6_runCommands_46 rfl rfl ?_
    obtain ⟨v8, hv8, hyp⟩ := x_some hyp
    refine r_getv (C := RX6) (T := TX6) (N := 9) (ci := 6) G 0 (x_getr_e hv8) rfl uw_6 (Nat.le_of_ble_eq_true rfl) rfl ww_60 dX6_runCommands_47 ?_
    refine r_ref hyp (fun a9 ha9 hz => ?_)
    clear hyp; subst ha9; have hyp := hz; clear hz
    obtain ⟨o12, hyp⟩ := x_chk hyp
    refine r_callV (ι := xV) (T := TX2) (N := 3) (ci := 2) (b := a9) (rest := []) (As := [va_rf v8]) G hno tg_X2_prepare (fun r w' h => ct_X2_prepare (xhl G) _ _ _ r w' h) o12 hyp rfl ww_129 ww_131 ww_130 (by decide) (by decide) rfl rfl (xroom (Nat.le_of_ble_eq_true rfl)) dX6_runCommands_50 (push := (fun _ => [])) (fun _ => rfl) (fun _ w10 hyp => ?_)
    refine r_aload_n G 1 dX6_runCommands_53 rfl rfl ?_
    refine r_iload_n G 0 dX6_runCommands_54 rfl rfl ?_
    obtain ⟨o15, hyp⟩ := x_chk hyp
    refine r_callV (ι := xI) (T := TX6) (N := 9) (ci := 6) (b := a0) (rest := []) (As := [.int r4]) G hno tg_X6_carryOutUntilFailure (fun r w' h => ct_X6_carryOutUntilFailure (xhl G) _ _ _ r w' h) o15 hyp rfl ww_509 ww_511 ww_510 (by decide) (by decide) rfl rfl (xroom (Nat.le_of_ble_eq_true rfl)) dX6_runCommands_55 (push := (fun r14 => [.int r14])) (fun _ => rfl) (fun r14 w13 hyp => ?_)
    refine r_istore_n (lv' := [(2, .int r14), (1, .int r4), (0, .ref a0)]) G dX6_runCommands_58 rfl (by decide) ⟨fun _ => rfl, fun _ => rfl, trivial⟩ rfl ?_
    refine r_aload_n G 2 dX6_runCommands_59 rfl rfl ?_
    obtain ⟨v16, hv16, hyp⟩ := x_some hyp
    refine r_getv (C := RX6) (T := TX6) (N := 9) (ci := 6) G 5 (x_getr_e hv16) rfl uw_6 (Nat.le_of_ble_eq_true rfl) rfl ww_77 dX6_runCommands_60 ?_
    refine r_ref hyp (fun a17 ha17 hz => ?_)
    clear hyp; subst ha17; have hyp := hz; clear hz
    obtain ⟨o20, hyp⟩ := x_chk hyp
    refine r_callV (ι := xV) (T := TX0) (N := 6) (ci := 0) (b := a17) (rest := []) (As := []) G hno tg_X0_clear (fun r w' h => ct_X0_clear (xhl G) _ _ r w' h) o20 hyp rfl ww_512 ww_514 ww_513 (by decide) (by decide) rfl rfl (xroom (Nat.le_of_ble_eq_true rfl)) dX6_runCommands_63 (push := (fun _ => [])) (fun _ => rfl) (fun _ w18 hyp => ?_)
    refine r_iload_n G 0 dX6_runCommands_66 rfl rfl ?_
    refine r_iconst (v := (-1)) G dX6_runCommands_67 (by decide) ?_
    refine r_icmp_eq G 98 dX6_runCommands_68 (by decide) hyp (fun c21 hyp => ?_) (fun c21 hyp => ?_)
    · refine r_aload_n G 2 dX6_runCommands_98 rfl rfl ?_
      obtain ⟨v22, hv22, hyp⟩ := x_some hyp
      refine r_getv (C := RX6) (T := TX6) (N := 9) (ci := 6) G 1 (x_getr_e hv22) rfl uw_6 (Nat.le_of_ble_eq_true rfl) rfl ww_65 dX6_runCommands_99 ?_
      refine r_ref hyp (fun a23 ha23 hz => ?_)
      clear hyp; subst ha23; have hyp := hz; clear hz
      obtain ⟨o26, hyp⟩ := x_chk hyp
      refine r_callV (ι := xV) (T := TX2) (N := 3) (ci := 2) (b := a23) (rest := []) (As := []) G hno tg_X2_commit (fun r w' h => ct_X2_commit (xhl G) _ _ r w' h) o26 hyp rfl ww_135 ww_137 ww_136 (by decide) (by decide) rfl rfl (xroom (Nat.le_of_ble_eq_true rfl)) dX6_runCommands_102 (push := (fun _ => [])) (fun _ => rfl) (fun _ w24 hyp => ?_)
      refine r_iload_n G 1 dX6_runCommands_105 rfl rfl ?_
      exact r_iret G hyp rfl (Nat.zero_le _) (Nat.zero_le _) dX6_runCommands_106
    · refine r_aload_n G 2 dX6_runCommands_71 rfl rfl ?_
      refine r_iload_n G 0 dX6_runCommands_72 rfl rfl ?_
      obtain ⟨w27, hw27, hyp⟩ := x_some hyp
      refine r_putv (C := RX6) (T := TX6) (N := 9) (ci := 6) G tyX6 tyX6_ok nmX6 8 hw27 rfl uw_6 (Nat.le_of_ble_eq_true rfl) rfl ww_84 rfl rfl rfl dX6_runCommands_73 ?_
      refine r_aload_n G 2 dX6_runCommands_76 rfl rfl ?_
      obtain ⟨v28, hv28, hyp⟩ := x_some hyp
      refine r_getv (C := RX6) (T := TX6) (N := 9) (ci := 6) G 1 (x_getr_e hv28) rfl uw_6 (Nat.le_of_ble_eq_true rfl) rfl ww_65 dX6_runCommands_77 ?_
      refine r_aload_n G 2 dX6_runCommands_80 rfl rfl ?_
      obtain ⟨v29, hv29, hyp⟩ := x_some hyp
      refine r_getv (C := RX6) (T := TX6) (N := 9) (ci := 6) G 0 (x_getr_e hv29) rfl uw_6 (Nat.le_of_ble_eq_true rfl) rfl ww_60 dX6_runCommands_81 ?_
      refine r_ref hyp (fun a30 ha30 hz => ?_)
      clear hyp; subst ha30; have hyp := hz; clear hz
      obtain ⟨o33, hyp⟩ := x_chk hyp
      refine r_callV (ι := xV) (T := TX2) (N := 3) (ci := 2) (b := a30) (rest := []) (As := [va_rf v29]) G hno tg_X2_fetchPrepared (fun r w' h => ct_X2_fetchPrepared (xhl G) _ _ _ r w' h) o33 hyp rfl ww_515 ww_517 ww_516 (by decide) (by decide) rfl rfl (xroom (Nat.le_of_ble_eq_true rfl)) dX6_runCommands_84 (push := (fun _ => [])) (fun _ => rfl) (fun _ w31 hyp => ?_)
      exact r_throwW 27 G hno hyp th_RX6_128 lit_27 (by decide) dX6_runCommands_87 dX6_runCommands_90 dX6_runCommands_91 dX6_runCommands_94 dX6_runCommands_97
  · refine r_aload_n G 1 dX6_runCommands_13 rfl rfl ?_
    refine r_aload_n G 1 dX6_runCommands_14 rfl rfl ?_
    obtain ⟨v34, hv34, hyp⟩ := x_some hyp
    refine r_getv (C := RX6) (T := TX6) (N := 9) (ci := 6) G 5 (x_getr_e hv34) rfl uw_6 (Nat.le_of_ble_eq_true rfl) rfl ww_77 dX6_runCommands_15 ?_
    refine r_ref hyp (fun a35 ha35 hz => ?_)
    clear hyp; subst ha35; have hyp := hz; clear hz
    obtain ⟨v36, hv36, hyp⟩ := x_some hyp
    refine r_getvN (C := RX0) (T := TX0) (N := 6) (ci := 0) G 2 (x_geti_e hv36) rfl uw_0 (Nat.le_of_ble_eq_true rfl) rfl ww_518 dX6_runCommands_18 ?_
    obtain ⟨w37, hw37, hyp⟩ := x_some hyp
    refine r_putv (C := RX6) (T := TX6) (N := 9) (ci := 6) G tyX6 tyX6_ok nmX6 7 hw37 rfl uw_6 (Nat.le_of_ble_eq_true rfl) rfl ww_83 rfl rfl rfl dX6_runCommands_21 ?_
    refine r_aload_n G 1 dX6_runCommands_24 rfl rfl ?_
    obtain ⟨v38, hv38, hyp⟩ := x_some hyp
    refine r_getv (C := RX6) (T := TX6) (N := 9) (ci := 6) G 5 (x_getr_e hv38) rfl uw_6 (Nat.le_of_ble_eq_true rfl) rfl ww_77 dX6_runCommands_25 ?_
    refine r_ref hyp (fun a39 ha39 hz => ?_)
    clear hyp; subst ha39; have hyp := hz; clear hz
    obtain ⟨o42, hyp⟩ := x_chk hyp
    refine r_callV (ι := xV) (T := TX0) (N := 6) (ci := 0) (b := a39) (rest := []) (As := []) G hno tg_X0_clear (fun r w' h => ct_X0_clear (xhl G) _ _ r w' h) o42 hyp rfl ww_512 ww_514 ww_513 (by decide) (by decide) rfl rfl (xroom (Nat.le_of_ble_eq_true rfl)) dX6_runCommands_28 (push := (fun _ => [])) (fun _ => rfl) (fun _ w40 hyp => ?_)
    exact r_throwW 26 G hno hyp th_RX6_70 lit_26 (by decide) dX6_runCommands_31 dX6_runCommands_34 dX6_runCommands_35 dX6_runCommands_38 dX6_runCommands_41
theorem tg_X6_save : xTgt yX6_save cX6_save 1 (some .int) 0 := ⟨ww_520, ww_86, by decide, by decide +kernel, by decide +kernel⟩
section
variable {Γ : xG} {p : Program} {l : Launch} {e : Env} {s : State} {m : MethodId} {args : Array Value} {below : List Frame} {meth : Method} {c : Code} {rF : Int32 ⊕ String} {wF : xW}
end
set_option maxRecDepth 100000 in
set_option maxHeartbeats 4000000 in
theorem ct_X6_save {Γ : xG} {l : Launch} (hl : l.stackTraces = false) (a0 : Nat) (w0 : xW) (rF : Int32 ⊕ String) (wF : xW) (hyp : f_X6_save a0 w0 = some (rF, wF)) : xMet Γ l yX6_save (xws yX6_save cX6_save 1 (some .int)) 3 xI [.ref a0] w0 rF wF (x_mc rF) (x_ms rF) := by
  refine xOfW tg_X6_save hl (lv0 := [(0, .ref a0)]) (Nat.le_of_ble_eq_true rfl) rfl ?_
  intro p e s m below meth c G hno hin
  rw [f_X6_save] at hyp
  refine r_aload_n G 0 dX6_save_0 rfl rfl ?_
  obtain ⟨v1, hv1, hyp⟩ := x_some hyp
  refine r_getv (C := RX6) (T := TX6) (N := 9) (ci := 6) G 2 (x_getr_e hv1) rfl uw_6 (Nat.le_of_ble_eq_true rfl) rfl ww_66 dX6_save_1 ?_
  refine r_aload_n G 0 dX6_save_4 rfl rfl ?_
  obtain ⟨v2, hv2, hyp⟩ := x_some hyp
  refine r_getv (C := RX6) (T := TX6) (N := 9) (ci := 6) G 0 (x_getr_e hv2) rfl uw_6 (Nat.le_of_ble_eq_true rfl) rfl ww_60 dX6_save_5 ?_
  refine r_ref hyp (fun a3 ha3 hz => ?_)
  clear hyp; subst ha3; have hyp := hz; clear hz
  obtain ⟨o6, hyp⟩ := x_chk hyp
  refine r_callV (ι := xV) (T := TX4) (N := 4) (ci := 4) (b := a3) (rest := []) (As := [va_rf v2]) G hno tg_X4_copyFrom (fun r w' h => ct_X4_copyFrom (xhl G) _ _ _ r w' h) o6 hyp rfl ww_495 ww_111 ww_110 (by decide) (by decide) rfl rfl (xroom (Nat.le_of_ble_eq_true rfl)) dX6_save_8 (push := (fun _ => [])) (fun _ => rfl) (fun _ w4 hyp => ?_)
  refine r_aload_n G 0 dX6_save_11 rfl rfl ?_
  refine r_iconst (v := 1) G dX6_save_12 (by decide) ?_
  obtain ⟨w7, hw7, hyp⟩ := x_some hyp
  refine r_putv (C := RX6) (T := TX6) (N := 9) (ci := 6) G tyX6 tyX6_ok nmX6 3 hw7 rfl uw_6 (Nat.le_of_ble_eq_true rfl) rfl ww_67 rfl (by decide) (by decide) dX6_save_13 ?_
  refine r_aload_n G 0 dX6_save_16 rfl rfl ?_
  obtain ⟨v8, hv8, hyp⟩ := x_some hyp
  refine r_getv (C := RX6) (T := TX6) (N := 9) (ci := 6) G 0 (x_getr_e hv8) rfl uw_6 (Nat.le_of_ble_eq_true rfl) rfl ww_60 dX6_save_17 ?_
  refine r_ref hyp (fun a9 ha9 hz => ?_)
  clear hyp; subst ha9; have hyp := hz; clear hz
  obtain ⟨v10, hv10, hyp⟩ := x_some hyp
  refine r_getvN (C := RX4) (T := TX4) (N := 4) (ci := 4) G 1 (x_geti_e hv10) rfl uw_4 (Nat.le_of_ble_eq_true rfl) rfl ww_474 dX6_save_20 ?_
  exact r_iret G hyp rfl (Nat.zero_le _) (Nat.zero_le _) dX6_save_23
theorem tg_X6_seen : xTgt yX6_seen cX6_seen 3 (some .int) 2 := ⟨ww_522, ww_86, by decide, by decide +kernel, by decide +kernel⟩
section
variable {Γ : xG} {p : Program} {l : Launch} {e : Env} {s : State} {m : MethodId} {args : Array Value} {below : List Frame} {meth : Method} {c : Code} {rF : Int32 ⊕ String} {wF : xW}
end
set_option maxRecDepth 100000 in
set_option maxHeartbeats 4000000 in
theorem ct_X6_seen {Γ : xG} {l : Launch} (hl : l.stackTraces = false) (a0 : Nat) (x1 : Int32) (x2 : Int32) (w0 : xW) (rF : Int32 ⊕ String) (wF : xW) (hyp : f_X6_seen a0 x1 x2 w0 = some (rF, wF)) : xMet Γ l yX6_seen (xws yX6_seen cX6_seen 3 (some .int)) 7 xI [.ref a0, .int x1, .int x2] w0 rF wF (x_mc rF) (x_ms rF) := by
  refine xOfW tg_X6_seen hl (lv0 := [(0, .ref a0), (1, .int x1), (2, .int x2)]) (Nat.le_of_ble_eq_true rfl) rfl ?_
  intro p e s m below meth c G hno hin
  rw [f_X6_seen] at hyp
  refine r_aload_n G 0 dX6_seen_0 rfl rfl ?_
  obtain ⟨v1, hv1, hyp⟩ := x_some hyp
  refine r_getv (C := RX6) (T := TX6) (N := 9) (ci := 6) G 0 (x_getr_e hv1) rfl uw_6 (Nat.le_of_ble_eq_true rfl) rfl ww_60 dX6_seen_1 ?_
  refine r_iconst (v := 0) G dX6_seen_4 (by decide) ?_
  refine r_iload_n G 1 dX6_seen_5 rfl rfl ?_
  refine r_iload_n G 2 dX6_seen_6 rfl rfl ?_
  refine r_callS (ι := xI) (rest := [.int 0, va_rf v1]) (As := [.int x1, .int x2]) G hno tg_X6_existingCell (fun r w' h => ct_X6_existingCell (xhl G) _ _ _ r w' h) hyp ww_204 ww_205 (by decide) (by decide) rfl rfl (xroom (Nat.le_of_ble_eq_true rfl)) dX6_seen_7 (push := (fun r3 => [.int r3, .int 0, va_rf v1])) (fun _ => rfl) (fun r3 w2 hyp => ?_)
  refine r_ref hyp (fun a4 ha4 hz => ?_)
  clear hyp; subst ha4; have hyp := hz; clear hz
  obtain ⟨o7, hyp⟩ := x_chk hyp
  refine r_callV (ι := xI) (T := TX4) (N := 4) (ci := 4) (b := a4) (rest := []) (As := [.int 0, .int r3]) G hno tg_X4_toneFrom (fun r w' h => ct_X4_toneFrom (xhl G) _ _ _ _ r w' h) o7 hyp rfl ww_521 ww_153 ww_152 (by decide) (by decide) rfl rfl (xroom (Nat.le_of_ble_eq_true rfl)) dX6_seen_10 (push := (fun r6 => [.int r6])) (fun _ => rfl) (fun r6 w5 hyp => ?_)
  exact r_iret G hyp rfl (Nat.zero_le _) (Nat.zero_le _) dX6_seen_13
theorem tg_X6_seenFromTop : xTgt yX6_seenFromTop cX6_seenFromTop 3 (some .int) 2 := ⟨ww_524, ww_86, by decide, by decide +kernel, by decide +kernel⟩
section
variable {Γ : xG} {p : Program} {l : Launch} {e : Env} {s : State} {m : MethodId} {args : Array Value} {below : List Frame} {meth : Method} {c : Code} {rF : Int32 ⊕ String} {wF : xW}
end
set_option maxRecDepth 100000 in
set_option maxHeartbeats 4000000 in
theorem ct_X6_seenFromTop {Γ : xG} {l : Launch} (hl : l.stackTraces = false) (a0 : Nat) (x1 : Int32) (x2 : Int32) (w0 : xW) (rF : Int32 ⊕ String) (wF : xW) (hyp : f_X6_seenFromTop a0 x1 x2 w0 = some (rF, wF)) : xMet Γ l yX6_seenFromTop (xws yX6_seenFromTop cX6_seenFromTop 3 (some .int)) 7 xI [.ref a0, .int x1, .int x2] w0 rF wF (x_mc rF) (x_ms rF) := by
  refine xOfW tg_X6_seenFromTop hl (lv0 := [(0, .ref a0), (1, .int x1), (2, .int x2)]) (Nat.le_of_ble_eq_true rfl) rfl ?_
  intro p e s m below meth c G hno hin
  rw [f_X6_seenFromTop] at hyp
  refine r_aload_n G 0 dX6_seenFromTop_0 rfl rfl ?_
  obtain ⟨v1, hv1, hyp⟩ := x_some hyp
  refine r_getv (C := RX6) (T := TX6) (N := 9) (ci := 6) G 0 (x_getr_e hv1) rfl uw_6 (Nat.le_of_ble_eq_true rfl) rfl ww_60 dX6_seenFromTop_1 ?_
  refine r_iload_n G 1 dX6_seenFromTop_4 rfl rfl ?_
  refine r_iload_n G 2 dX6_seenFromTop_5 rfl rfl ?_
  refine r_callS (ι := xI) (rest := [va_rf v1]) (As := [.int x1, .int x2]) G hno tg_X6_existingCell (fun r w' h => ct_X6_existingCell (xhl G) _ _ _ r w' h) hyp ww_204 ww_205 (by decide) (by decide) rfl rfl (xroom (Nat.le_of_ble_eq_true rfl)) dX6_seenFromTop_6 (push := (fun r3 => [.int r3, va_rf v1])) (fun _ => rfl) (fun r3 w2 hyp => ?_)
  refine r_ref hyp (fun a4 ha4 hz => ?_)
  clear hyp; subst ha4; have hyp := hz; clear hz
  obtain ⟨o7, hyp⟩ := x_chk hyp
  refine r_callV (ι := xI) (T := TX4) (N := 4) (ci := 4) (b := a4) (rest := []) (As := [.int r3]) G hno tg_X4_toneFromTop (fun r w' h => ct_X4_toneFromTop (xhl G) _ _ _ r w' h) o7 hyp rfl ww_523 ww_427 ww_426 (by decide) (by decide) rfl rfl (xroom (Nat.le_of_ble_eq_true rfl)) dX6_seenFromTop_9 (push := (fun r6 => [.int r6])) (fun _ => rfl) (fun r6 w5 hyp => ?_)
  exact r_iret G hyp rfl (Nat.zero_le _) (Nat.zero_le _) dX6_seenFromTop_12
theorem tg_X6_show : xTgt yX6_show cX6_show 3 (some .int) 1 := ⟨ww_525, ww_86, by decide, by decide +kernel, by decide +kernel⟩
section
variable {Γ : xG} {p : Program} {l : Launch} {e : Env} {s : State} {m : MethodId} {args : Array Value} {below : List Frame} {meth : Method} {c : Code} {rF : Int32 ⊕ String} {wF : xW}
end
set_option maxRecDepth 100000 in
set_option maxHeartbeats 4000000 in
theorem ct_X6_show {Γ : xG} {l : Launch} (hl : l.stackTraces = false) (a0 : Nat) (x1 : Int32) (w0 : xW) (rF : Int32 ⊕ String) (wF : xW) (hyp : f_X6_show a0 x1 w0 = some (rF, wF)) : xMet Γ l yX6_show (xws yX6_show cX6_show 3 (some .int)) 6 xI [.ref a0, .int x1] w0 rF wF (x_mc rF) (x_ms rF) := by
  refine xOfW tg_X6_show hl (lv0 := [(0, .ref a0), (1, .int x1)]) (Nat.le_of_ble_eq_true rfl) rfl ?_
  intro p e s m below meth c G hno hin
  rw [f_X6_show] at hyp
  refine r_aload_n G 0 dX6_show_0 rfl rfl ?_
  obtain ⟨v1, hv1, hyp⟩ := x_some hyp
  refine r_getv (C := RX6) (T := TX6) (N := 9) (ci := 6) G 1 (x_getr_e hv1) rfl uw_6 (Nat.le_of_ble_eq_true rfl) rfl ww_65 dX6_show_1 ?_
  refine r_aload_n G 0 dX6_show_4 rfl rfl ?_
  obtain ⟨v2, hv2, hyp⟩ := x_some hyp
  refine r_getv (C := RX6) (T := TX6) (N := 9) (ci := 6) G 0 (x_getr_e hv2) rfl uw_6 (Nat.le_of_ble_eq_true rfl) rfl ww_60 dX6_show_5 ?_
  refine r_ref hyp (fun a3 ha3 hz => ?_)
  clear hyp; subst ha3; have hyp := hz; clear hz
  obtain ⟨o6, hyp⟩ := x_chk hyp
  refine r_callV (ι := xV) (T := TX2) (N := 3) (ci := 2) (b := a3) (rest := []) (As := [va_rf v2]) G hno tg_X2_prepare (fun r w' h => ct_X2_prepare (xhl G) _ _ _ r w' h) o6 hyp rfl ww_129 ww_131 ww_130 (by decide) (by decide) rfl rfl (xroom (Nat.le_of_ble_eq_true rfl)) dX6_show_8 (push := (fun _ => [])) (fun _ => rfl) (fun _ w4 hyp => ?_)
  refine r_aload_n G 0 dX6_show_11 rfl rfl ?_
  obtain ⟨v7, hv7, hyp⟩ := x_some hyp
  refine r_getv (C := RX6) (T := TX6) (N := 9) (ci := 6) G 0 (x_getr_e hv7) rfl uw_6 (Nat.le_of_ble_eq_true rfl) rfl ww_60 dX6_show_12 ?_
  refine r_iload_n G 1 dX6_show_15 rfl rfl ?_
  refine r_iconst (v := 1) G dX6_show_16 (by decide) ?_
  refine r_ref hyp (fun a8 ha8 hz => ?_)
  clear hyp; subst ha8; have hyp := hz; clear hz
  obtain ⟨o11, hyp⟩ := x_chk hyp
  refine r_callV (ι := xI) (T := TX4) (N := 4) (ci := 4) (b := a8) (rest := []) (As := [.int x1, .int 1]) G hno tg_X4_turnVisible (fun r w' h => ct_X4_turnVisible (xhl G) _ _ _ _ r w' h) o11 hyp rfl ww_281 ww_283 ww_282 (by decide) (by decide) rfl rfl (xroom (Nat.le_of_ble_eq_true rfl)) dX6_show_17 (push := (fun r10 => [.int r10])) (fun _ => rfl) (fun r10 w9 hyp => ?_)
  refine r_istore_n (lv' := [(2, .int r10), (0, .ref a0), (1, .int x1)]) G dX6_show_20 rfl (by decide) ⟨fun _ => rfl, fun _ => rfl, trivial⟩ rfl ?_
  refine r_iload_n G 0 dX6_show_21 rfl rfl ?_
  refine r_bipush (v := (-2)) G dX6_show_22 (by decide) ?_
  refine r_icmp_ne G 37 dX6_show_24 (by decide) hyp (fun c12 hyp => ?_) (fun c12 hyp => ?_)
  · refine r_iload_n G 0 dX6_show_37 rfl rfl ?_
    refine r_bipush (v := (-4)) G dX6_show_38 (by decide) ?_
    refine r_icmp_ne G 53 dX6_show_40 (by decide) hyp (fun c13 hyp => ?_) (fun c13 hyp => ?_)
    · refine r_aload_n G 1 dX6_show_53 rfl rfl ?_
      obtain ⟨v14, hv14, hyp⟩ := x_some hyp
      refine r_getv (C := RX6) (T := TX6) (N := 9) (ci := 6) G 1 (x_getr_e hv14) rfl uw_6 (Nat.le_of_ble_eq_true rfl) rfl ww_65 dX6_show_54 ?_
      refine r_ref hyp (fun a15 ha15 hz => ?_)
      clear hyp; subst ha15; have hyp := hz; clear hz
      obtain ⟨o18, hyp⟩ := x_chk hyp
      refine r_callV (ι := xV) (T := TX2) (N := 3) (ci := 2) (b := a15) (rest := []) (As := []) G hno tg_X2_commit (fun r w' h => ct_X2_commit (xhl G) _ _ r w' h) o18 hyp rfl ww_135 ww_137 ww_136 (by decide) (by decide) rfl rfl (xroom (Nat.le_of_ble_eq_true rfl)) dX6_show_57 (push := (fun _ => [])) (fun _ => rfl) (fun _ w16 hyp => ?_)
      refine r_iload_n G 0 dX6_show_60 rfl rfl ?_
      exact r_iret G hyp rfl (Nat.zero_le _) (Nat.zero_le _) dX6_show_61
    · exact r_throw 7 G hno hyp th_RX6_77 lit_7 (by decide) dX6_show_43 dX6_show_46 dX6_show_47 dX6_show_49 dX6_show_52
  · exact r_throw 2 G hno hyp th_RX6_89 lit_2 (by decide) dX6_show_27 dX6_show_30 dX6_show_31 dX6_show_33 dX6_show_36
theorem tg_X6_sumOfTones : xTgt yX6_sumOfTones cX6_sumOfTones 5 (some .int) 4 := ⟨ww_529, ww_86, by decide, by decide +kernel, by decide +kernel⟩
section
variable {Γ : xG} {p : Program} {l : Launch} {e : Env} {s : State} {m : MethodId} {args : Array Value} {below : List Frame} {meth : Method} {c : Code} {rF : Int32 ⊕ String} {wF : xW}
end
set_option maxRecDepth 100000 in
set_option maxHeartbeats 4000000 in
theorem ct_X6_sumOfTones {Γ : xG} {l : Launch} (hl : l.stackTraces = false) (a0 : Nat) (x1 : Int32) (x2 : Int32) (x3 : Int32) (x4 : Int32) (w0 : xW) (rF : Int32 ⊕ String) (wF : xW) (hyp : f_X6_sumOfTones a0 x1 x2 x3 x4 w0 = some (rF, wF)) : xMet Γ l yX6_sumOfTones (xws yX6_sumOfTones cX6_sumOfTones 5 (some .int)) 7 xI [.ref a0, .int x1, .int x2, .int x3, .int x4] w0 rF wF (x_mc rF) (x_ms rF) := by
  refine xOfW tg_X6_sumOfTones hl (lv0 := [(0, .ref a0), (1, .int x1), (2, .int x2), (3, .int x3), (4, .int x4)]) (Nat.le_of_ble_eq_true rfl) rfl ?_
  intro p e s m below meth c G hno hin
  rw [f_X6_sumOfTones] at hyp
  refine r_iload_n G 1 dX6_sumOfTones_0 rfl rfl ?_
  refine r_iload_n G 2 dX6_sumOfTones_1 rfl rfl ?_
  refine r_iload_n G 3 dX6_sumOfTones_2 rfl rfl ?_
  refine r_iload G 4 dX6_sumOfTones_3 rfl ?_
  refine r_callS (ι := xV) (rest := []) (As := [.int x1, .int x2, .int x3, .int x4]) G hno tg_X6_requireRectangle (fun r w' h => ct_X6_requireRectangle (xhl G) _ _ _ _ _ r w' h) hyp ww_526 ww_527 (by decide) (by decide) rfl rfl (xroom (Nat.le_of_ble_eq_true rfl)) dX6_sumOfTones_5 (push := (fun _ => [])) (fun _ => rfl) (fun _ w1 hyp => ?_)
  refine r_aload_n G 0 dX6_sumOfTones_8 rfl rfl ?_
  obtain ⟨o5, hyp⟩ := x_chk hyp
  refine r_callV (ι := xQ) (T := TX6) (N := 9) (ci := 6) (b := a0) (rest := []) (As := []) G hno tg_X6_flattened (fun r w' h => ct_X6_flattened (xhl G) _ _ r w' h) o5 hyp rfl ww_176 ww_178 ww_177 (by decide) (by decide) rfl rfl (xroom (Nat.le_of_ble_eq_true rfl)) dX6_sumOfTones_9 (push := (fun r4 => [va_rf r4])) (fun _ => rfl) (fun r4 w3 hyp => ?_)
  refine r_iload_n G 1 dX6_sumOfTones_12 rfl rfl ?_
  refine r_iload_n G 2 dX6_sumOfTones_13 rfl rfl ?_
  refine r_iload_n G 3 dX6_sumOfTones_14 rfl rfl ?_
  refine r_iload G 4 dX6_sumOfTones_15 rfl ?_
  refine r_ref hyp (fun a6 ha6 hz => ?_)
  clear hyp; subst ha6; have hyp := hz; clear hz
  obtain ⟨o9, hyp⟩ := x_chk hyp
  refine r_callV (ι := xI) (T := TX1) (N := 6) (ci := 1) (b := a6) (rest := []) (As := [.int x1, .int x2, .int x3, .int x4]) G hno tg_X1_sumCellByCell (fun r w' h => ct_X1_sumCellByCell (xhl G) _ _ _ _ _ _ r w' h) o9 hyp rfl ww_528 ww_373 ww_372 (by decide) (by decide) rfl rfl (xroom (Nat.le_of_ble_eq_true rfl)) dX6_sumOfTones_17 (push := (fun r8 => [.int r8])) (fun _ => rfl) (fun r8 w7 hyp => ?_)
  exact r_iret G hyp rfl (Nat.zero_le _) (Nat.zero_le _) dX6_sumOfTones_20
theorem tg_X6_sumOfTonesByTable : xTgt yX6_sumOfTonesByTable cX6_sumOfTonesByTable 5 (some .int) 4 := ⟨ww_530, ww_86, by decide, by decide +kernel, by decide +kernel⟩
section
variable {Γ : xG} {p : Program} {l : Launch} {e : Env} {s : State} {m : MethodId} {args : Array Value} {below : List Frame} {meth : Method} {c : Code} {rF : Int32 ⊕ String} {wF : xW}
end
set_option maxRecDepth 100000 in
set_option maxHeartbeats 4000000 in
theorem ct_X6_sumOfTonesByTable {Γ : xG} {l : Launch} (hl : l.stackTraces = false) (a0 : Nat) (x1 : Int32) (x2 : Int32) (x3 : Int32) (x4 : Int32) (w0 : xW) (rF : Int32 ⊕ String) (wF : xW) (hyp : f_X6_sumOfTonesByTable a0 x1 x2 x3 x4 w0 = some (rF, wF)) : xMet Γ l yX6_sumOfTonesByTable (xws yX6_sumOfTonesByTable cX6_sumOfTonesByTable 5 (some .int)) 7 xI [.ref a0, .int x1, .int x2, .int x3, .int x4] w0 rF wF (x_mc rF) (x_ms rF) := by
  refine xOfW tg_X6_sumOfTonesByTable hl (lv0 := [(0, .ref a0), (1, .int x1), (2, .int x2), (3, .int x3), (4, .int x4)]) (Nat.le_of_ble_eq_true rfl) rfl ?_
  intro p e s m below meth c G hno hin
  rw [f_X6_sumOfTonesByTable] at hyp
  refine r_iload_n G 1 dX6_sumOfTonesByTable_0 rfl rfl ?_
  refine r_iload_n G 2 dX6_sumOfTonesByTable_1 rfl rfl ?_
  refine r_iload_n G 3 dX6_sumOfTonesByTable_2 rfl rfl ?_
  refine r_iload G 4 dX6_sumOfTonesByTable_3 rfl ?_
  refine r_callS (ι := xV) (rest := []) (As := [.int x1, .int x2, .int x3, .int x4]) G hno tg_X6_requireRectangle (fun r w' h => ct_X6_requireRectangle (xhl G) _ _ _ _ _ r w' h) hyp ww_526 ww_527 (by decide) (by decide) rfl rfl (xroom (Nat.le_of_ble_eq_true rfl)) dX6_sumOfTonesByTable_5 (push := (fun _ => [])) (fun _ => rfl) (fun _ w1 hyp => ?_)
  refine r_aload_n G 0 dX6_sumOfTonesByTable_8 rfl rfl ?_
  obtain ⟨o5, hyp⟩ := x_chk hyp
  refine r_callV (ι := xQ) (T := TX6) (N := 9) (ci := 6) (b := a0) (rest := []) (As := []) G hno tg_X6_flattened (fun r w' h => ct_X6_flattened (xhl G) _ _ r w' h) o5 hyp rfl ww_176 ww_178 ww_177 (by decide) (by decide) rfl rfl (xroom (Nat.le_of_ble_eq_true rfl)) dX6_sumOfTonesByTable_9 (push := (fun r4 => [va_rf r4])) (fun _ => rfl) (fun r4 w3 hyp => ?_)
  refine r_iload_n G 1 dX6_sumOfTonesByTable_12 rfl rfl ?_
  refine r_iload_n G 2 dX6_sumOfTonesByTable_13 rfl rfl ?_
  refine r_iload_n G 3 dX6_sumOfTonesByTable_14 rfl rfl ?_
  refine r_iload G 4 dX6_sumOfTonesByTable_15 rfl ?_
  refine r_ref hyp (fun a6 ha6 hz => ?_)
  clear hyp; subst ha6; have hyp := hz; clear hz
  obtain ⟨o9, hyp⟩ := x_chk hyp
  refine r_callV (ι := xI) (T := TX1) (N := 6) (ci := 1) (b := a6) (rest := []) (As := [.int x1, .int x2, .int x3, .int x4]) G hno tg_X1_sumFromTable (fun r w' h => ct_X1_sumFromTable (xhl G) _ _ _ _ _ _ r w' h) o9 hyp rfl ww_445 ww_447 ww_446 (by decide) (by decide) rfl rfl (xroom (Nat.le_of_ble_eq_true rfl)) dX6_sumOfTonesByTable_17 (push := (fun r8 => [.int r8])) (fun _ => rfl) (fun r8 w7 hyp => ?_)
  exact r_iret G hyp rfl (Nat.zero_le _) (Nat.zero_le _) dX6_sumOfTonesByTable_20
theorem tg_X6_tone : xTgt yX6_tone cX6_tone 5 (some .int) 3 := ⟨ww_531, ww_86, by decide, by decide +kernel, by decide +kernel⟩
section
variable {Γ : xG} {p : Program} {l : Launch} {e : Env} {s : State} {m : MethodId} {args : Array Value} {below : List Frame} {meth : Method} {c : Code} {rF : Int32 ⊕ String} {wF : xW}
end
set_option maxRecDepth 100000 in
set_option maxHeartbeats 4000000 in
theorem ct_X6_tone {Γ : xG} {l : Launch} (hl : l.stackTraces = false) (a0 : Nat) (x1 : Int32) (x2 : Int32) (x3 : Int32) (w0 : xW) (rF : Int32 ⊕ String) (wF : xW) (hyp : f_X6_tone a0 x1 x2 x3 w0 = some (rF, wF)) : xMet Γ l yX6_tone (xws yX6_tone cX6_tone 5 (some .int)) 7 xI [.ref a0, .int x1, .int x2, .int x3] w0 rF wF (x_mc rF) (x_ms rF) := by
  refine xOfW tg_X6_tone hl (lv0 := [(0, .ref a0), (1, .int x1), (2, .int x2), (3, .int x3)]) (Nat.le_of_ble_eq_true rfl) rfl ?_
  intro p e s m below meth c G hno hin
  rw [f_X6_tone] at hyp
  refine r_aload_n G 0 dX6_tone_0 rfl rfl ?_
  refine r_iload_n G 1 dX6_tone_1 rfl rfl ?_
  obtain ⟨o3, hyp⟩ := x_chk hyp
  refine r_callV (ι := xQ) (T := TX6) (N := 9) (ci := 6) (b := a0) (rest := []) (As := [.int x1]) G hno tg_X6_existingLayer (fun r w' h => ct_X6_existingLayer (xhl G) _ _ _ r w' h) o3 hyp rfl ww_394 ww_396 ww_395 (by decide) (by decide) rfl rfl (xroom (Nat.le_of_ble_eq_true rfl)) dX6_tone_2 (push := (fun r2 => [va_rf r2])) (fun _ => rfl) (fun r2 w1 hyp => ?_)
  refine r_iload_n G 2 dX6_tone_5 rfl rfl ?_
  refine r_iload_n G 3 dX6_tone_6 rfl rfl ?_
  refine r_callS (ι := xI) (rest := [va_rf r2]) (As := [.int x2, .int x3]) G hno tg_X6_existingCell (fun r w' h => ct_X6_existingCell (xhl G) _ _ _ r w' h) hyp ww_204 ww_205 (by decide) (by decide) rfl rfl (xroom (Nat.le_of_ble_eq_true rfl)) dX6_tone_7 (push := (fun r5 => [.int r5, va_rf r2])) (fun _ => rfl) (fun r5 w4 hyp => ?_)
  refine r_ref hyp (fun a6 ha6 hz => ?_)
  clear hyp; subst ha6; have hyp := hz; clear hz
  obtain ⟨o9, hyp⟩ := x_chk hyp
  refine r_callV (ι := xI) (T := TX3) (N := 3) (ci := 3) (b := a6) (rest := []) (As := [.int r5]) G hno tg_X3_toneAt (fun r w' h => ct_X3_toneAt (xhl G) _ _ _ r w' h) o9 hyp rfl ww_415 ww_143 ww_142 (by decide) (by decide) rfl rfl (xroom (Nat.le_of_ble_eq_true rfl)) dX6_tone_10 (push := (fun r8 => [.int r8])) (fun _ => rfl) (fun r8 w7 hyp => ?_)
  refine r_istore (lv' := [(4, .int r8), (0, .ref a0), (1, .int x1), (2, .int x2), (3, .int x3)]) G dX6_tone_13 (by decide) ⟨fun _ => rfl, fun _ => rfl, fun _ => rfl, fun _ => rfl, trivial⟩ rfl ?_
  refine r_iload G 0 dX6_tone_15 rfl ?_
  refine r_iconst (v := (-1)) G dX6_tone_17 (by decide) ?_
  refine r_icmp_ne G 31 dX6_tone_18 (by decide) hyp (fun c10 hyp => ?_) (fun c10 hyp => ?_)
  · refine r_iload G 0 dX6_tone_31 rfl ?_
    exact r_iret G hyp rfl (Nat.zero_le _) (Nat.zero_le _) dX6_tone_33
  · exact r_throwX 12 G hno hyp th_RX6_123 lit_12 (by decide) dX6_tone_21 dX6_tone_24 dX6_tone_25 dX6_tone_27 dX6_tone_30
theorem tg_X4_uppermostCovering : xTgt yX4_uppermostCovering cX4_uppermostCovering 4 (some .int) 1 := ⟨ww_532, ww_40, by decide, by decide +kernel, by decide +kernel⟩
section
variable {Γ : xG} {p : Program} {l : Launch} {e : Env} {s : State} {m : MethodId} {args : Array Value} {below : List Frame} {meth : Method} {c : Code} {rF : Int32 ⊕ String} {wF : xW}
set_option maxRecDepth 100000 in
set_option maxHeartbeats 4000000 in
theorem nd_X4_uppermostCovering_L7 (G : xCx Γ p l s m args meth c RX4 cX4_uppermostCovering 4 (some .int)) (hno : ∀ x ∈ c.exceptionTable.toList, False) : ∀ (n : Nat) (a0 : Nat) (x1 : Int32) (x2 : Int32) (w0 : xW), f_X4_uppermostCovering_L7 n a0 x1 x2 w0 = some (rF, wF) → xAW Γ p l e (xRm 2 (x_mc rF) (x_ms rF)) s m args below meth c 4 (xQm Γ below xI rF wF args s (x_mc rF) (x_ms rF)) w0 0 0 7 [(0, .ref a0), (1, .int x1), (2, .int x2)] [] := by
  intro n
  induction n with
  | zero =>
    intro a0 x1 x2 w0 hyp
    cases (show (none : xO Int32) = some (rF, wF) from hyp)
  | succ n ih =>
    intro a0 x1 x2 w0 hyp
    rw [f_X4_uppermostCovering_L7] at hyp
    refine r_iload_n G 2 dX4_uppermostCovering_7 rfl rfl ?_
    refine r_if_lt G 37 dX4_uppermostCovering_8 (by decide) hyp (fun c2 hyp => ?_) (fun c2 hyp => ?_)
    · refine r_iconst (v := (-1)) G dX4_uppermostCovering_37 (by decide) ?_
      exact r_iret G hyp rfl (Nat.zero_le _) (Nat.zero_le _) dX4_uppermostCovering_38
    · refine r_aload_n G 0 dX4_uppermostCovering_11 rfl rfl ?_
      refine r_iload_n G 2 dX4_uppermostCovering_12 rfl rfl ?_
      obtain ⟨o5, hyp⟩ := x_chk hyp
      refine r_callV (ι := xQ) (T := TX4) (N := 4) (ci := 4) (b := a0) (rest := []) (As := [.int x2]) G hno tg_X4_at (fun r w' h => ct_X4_at (xhl G) _ _ _ r w' h) o5 hyp rfl ww_99 ww_101 ww_100 (by decide) (by decide) rfl rfl (xroom (Nat.le_of_ble_eq_true rfl)) dX4_uppermostCovering_13 (push := (fun r4 => [va_rf r4])) (fun _ => rfl) (fun r4 w3 hyp => ?_)
      refine r_astore_nq (lv' := [(3, va_rf r4), (0, .ref a0), (1, .int x1), (2, .int x2)]) G dX4_uppermostCovering_16 rfl (by decide) ⟨fun _ => rfl, fun _ => rfl, fun _ => rfl, trivial⟩ rfl ?_
      refine r_aload_nq G 0 dX4_uppermostCovering_17 rfl rfl ?_
      refine r_ifnull G 31 dX4_uppermostCovering_18 (by decide) hyp (fun hyp => ?_) (fun a6 ha6 hz => ?_)
      · refine r_iinc (v := (x2 + (-1))) (lv' := [(2, .int (x2 + (-1))), (3, va_rf r4), (0, .ref a0), (1, .int x1)]) G 3 dX4_uppermostCovering_31 rfl rfl (by decide) ⟨fun _ => xcq _, fun _ => rfl, fun _ => rfl, fun _ => rfl, trivial⟩ rfl ?_
        refine r_goto G 7 dX4_uppermostCovering_34 (by decide) ?_
        refine r_weak (lv' := [(0, .ref a0), (1, .int x1), (2, .int (x2 + (-1)))]) [2, 3, 0] rfl ?_
        exact ih a0 x1 (x2 + (-1)) w3 hyp
      · clear hyp; subst ha6; have hyp := hz; clear hz
        refine r_aload_n G 0 dX4_uppermostCovering_21 rfl rfl ?_
        refine r_iload_n G 2 dX4_uppermostCovering_22 rfl rfl ?_
        obtain ⟨o9, hyp⟩ := x_chk hyp
        refine r_callV (ι := xI) (T := TX3) (N := 3) (ci := 3) (b := a6) (rest := []) (As := [.int x1]) G hno tg_X3_covers (fun r w' h => ct_X3_covers (xhl G) _ _ _ r w' h) o9 hyp rfl ww_354 ww_356 ww_355 (by decide) (by decide) rfl rfl (xroom (Nat.le_of_ble_eq_true rfl)) dX4_uppermostCovering_23 (push := (fun r8 => [.int r8])) (fun _ => rfl) (fun r8 w7 hyp => ?_)
        refine r_if_eq G 31 dX4_uppermostCovering_26 (by decide) hyp (fun c10 hyp => ?_) (fun c10 hyp => ?_)
        · refine r_iinc (v := (x2 + (-1))) (lv' := [(2, .int (x2 + (-1))), (3, .ref a6), (0, .ref a0), (1, .int x1)]) G 3 dX4_uppermostCovering_31 rfl rfl (by decide) ⟨fun _ => rfl, fun _ => rfl, fun _ => rfl, fun _ => rfl, trivial⟩ rfl ?_
          refine r_goto G 7 dX4_uppermostCovering_34 (by decide) ?_
          refine r_weak (lv' := [(0, .ref a0), (1, .int x1), (2, .int (x2 + (-1)))]) [2, 3, 0] rfl ?_
          exact ih a0 x1 (x2 + (-1)) w7 hyp
        · refine r_iload_n G 3 dX4_uppermostCovering_29 rfl rfl ?_
          exact r_iret G hyp rfl (Nat.zero_le _) (Nat.zero_le _) dX4_uppermostCovering_30
end
set_option maxRecDepth 100000 in
set_option maxHeartbeats 4000000 in
theorem ct_X4_uppermostCovering {Γ : xG} {l : Launch} (hl : l.stackTraces = false) (a0 : Nat) (x1 : Int32) (w0 : xW) (rF : Int32 ⊕ String) (wF : xW) (hyp : f_X4_uppermostCovering a0 x1 w0 = some (rF, wF)) : xMet Γ l yX4_uppermostCovering (xws yX4_uppermostCovering cX4_uppermostCovering 4 (some .int)) 2 xI [.ref a0, .int x1] w0 rF wF (x_mc rF) (x_ms rF) := by
  refine xOfW tg_X4_uppermostCovering hl (lv0 := [(0, .ref a0), (1, .int x1)]) (Nat.le_of_ble_eq_true rfl) rfl ?_
  intro p e s m below meth c G hno hin
  rw [f_X4_uppermostCovering] at hyp
  refine r_aload_n G 0 dX4_uppermostCovering_0 rfl rfl ?_
  obtain ⟨v1, hv1, hyp⟩ := x_some hyp
  refine r_getv (C := RX4) (T := TX4) (N := 4) (ci := 4) G 1 (x_geti_e hv1) rfl uw_4 (Nat.le_of_ble_eq_true rfl) rfl ww_32 dX4_uppermostCovering_1 ?_
  refine r_iconst (v := 1) G dX4_uppermostCovering_4 (by decide) ?_
  refine r_isub G dX4_uppermostCovering_5 ?_
  refine r_istore_n (lv' := [(2, .int (v1 - 1)), (0, .ref a0), (1, .int x1)]) G dX4_uppermostCovering_6 rfl (by decide) ⟨fun _ => rfl, fun _ => rfl, trivial⟩ rfl ?_
  refine r_weak (lv' := [(0, .ref a0), (1, .int x1), (2, .int (v1 - 1))]) [1, 2, 0] rfl ?_
  exact nd_X4_uppermostCovering_L7 G hno xfuel a0 x1 (v1 - 1) w0 hyp
theorem tg_X6_topLayer : xTgt yX6_topLayer cX6_topLayer 4 (some .int) 2 := ⟨ww_536, ww_86, by decide, by decide +kernel, by decide +kernel⟩
section
variable {Γ : xG} {p : Program} {l : Launch} {e : Env} {s : State} {m : MethodId} {args : Array Value} {below : List Frame} {meth : Method} {c : Code} {rF : Int32 ⊕ String} {wF : xW}
end
set_option maxRecDepth 100000 in
set_option maxHeartbeats 4000000 in
theorem ct_X6_topLayer {Γ : xG} {l : Launch} (hl : l.stackTraces = false) (a0 : Nat) (x1 : Int32) (x2 : Int32) (w0 : xW) (rF : Int32 ⊕ String) (wF : xW) (hyp : f_X6_topLayer a0 x1 x2 w0 = some (rF, wF)) : xMet Γ l yX6_topLayer (xws yX6_topLayer cX6_topLayer 4 (some .int)) 7 xI [.ref a0, .int x1, .int x2] w0 rF wF (x_mc rF) (x_ms rF) := by
  refine xOfW tg_X6_topLayer hl (lv0 := [(0, .ref a0), (1, .int x1), (2, .int x2)]) (Nat.le_of_ble_eq_true rfl) rfl ?_
  intro p e s m below meth c G hno hin
  rw [f_X6_topLayer] at hyp
  refine r_aload_n G 0 dX6_topLayer_0 rfl rfl ?_
  obtain ⟨v1, hv1, hyp⟩ := x_some hyp
  refine r_getv (C := RX6) (T := TX6) (N := 9) (ci := 6) G 0 (x_getr_e hv1) rfl uw_6 (Nat.le_of_ble_eq_true rfl) rfl ww_60 dX6_topLayer_1 ?_
  refine r_iload_n G 1 dX6_topLayer_4 rfl rfl ?_
  refine r_iload_n G 2 dX6_topLayer_5 rfl rfl ?_
  refine r_callS (ι := xI) (rest := [va_rf v1]) (As := [.int x1, .int x2]) G hno tg_X6_existingCell (fun r w' h => ct_X6_existingCell (xhl G) _ _ _ r w' h) hyp ww_204 ww_205 (by decide) (by decide) rfl rfl (xroom (Nat.le_of_ble_eq_true rfl)) dX6_topLayer_6 (push := (fun r3 => [.int r3, va_rf v1])) (fun _ => rfl) (fun r3 w2 hyp => ?_)
  refine r_ref hyp (fun a4 ha4 hz => ?_)
  clear hyp; subst ha4; have hyp := hz; clear hz
  obtain ⟨o7, hyp⟩ := x_chk hyp
  refine r_callV (ι := xI) (T := TX4) (N := 4) (ci := 4) (b := a4) (rest := []) (As := [.int r3]) G hno tg_X4_uppermostCovering (fun r w' h => ct_X4_uppermostCovering (xhl G) _ _ _ r w' h) o7 hyp rfl ww_533 ww_535 ww_534 (by decide) (by decide) rfl rfl (xroom (Nat.le_of_ble_eq_true rfl)) dX6_topLayer_9 (push := (fun r6 => [.int r6])) (fun _ => rfl) (fun r6 w5 hyp => ?_)
  refine r_istore_n (lv' := [(3, .int r6), (0, .ref a0), (1, .int x1), (2, .int x2)]) G dX6_topLayer_12 rfl (by decide) ⟨fun _ => rfl, fun _ => rfl, fun _ => rfl, trivial⟩ rfl ?_
  refine r_iload_n G 0 dX6_topLayer_13 rfl rfl ?_
  refine r_iconst (v := (-1)) G dX6_topLayer_14 (by decide) ?_
  refine r_icmp_ne G 28 dX6_topLayer_15 (by decide) hyp (fun c8 hyp => ?_) (fun c8 hyp => ?_)
  · refine r_iload_n G 0 dX6_topLayer_28 rfl rfl ?_
    exact r_iret G hyp rfl (Nat.zero_le _) (Nat.zero_le _) dX6_topLayer_29
  · exact r_throwX 13 G hno hyp th_RX6_123 lit_13 (by decide) dX6_topLayer_18 dX6_topLayer_21 dX6_topLayer_22 dX6_topLayer_24 dX6_topLayer_27
theorem tg_X2_stepBack : xTgt yX2_stepBack cX2_stepBack 2 none 1 := ⟨ww_538, ww_51, by decide, by decide +kernel, by decide +kernel⟩
section
variable {Γ : xG} {p : Program} {l : Launch} {e : Env} {s : State} {m : MethodId} {args : Array Value} {below : List Frame} {meth : Method} {c : Code} {rF : Unit ⊕ String} {wF : xW}
end
set_option maxRecDepth 100000 in
set_option maxHeartbeats 4000000 in
theorem ct_X2_stepBack {Γ : xG} {l : Launch} (hl : l.stackTraces = false) (a0 : Nat) (x1 : Option Nat) (w0 : xW) (rF : Unit ⊕ String) (wF : xW) (hyp : f_X2_stepBack a0 x1 w0 = some (rF, wF)) : xMet Γ l yX2_stepBack (xws yX2_stepBack cX2_stepBack 2 none) 4 xV [.ref a0, va_rf x1] w0 rF wF (x_mc rF) (x_ms rF) := by
  refine xOfW tg_X2_stepBack hl (lv0 := [(0, .ref a0), (1, va_rf x1)]) (by cases x1 <;> exact Nat.le_of_ble_eq_true rfl) (by cases x1 <;> rfl) ?_
  intro p e s m below meth c G hno hin
  rw [f_X2_stepBack] at hyp
  refine r_aload_n G 0 dX2_stepBack_0 rfl rfl ?_
  refine r_aload_n G 0 dX2_stepBack_1 rfl rfl ?_
  obtain ⟨v1, hv1, hyp⟩ := x_some hyp
  refine r_getv (C := RX2) (T := TX2) (N := 3) (ci := 2) G 1 (x_geti_e hv1) rfl uw_2 (Nat.le_of_ble_eq_true rfl) rfl ww_44 dX2_stepBack_2 ?_
  refine r_if_le G 17 dX2_stepBack_5 (by decide) hyp (fun c2 hyp => ?_) (fun c2 hyp => ?_)
  · refine r_aload_n G 0 dX2_stepBack_17 rfl rfl ?_
    obtain ⟨v3, hv3, hyp⟩ := x_some hyp
    refine r_getv (C := RX2) (T := TX2) (N := 3) (ci := 2) G 0 (x_getr_e hv3) rfl uw_2 (Nat.le_of_ble_eq_true rfl) rfl ww_43 dX2_stepBack_18 ?_
    refine r_ref hyp (fun a4 ha4 hz => ?_)
    clear hyp; subst ha4; have hyp := hz; clear hz
    obtain ⟨v5, hv5, hyp⟩ := x_some hyp
    refine r_len G hv5 dX2_stepBack_21 ?_
    refine r_iconst (v := 1) G dX2_stepBack_22 (by decide) ?_
    refine r_isub G dX2_stepBack_23 ?_
    obtain ⟨w6, hw6, hyp⟩ := x_some hyp
    refine r_putv (C := RX2) (T := TX2) (N := 3) (ci := 2) G tyX2 tyX2_ok nmX2 1 hw6 rfl uw_2 (Nat.le_of_ble_eq_true rfl) rfl ww_44 rfl rfl rfl dX2_stepBack_24 ?_
    refine r_aload_n G 0 dX2_stepBack_27 rfl rfl ?_
    refine r_dup G dX2_stepBack_28 rfl ?_
    obtain ⟨v7, hv7, hyp⟩ := x_some hyp
    refine r_getv (C := RX2) (T := TX2) (N := 3) (ci := 2) G 2 (x_geti_e hv7) rfl uw_2 (Nat.le_of_ble_eq_true rfl) rfl ww_45 dX2_stepBack_29 ?_
    refine r_iconst (v := 1) G dX2_stepBack_32 (by decide) ?_
    refine r_isub G dX2_stepBack_33 ?_
    obtain ⟨w8, hw8, hyp⟩ := x_some hyp
    refine r_putv (C := RX2) (T := TX2) (N := 3) (ci := 2) G tyX2 tyX2_ok nmX2 2 hw8 rfl uw_2 (Nat.le_of_ble_eq_true rfl) rfl ww_45 rfl rfl rfl dX2_stepBack_34 ?_
    refine r_aload_n G 0 dX2_stepBack_37 rfl rfl ?_
    refine r_aload_nq G 1 dX2_stepBack_38 rfl rfl ?_
    obtain ⟨o11, hyp⟩ := x_chk hyp
    refine r_callV (ι := xV) (T := TX2) (N := 3) (ci := 2) (b := a0) (rest := []) (As := [va_rf x1]) G hno tg_X2_fetchPrepared (fun r w' h => ct_X2_fetchPrepared (xhl G) _ _ _ r w' h) o11 hyp rfl ww_537 ww_517 ww_516 (by decide) (by decide) rfl rfl (xroom (Nat.le_of_ble_eq_true rfl)) dX2_stepBack_39 (push := (fun _ => [])) (fun _ => rfl) (fun _ w9 hyp => ?_)
    exact r_vret G hyp (Nat.zero_le _) (Nat.zero_le _) dX2_stepBack_42
  · refine r_aload_n G 0 dX2_stepBack_8 rfl rfl ?_
    obtain ⟨v12, hv12, hyp⟩ := x_some hyp
    refine r_getv (C := RX2) (T := TX2) (N := 3) (ci := 2) G 1 (x_geti_e hv12) rfl uw_2 (Nat.le_of_ble_eq_true rfl) rfl ww_44 dX2_stepBack_9 ?_
    refine r_iconst (v := 1) G dX2_stepBack_12 (by decide) ?_
    refine r_isub G dX2_stepBack_13 ?_
    refine r_goto G 24 dX2_stepBack_14 (by decide) ?_
    obtain ⟨w13, hw13, hyp⟩ := x_some hyp
    refine r_putv (C := RX2) (T := TX2) (N := 3) (ci := 2) G tyX2 tyX2_ok nmX2 1 hw13 rfl uw_2 (Nat.le_of_ble_eq_true rfl) rfl ww_44 rfl rfl rfl dX2_stepBack_24 ?_
    refine r_aload_n G 0 dX2_stepBack_27 rfl rfl ?_
    refine r_dup G dX2_stepBack_28 rfl ?_
    obtain ⟨v14, hv14, hyp⟩ := x_some hyp
    refine r_getv (C := RX2) (T := TX2) (N := 3) (ci := 2) G 2 (x_geti_e hv14) rfl uw_2 (Nat.le_of_ble_eq_true rfl) rfl ww_45 dX2_stepBack_29 ?_
    refine r_iconst (v := 1) G dX2_stepBack_32 (by decide) ?_
    refine r_isub G dX2_stepBack_33 ?_
    obtain ⟨w15, hw15, hyp⟩ := x_some hyp
    refine r_putv (C := RX2) (T := TX2) (N := 3) (ci := 2) G tyX2 tyX2_ok nmX2 2 hw15 rfl uw_2 (Nat.le_of_ble_eq_true rfl) rfl ww_45 rfl rfl rfl dX2_stepBack_34 ?_
    refine r_aload_n G 0 dX2_stepBack_37 rfl rfl ?_
    refine r_aload_nq G 1 dX2_stepBack_38 rfl rfl ?_
    obtain ⟨o18, hyp⟩ := x_chk hyp
    refine r_callV (ι := xV) (T := TX2) (N := 3) (ci := 2) (b := a0) (rest := []) (As := [va_rf x1]) G hno tg_X2_fetchPrepared (fun r w' h => ct_X2_fetchPrepared (xhl G) _ _ _ r w' h) o18 hyp rfl ww_537 ww_517 ww_516 (by decide) (by decide) rfl rfl (xroom (Nat.le_of_ble_eq_true rfl)) dX2_stepBack_39 (push := (fun _ => [])) (fun _ => rfl) (fun _ w16 hyp => ?_)
    exact r_vret G hyp (Nat.zero_le _) (Nat.zero_le _) dX2_stepBack_42
theorem tg_X6_undo : xTgt yX6_undo cX6_undo 1 (some .int) 0 := ⟨ww_543, ww_86, by decide, by decide +kernel, by decide +kernel⟩
section
variable {Γ : xG} {p : Program} {l : Launch} {e : Env} {s : State} {m : MethodId} {args : Array Value} {below : List Frame} {meth : Method} {c : Code} {rF : Int32 ⊕ String} {wF : xW}
end
set_option maxRecDepth 100000 in
set_option maxHeartbeats 4000000 in
theorem ct_X6_undo {Γ : xG} {l : Launch} (hl : l.stackTraces = false) (a0 : Nat) (w0 : xW) (rF : Int32 ⊕ String) (wF : xW) (hyp : f_X6_undo a0 w0 = some (rF, wF)) : xMet Γ l yX6_undo (xws yX6_undo cX6_undo 1 (some .int)) 6 xI [.ref a0] w0 rF wF (x_mc rF) (x_ms rF) := by
  refine xOfW tg_X6_undo hl (lv0 := [(0, .ref a0)]) (Nat.le_of_ble_eq_true rfl) rfl ?_
  intro p e s m below meth c G hno hin
  rw [f_X6_undo] at hyp
  refine r_aload_n G 0 dX6_undo_0 rfl rfl ?_
  obtain ⟨v1, hv1, hyp⟩ := x_some hyp
  refine r_getv (C := RX6) (T := TX6) (N := 9) (ci := 6) G 1 (x_getr_e hv1) rfl uw_6 (Nat.le_of_ble_eq_true rfl) rfl ww_65 dX6_undo_1 ?_
  refine r_ref hyp (fun a2 ha2 hz => ?_)
  clear hyp; subst ha2; have hyp := hz; clear hz
  obtain ⟨v3, hv3, hyp⟩ := x_some hyp
  refine r_getvN (C := RX2) (T := TX2) (N := 3) (ci := 2) G 2 (x_geti_e hv3) rfl uw_2 (Nat.le_of_ble_eq_true rfl) rfl ww_539 dX6_undo_4 ?_
  refine r_if_ne G 21 dX6_undo_7 (by decide) hyp (fun c4 hyp => ?_) (fun c4 hyp => ?_)
  · refine r_aload_n G 0 dX6_undo_21 rfl rfl ?_
    obtain ⟨v5, hv5, hyp⟩ := x_some hyp
    refine r_getv (C := RX6) (T := TX6) (N := 9) (ci := 6) G 1 (x_getr_e hv5) rfl uw_6 (Nat.le_of_ble_eq_true rfl) rfl ww_65 dX6_undo_22 ?_
    refine r_aload_n G 0 dX6_undo_25 rfl rfl ?_
    obtain ⟨v6, hv6, hyp⟩ := x_some hyp
    refine r_getv (C := RX6) (T := TX6) (N := 9) (ci := 6) G 0 (x_getr_e hv6) rfl uw_6 (Nat.le_of_ble_eq_true rfl) rfl ww_60 dX6_undo_26 ?_
    refine r_ref hyp (fun a7 ha7 hz => ?_)
    clear hyp; subst ha7; have hyp := hz; clear hz
    obtain ⟨o10, hyp⟩ := x_chk hyp
    refine r_callV (ι := xV) (T := TX2) (N := 3) (ci := 2) (b := a7) (rest := []) (As := [va_rf v6]) G hno tg_X2_stepBack (fun r w' h => ct_X2_stepBack (xhl G) _ _ _ r w' h) o10 hyp rfl ww_540 ww_542 ww_541 (by decide) (by decide) rfl rfl (xroom (Nat.le_of_ble_eq_true rfl)) dX6_undo_29 (push := (fun _ => [])) (fun _ => rfl) (fun _ w8 hyp => ?_)
    refine r_aload_n G 0 dX6_undo_32 rfl rfl ?_
    obtain ⟨v11, hv11, hyp⟩ := x_some hyp
    refine r_getv (C := RX6) (T := TX6) (N := 9) (ci := 6) G 1 (x_getr_e hv11) rfl uw_6 (Nat.le_of_ble_eq_true rfl) rfl ww_65 dX6_undo_33 ?_
    refine r_ref hyp (fun a12 ha12 hz => ?_)
    clear hyp; subst ha12; have hyp := hz; clear hz
    obtain ⟨v13, hv13, hyp⟩ := x_some hyp
    refine r_getvN (C := RX2) (T := TX2) (N := 3) (ci := 2) G 2 (x_geti_e hv13) rfl uw_2 (Nat.le_of_ble_eq_true rfl) rfl ww_539 dX6_undo_36 ?_
    exact r_iret G hyp rfl (Nat.zero_le _) (Nat.zero_le _) dX6_undo_39
  · exact r_throwW 32 G hno hyp th_RX6_77 lit_32 (by decide) dX6_undo_10 dX6_undo_13 dX6_undo_14 dX6_undo_17 dX6_undo_20
theorem tg_X6_undoCount : xTgt yX6_undoCount cX6_undoCount 1 (some .int) 0 := ⟨ww_544, ww_86, by decide, by decide +kernel, by decide +kernel⟩
section
variable {Γ : xG} {p : Program} {l : Launch} {e : Env} {s : State} {m : MethodId} {args : Array Value} {below : List Frame} {meth : Method} {c : Code} {rF : Int32 ⊕ String} {wF : xW}
end
set_option maxRecDepth 100000 in
set_option maxHeartbeats 4000000 in
theorem ct_X6_undoCount {Γ : xG} {l : Launch} (hl : l.stackTraces = false) (a0 : Nat) (w0 : xW) (rF : Int32 ⊕ String) (wF : xW) (hyp : f_X6_undoCount a0 w0 = some (rF, wF)) : xMet Γ l yX6_undoCount (xws yX6_undoCount cX6_undoCount 1 (some .int)) 0 xI [.ref a0] w0 rF wF (x_mc rF) (x_ms rF) := by
  refine xOfW tg_X6_undoCount hl (lv0 := [(0, .ref a0)]) (Nat.le_of_ble_eq_true rfl) rfl ?_
  intro p e s m below meth c G hno hin
  rw [f_X6_undoCount] at hyp
  refine r_aload_n G 0 dX6_undoCount_0 rfl rfl ?_
  obtain ⟨v1, hv1, hyp⟩ := x_some hyp
  refine r_getv (C := RX6) (T := TX6) (N := 9) (ci := 6) G 1 (x_getr_e hv1) rfl uw_6 (Nat.le_of_ble_eq_true rfl) rfl ww_65 dX6_undoCount_1 ?_
  refine r_ref hyp (fun a2 ha2 hz => ?_)
  clear hyp; subst ha2; have hyp := hz; clear hz
  obtain ⟨v3, hv3, hyp⟩ := x_some hyp
  refine r_getvN (C := RX2) (T := TX2) (N := 3) (ci := 2) G 2 (x_geti_e hv3) rfl uw_2 (Nat.le_of_ble_eq_true rfl) rfl ww_539 dX6_undoCount_4 ?_
  exact r_iret G hyp rfl (Nat.zero_le _) (Nat.zero_le _) dX6_undoCount_7
theorem tg_X6_visibleCount : xTgt yX6_visibleCount cX6_visibleCount 1 (some .int) 0 := ⟨ww_546, ww_86, by decide, by decide +kernel, by decide +kernel⟩
section
variable {Γ : xG} {p : Program} {l : Launch} {e : Env} {s : State} {m : MethodId} {args : Array Value} {below : List Frame} {meth : Method} {c : Code} {rF : Int32 ⊕ String} {wF : xW}
end
set_option maxRecDepth 100000 in
set_option maxHeartbeats 4000000 in
theorem ct_X6_visibleCount {Γ : xG} {l : Launch} (hl : l.stackTraces = false) (a0 : Nat) (w0 : xW) (rF : Int32 ⊕ String) (wF : xW) (hyp : f_X6_visibleCount a0 w0 = some (rF, wF)) : xMet Γ l yX6_visibleCount (xws yX6_visibleCount cX6_visibleCount 1 (some .int)) 2 xI [.ref a0] w0 rF wF (x_mc rF) (x_ms rF) := by
  refine xOfW tg_X6_visibleCount hl (lv0 := [(0, .ref a0)]) (Nat.le_of_ble_eq_true rfl) rfl ?_
  intro p e s m below meth c G hno hin
  rw [f_X6_visibleCount] at hyp
  refine r_aload_n G 0 dX6_visibleCount_0 rfl rfl ?_
  obtain ⟨v1, hv1, hyp⟩ := x_some hyp
  refine r_getv (C := RX6) (T := TX6) (N := 9) (ci := 6) G 0 (x_getr_e hv1) rfl uw_6 (Nat.le_of_ble_eq_true rfl) rfl ww_60 dX6_visibleCount_1 ?_
  refine r_ref hyp (fun a2 ha2 hz => ?_)
  clear hyp; subst ha2; have hyp := hz; clear hz
  obtain ⟨o5, hyp⟩ := x_chk hyp
  refine r_callV (ι := xI) (T := TX4) (N := 4) (ci := 4) (b := a2) (rest := []) (As := []) G hno tg_X4_countVisible (fun r w' h => ct_X4_countVisible (xhl G) _ _ r w' h) o5 hyp rfl ww_545 ww_269 ww_268 (by decide) (by decide) rfl rfl (xroom (Nat.le_of_ble_eq_true rfl)) dX6_visibleCount_4 (push := (fun r4 => [.int r4])) (fun _ => rfl) (fun r4 w3 hyp => ?_)
  exact r_iret G hyp rfl (Nat.zero_le _) (Nat.zero_le _) dX6_visibleCount_7
theorem tg_X5_clear : xTgt yX5_clear cX5_clear 1 none 0 := ⟨ww_547, ww_56, by decide, by decide +kernel, by decide +kernel⟩
section
variable {Γ : xG} {p : Program} {l : Launch} {e : Env} {s : State} {m : MethodId} {args : Array Value} {below : List Frame} {meth : Method} {c : Code} {rF : Unit ⊕ String} {wF : xW}
end
set_option maxRecDepth 100000 in
set_option maxHeartbeats 4000000 in
theorem ct_X5_clear {Γ : xG} {l : Launch} (hl : l.stackTraces = false) (a0 : Nat) (w0 : xW) (rF : Unit ⊕ String) (wF : xW) (hyp : f_X5_clear a0 w0 = some (rF, wF)) : xMet Γ l yX5_clear (xws yX5_clear cX5_clear 1 none) 0 xV [.ref a0] w0 rF wF (x_mc rF) (x_ms rF) := by
  refine xOfW tg_X5_clear hl (lv0 := [(0, .ref a0)]) (Nat.le_of_ble_eq_true rfl) rfl ?_
  intro p e s m below meth c G hno hin
  rw [f_X5_clear] at hyp
  refine r_aload_n G 0 dX5_clear_0 rfl rfl ?_
  refine r_iconst (v := 0) G dX5_clear_1 (by decide) ?_
  obtain ⟨w1, hw1, hyp⟩ := x_some hyp
  refine r_putv (C := RX5) (T := TX5) (N := 2) (ci := 5) G tyX5 tyX5_ok nmX5 1 hw1 rfl uw_5 (Nat.le_of_ble_eq_true rfl) rfl ww_54 rfl rfl rfl dX5_clear_2 ?_
  exact r_vret G hyp (Nat.zero_le _) (Nat.zero_le _) dX5_clear_5
theorem tg_X6_writeLayers : xTgt yX6_writeLayers cX6_writeLayers 2 (some .int) 0 := ⟨ww_554, ww_86, by decide, by decide +kernel, by decide +kernel⟩
section
variable {Γ : xG} {p : Program} {l : Launch} {e : Env} {s : State} {m : MethodId} {args : Array Value} {below : List Frame} {meth : Method} {c : Code} {rF : Int32 ⊕ String} {wF : xW}
set_option maxRecDepth 100000 in
set_option maxHeartbeats 4000000 in
theorem nd_X6_writeLayers_L9 (G : xCx Γ p l s m args meth c RX6 cX6_writeLayers 2 (some .int)) (hno : ∀ x ∈ c.exceptionTable.toList, False) : ∀ (n : Nat) (a0 : Nat) (x1 : Int32) (w0 : xW), f_X6_writeLayers_L9 n a0 x1 w0 = some (rF, wF) → xAW Γ p l e (xRm 3 (x_mc rF) (x_ms rF)) s m args below meth c 2 (xQm Γ below xI rF wF args s (x_mc rF) (x_ms rF)) w0 0 0 9 [(0, .ref a0), (1, .int x1)] [] := by
  intro n
  induction n with
  | zero =>
    intro a0 x1 w0 hyp
    cases (show (none : xO Int32) = some (rF, wF) from hyp)
  | succ n ih =>
    intro a0 x1 w0 hyp
    rw [f_X6_writeLayers_L9] at hyp
    refine r_iload_n G 1 dX6_writeLayers_9 rfl rfl ?_
    refine r_aload_n G 0 dX6_writeLayers_10 rfl rfl ?_
    obtain ⟨v6, hv6, hyp⟩ := x_some hyp
    refine r_getv (C := RX6) (T := TX6) (N := 9) (ci := 6) G 0 (x_getr_e hv6) rfl uw_6 (Nat.le_of_ble_eq_true rfl) rfl ww_60 dX6_writeLayers_11 ?_
    refine r_ref hyp (fun a7 ha7 hz => ?_)
    clear hyp; subst ha7; have hyp := hz; clear hz
    obtain ⟨v8, hv8, hyp⟩ := x_some hyp
    refine r_getvN (C := RX4) (T := TX4) (N := 4) (ci := 4) G 1 (x_geti_e hv8) rfl uw_4 (Nat.le_of_ble_eq_true rfl) rfl ww_474 dX6_writeLayers_14 ?_
    refine r_icmp_ge G 51 dX6_writeLayers_17 (by decide) hyp (fun c9 hyp => ?_) (fun c9 hyp => ?_)
    · refine r_aload_n G 0 dX6_writeLayers_51 rfl rfl ?_
      obtain ⟨v10, hv10, hyp⟩ := x_some hyp
      refine r_getv (C := RX6) (T := TX6) (N := 9) (ci := 6) G 6 (x_getr_e hv10) rfl uw_6 (Nat.le_of_ble_eq_true rfl) rfl ww_82 dX6_writeLayers_52 ?_
      refine r_ref hyp (fun a11 ha11 hz => ?_)
      clear hyp; subst ha11; have hyp := hz; clear hz
      obtain ⟨v12, hv12, hyp⟩ := x_some hyp
      refine r_getvN (C := RX5) (T := TX5) (N := 2) (ci := 5) G 1 (x_geti_e hv12) rfl uw_5 (Nat.le_of_ble_eq_true rfl) rfl ww_482 dX6_writeLayers_55 ?_
      exact r_iret G hyp rfl (Nat.zero_le _) (Nat.zero_le _) dX6_writeLayers_58
    · refine r_iload_n G 1 dX6_writeLayers_20 rfl rfl ?_
      refine r_if_le G 33 dX6_writeLayers_21 (by decide) hyp (fun c13 hyp => ?_) (fun c13 hyp => ?_)
      · refine r_aload_n G 0 dX6_writeLayers_33 rfl rfl ?_
        refine r_aload_n G 0 dX6_writeLayers_34 rfl rfl ?_
        obtain ⟨v14, hv14, hyp⟩ := x_some hyp
        refine r_getv (C := RX6) (T := TX6) (N := 9) (ci := 6) G 0 (x_getr_e hv14) rfl uw_6 (Nat.le_of_ble_eq_true rfl) rfl ww_60 dX6_writeLayers_35 ?_
        refine r_iload_n G 1 dX6_writeLayers_38 rfl rfl ?_
        refine r_ref hyp (fun a15 ha15 hz => ?_)
        clear hyp; subst ha15; have hyp := hz; clear hz
        obtain ⟨o18, hyp⟩ := x_chk hyp
        refine r_callV (ι := xQ) (T := TX4) (N := 4) (ci := 4) (b := a15) (rest := [.ref a0]) (As := [.int x1]) G hno tg_X4_at (fun r w' h => ct_X4_at (xhl G) _ _ _ r w' h) o18 hyp rfl ww_212 ww_101 ww_100 (by decide) (by decide) rfl rfl (xroom (Nat.le_of_ble_eq_true rfl)) dX6_writeLayers_39 (push := (fun r17 => [va_rf r17, .ref a0])) (fun _ => rfl) (fun r17 w16 hyp => ?_)
        obtain ⟨o21, hyp⟩ := x_chk hyp
        refine r_callV (ι := xV) (T := TX6) (N := 9) (ci := 6) (b := a0) (rest := []) (As := [va_rf r17]) G hno tg_X6_describe (fun r w' h => ct_X6_describe (xhl G) _ _ _ r w' h) o21 hyp rfl ww_551 ww_553 ww_552 (by decide) (by decide) rfl rfl (xroom (Nat.le_of_ble_eq_true rfl)) dX6_writeLayers_42 (push := (fun _ => [])) (fun _ => rfl) (fun _ w19 hyp => ?_)
        refine r_iinc (v := (x1 + 1)) (lv' := [(1, .int (x1 + 1)), (0, .ref a0)]) G 1 dX6_writeLayers_45 rfl rfl (by decide) ⟨fun _ => rfl, fun _ => rfl, trivial⟩ rfl ?_
        refine r_goto G 9 dX6_writeLayers_48 (by decide) ?_
        refine r_weak (lv' := [(0, .ref a0), (1, .int (x1 + 1))]) [1, 0] rfl ?_
        exact ih a0 (x1 + 1) w19 hyp
      · refine r_aload_n G 0 dX6_writeLayers_24 rfl rfl ?_
        obtain ⟨v22, hv22, hyp⟩ := x_some hyp
        refine r_getv (C := RX6) (T := TX6) (N := 9) (ci := 6) G 6 (x_getr_e hv22) rfl uw_6 (Nat.le_of_ble_eq_true rfl) rfl ww_82 dX6_writeLayers_25 ?_
        refine r_bipush (v := 32) G dX6_writeLayers_28 (by decide) ?_
        refine r_ref hyp (fun a23 ha23 hz => ?_)
        clear hyp; subst ha23; have hyp := hz; clear hz
        obtain ⟨o26, hyp⟩ := x_chk hyp
        refine r_callV (ι := xV) (T := TX5) (N := 2) (ci := 5) (b := a23) (rest := []) (As := [.int 32]) G hno tg_X5_put (fun r w' h => ct_X5_put (xhl G) _ _ _ r w' h) o26 hyp rfl ww_385 ww_382 ww_381 (by decide) (by decide) rfl rfl (xroom (Nat.le_of_ble_eq_true rfl)) dX6_writeLayers_30 (push := (fun _ => [])) (fun _ => rfl) (fun _ w24 hyp => ?_)
        refine r_aload_n G 0 dX6_writeLayers_33 rfl rfl ?_
        refine r_aload_n G 0 dX6_writeLayers_34 rfl rfl ?_
        obtain ⟨v27, hv27, hyp⟩ := x_some hyp
        refine r_getv (C := RX6) (T := TX6) (N := 9) (ci := 6) G 0 (x_getr_e hv27) rfl uw_6 (Nat.le_of_ble_eq_true rfl) rfl ww_60 dX6_writeLayers_35 ?_
        refine r_iload_n G 1 dX6_writeLayers_38 rfl rfl ?_
        refine r_ref hyp (fun a28 ha28 hz => ?_)
        clear hyp; subst ha28; have hyp := hz; clear hz
        obtain ⟨o31, hyp⟩ := x_chk hyp
        refine r_callV (ι := xQ) (T := TX4) (N := 4) (ci := 4) (b := a28) (rest := [.ref a0]) (As := [.int x1]) G hno tg_X4_at (fun r w' h => ct_X4_at (xhl G) _ _ _ r w' h) o31 hyp rfl ww_212 ww_101 ww_100 (by decide) (by decide) rfl rfl (xroom (Nat.le_of_ble_eq_true rfl)) dX6_writeLayers_39 (push := (fun r30 => [va_rf r30, .ref a0])) (fun _ => rfl) (fun r30 w29 hyp => ?_)
        obtain ⟨o34, hyp⟩ := x_chk hyp
        refine r_callV (ι := xV) (T := TX6) (N := 9) (ci := 6) (b := a0) (rest := []) (As := [va_rf r30]) G hno tg_X6_describe (fun r w' h => ct_X6_describe (xhl G) _ _ _ r w' h) o34 hyp rfl ww_551 ww_553 ww_552 (by decide) (by decide) rfl rfl (xroom (Nat.le_of_ble_eq_true rfl)) dX6_writeLayers_42 (push := (fun _ => [])) (fun _ => rfl) (fun _ w32 hyp => ?_)
        refine r_iinc (v := (x1 + 1)) (lv' := [(1, .int (x1 + 1)), (0, .ref a0)]) G 1 dX6_writeLayers_45 rfl rfl (by decide) ⟨fun _ => rfl, fun _ => rfl, trivial⟩ rfl ?_
        refine r_goto G 9 dX6_writeLayers_48 (by decide) ?_
        refine r_weak (lv' := [(0, .ref a0), (1, .int (x1 + 1))]) [1, 0] rfl ?_
        exact ih a0 (x1 + 1) w32 hyp
end
set_option maxRecDepth 100000 in
set_option maxHeartbeats 4000000 in
theorem ct_X6_writeLayers {Γ : xG} {l : Launch} (hl : l.stackTraces = false) (a0 : Nat) (w0 : xW) (rF : Int32 ⊕ String) (wF : xW) (hyp : f_X6_writeLayers a0 w0 = some (rF, wF)) : xMet Γ l yX6_writeLayers (xws yX6_writeLayers cX6_writeLayers 2 (some .int)) 3 xI [.ref a0] w0 rF wF (x_mc rF) (x_ms rF) := by
  refine xOfW tg_X6_writeLayers hl (lv0 := [(0, .ref a0)]) (Nat.le_of_ble_eq_true rfl) rfl ?_
  intro p e s m below meth c G hno hin
  rw [f_X6_writeLayers] at hyp
  refine r_aload_n G 0 dX6_writeLayers_0 rfl rfl ?_
  obtain ⟨v1, hv1, hyp⟩ := x_some hyp
  refine r_getv (C := RX6) (T := TX6) (N := 9) (ci := 6) G 6 (x_getr_e hv1) rfl uw_6 (Nat.le_of_ble_eq_true rfl) rfl ww_82 dX6_writeLayers_1 ?_
  refine r_ref hyp (fun a2 ha2 hz => ?_)
  clear hyp; subst ha2; have hyp := hz; clear hz
  obtain ⟨o5, hyp⟩ := x_chk hyp
  refine r_callV (ι := xV) (T := TX5) (N := 2) (ci := 5) (b := a2) (rest := []) (As := []) G hno tg_X5_clear (fun r w' h => ct_X5_clear (xhl G) _ _ r w' h) o5 hyp rfl ww_548 ww_550 ww_549 (by decide) (by decide) rfl rfl (xroom (Nat.le_of_ble_eq_true rfl)) dX6_writeLayers_4 (push := (fun _ => [])) (fun _ => rfl) (fun _ w3 hyp => ?_)
  refine r_iconst (v := 0) G dX6_writeLayers_7 (by decide) ?_
  refine r_istore_n (lv' := [(1, .int 0), (0, .ref a0)]) G dX6_writeLayers_8 rfl (by decide) ⟨fun _ => rfl, trivial⟩ rfl ?_
  refine r_weak (lv' := [(0, .ref a0), (1, .int 0)]) [1, 0] rfl ?_
  exact nd_X6_writeLayers_L9 G hno xfuel a0 0 w3 hyp
theorem tg_X5_putHexDigit : xTgt yX5_putHexDigit cX5_putHexDigit 2 none 1 := ⟨ww_555, ww_56, by decide, by decide +kernel, by decide +kernel⟩
section
variable {Γ : xG} {p : Program} {l : Launch} {e : Env} {s : State} {m : MethodId} {args : Array Value} {below : List Frame} {meth : Method} {c : Code} {rF : Unit ⊕ String} {wF : xW}
end
set_option maxRecDepth 100000 in
set_option maxHeartbeats 4000000 in
theorem ct_X5_putHexDigit {Γ : xG} {l : Launch} (hl : l.stackTraces = false) (a0 : Nat) (x1 : Int32) (w0 : xW) (rF : Unit ⊕ String) (wF : xW) (hyp : f_X5_putHexDigit a0 x1 w0 = some (rF, wF)) : xMet Γ l yX5_putHexDigit (xws yX5_putHexDigit cX5_putHexDigit 2 none) 1 xV [.ref a0, .int x1] w0 rF wF (x_mc rF) (x_ms rF) := by
  refine xOfW tg_X5_putHexDigit hl (lv0 := [(0, .ref a0), (1, .int x1)]) (Nat.le_of_ble_eq_true rfl) rfl ?_
  intro p e s m below meth c G hno hin
  rw [f_X5_putHexDigit] at hyp
  refine r_aload_n G 0 dX5_putHexDigit_0 rfl rfl ?_
  refine r_iload_n G 1 dX5_putHexDigit_1 rfl rfl ?_
  refine r_bipush (v := 10) G dX5_putHexDigit_2 (by decide) ?_
  refine r_icmp_ge G 14 dX5_putHexDigit_4 (by decide) hyp (fun c1 hyp => ?_) (fun c1 hyp => ?_)
  · refine r_bipush (v := 97) G dX5_putHexDigit_14 (by decide) ?_
    refine r_iload_n G 1 dX5_putHexDigit_16 rfl rfl ?_
    refine r_iadd G dX5_putHexDigit_17 ?_
    refine r_bipush (v := 10) G dX5_putHexDigit_18 (by decide) ?_
    refine r_isub G dX5_putHexDigit_20 ?_
    refine r_i2c G dX5_putHexDigit_21 ?_
    obtain ⟨o4, hyp⟩ := x_chk hyp
    refine r_callV (ι := xV) (T := TX5) (N := 2) (ci := 5) (b := a0) (rest := []) (As := [.int (x_c ((97 + x1) - 10))]) G hno tg_X5_put (fun r w' h => ct_X5_put (xhl G) _ _ _ r w' h) o4 hyp rfl ww_380 ww_382 ww_381 (by decide) (by decide) rfl rfl (xroom (Nat.le_of_ble_eq_true rfl)) dX5_putHexDigit_22 (push := (fun _ => [])) (fun _ => rfl) (fun _ w2 hyp => ?_)
    exact r_vret G hyp (Nat.zero_le _) (Nat.zero_le _) dX5_putHexDigit_25
  · refine r_bipush (v := 48) G dX5_putHexDigit_7 (by decide) ?_
    refine r_iload_n G 1 dX5_putHexDigit_9 rfl rfl ?_
    refine r_iadd G dX5_putHexDigit_10 ?_
    refine r_goto G 21 dX5_putHexDigit_11 (by decide) ?_
    refine r_i2c G dX5_putHexDigit_21 ?_
    obtain ⟨o7, hyp⟩ := x_chk hyp
    refine r_callV (ι := xV) (T := TX5) (N := 2) (ci := 5) (b := a0) (rest := []) (As := [.int (x_c (48 + x1))]) G hno tg_X5_put (fun r w' h => ct_X5_put (xhl G) _ _ _ r w' h) o7 hyp rfl ww_380 ww_382 ww_381 (by decide) (by decide) rfl rfl (xroom (Nat.le_of_ble_eq_true rfl)) dX5_putHexDigit_22 (push := (fun _ => [])) (fun _ => rfl) (fun _ w5 hyp => ?_)
    exact r_vret G hyp (Nat.zero_le _) (Nat.zero_le _) dX5_putHexDigit_25
theorem tg_X6_writeRow : xTgt yX6_writeRow cX6_writeRow 3 (some .int) 1 := ⟨ww_559, ww_86, by decide, by decide +kernel, by decide +kernel⟩
section
variable {Γ : xG} {p : Program} {l : Launch} {e : Env} {s : State} {m : MethodId} {args : Array Value} {below : List Frame} {meth : Method} {c : Code} {rF : Int32 ⊕ String} {wF : xW}
set_option maxRecDepth 100000 in
set_option maxHeartbeats 4000000 in
theorem nd_X6_writeRow_L30 (G : xCx Γ p l s m args meth c RX6 cX6_writeRow 3 (some .int)) (hno : ∀ x ∈ c.exceptionTable.toList, False) : ∀ (n : Nat) (a0 : Nat) (x1 : Int32) (x2 : Int32) (w0 : xW), f_X6_writeRow_L30 n a0 x1 x2 w0 = some (rF, wF) → xAW Γ p l e (xRm 6 (x_mc rF) (x_ms rF)) s m args below meth c 3 (xQm Γ below xI rF wF args s (x_mc rF) (x_ms rF)) w0 0 0 30 [(0, .ref a0), (1, .int x1), (2, .int x2)] [] := by
  intro n
  induction n with
  | zero =>
    intro a0 x1 x2 w0 hyp
    cases (show (none : xO Int32) = some (rF, wF) from hyp)
  | succ n ih =>
    intro a0 x1 x2 w0 hyp
    rw [f_X6_writeRow_L30] at hyp
    refine r_iload_n G 2 dX6_writeRow_30 rfl rfl ?_
    refine r_bipush (v := 8) G dX6_writeRow_31 (by decide) ?_
    refine r_icmp_ge G 62 dX6_writeRow_33 (by decide) hyp (fun c8 hyp => ?_) (fun c8 hyp => ?_)
    · refine r_aload_n G 0 dX6_writeRow_62 rfl rfl ?_
      obtain ⟨v9, hv9, hyp⟩ := x_some hyp
      refine r_getv (C := RX6) (T := TX6) (N := 9) (ci := 6) G 6 (x_getr_e hv9) rfl uw_6 (Nat.le_of_ble_eq_true rfl) rfl ww_82 dX6_writeRow_63 ?_
      refine r_ref hyp (fun a10 ha10 hz => ?_)
      clear hyp; subst ha10; have hyp := hz; clear hz
      obtain ⟨v11, hv11, hyp⟩ := x_some hyp
      refine r_getvN (C := RX5) (T := TX5) (N := 2) (ci := 5) G 1 (x_geti_e hv11) rfl uw_5 (Nat.le_of_ble_eq_true rfl) rfl ww_482 dX6_writeRow_66 ?_
      exact r_iret G hyp rfl (Nat.zero_le _) (Nat.zero_le _) dX6_writeRow_69
    · refine r_aload_n G 0 dX6_writeRow_36 rfl rfl ?_
      obtain ⟨v12, hv12, hyp⟩ := x_some hyp
      refine r_getv (C := RX6) (T := TX6) (N := 9) (ci := 6) G 6 (x_getr_e hv12) rfl uw_6 (Nat.le_of_ble_eq_true rfl) rfl ww_82 dX6_writeRow_37 ?_
      refine r_aload_n G 0 dX6_writeRow_40 rfl rfl ?_
      obtain ⟨v13, hv13, hyp⟩ := x_some hyp
      refine r_getv (C := RX6) (T := TX6) (N := 9) (ci := 6) G 0 (x_getr_e hv13) rfl uw_6 (Nat.le_of_ble_eq_true rfl) rfl ww_60 dX6_writeRow_41 ?_
      refine r_iconst (v := 0) G dX6_writeRow_44 (by decide) ?_
      refine r_iload_n G 2 dX6_writeRow_45 rfl rfl ?_
      refine r_iload_n G 1 dX6_writeRow_46 rfl rfl ?_
      refine r_callS (ι := xI) (rest := [.int 0, va_rf v13, va_rf v12]) (As := [.int x2, .int x1]) G hno tg_X6_cellNumber (fun r w' h => ct_X6_cellNumber (xhl G) _ _ _ r w' h) hyp ww_200 ww_201 (by decide) (by decide) rfl rfl (xroom (Nat.le_of_ble_eq_true rfl)) dX6_writeRow_47 (push := (fun r15 => [.int r15, .int 0, va_rf v13, va_rf v12])) (fun _ => rfl) (fun r15 w14 hyp => ?_)
      refine r_ref hyp (fun a16 ha16 hz => ?_)
      clear hyp; subst ha16; have hyp := hz; clear hz
      obtain ⟨o19, hyp⟩ := x_chk hyp
      refine r_callV (ι := xI) (T := TX4) (N := 4) (ci := 4) (b := a16) (rest := [va_rf v12]) (As := [.int 0, .int r15]) G hno tg_X4_toneFrom (fun r w' h => ct_X4_toneFrom (xhl G) _ _ _ _ r w' h) o19 hyp rfl ww_521 ww_153 ww_152 (by decide) (by decide) rfl rfl (xroom (Nat.le_of_ble_eq_true rfl)) dX6_writeRow_50 (push := (fun r18 => [.int r18, va_rf v12])) (fun _ => rfl) (fun r18 w17 hyp => ?_)
      refine r_ref hyp (fun a20 ha20 hz => ?_)
      clear hyp; subst ha20; have hyp := hz; clear hz
      obtain ⟨o23, hyp⟩ := x_chk hyp
      refine r_callV (ι := xV) (T := TX5) (N := 2) (ci := 5) (b := a20) (rest := []) (As := [.int r18]) G hno tg_X5_putHexDigit (fun r w' h => ct_X5_putHexDigit (xhl G) _ _ _ r w' h) o23 hyp rfl ww_556 ww_558 ww_557 (by decide) (by decide) rfl rfl (xroom (Nat.le_of_ble_eq_true rfl)) dX6_writeRow_53 (push := (fun _ => [])) (fun _ => rfl) (fun _ w21 hyp => ?_)
      refine r_iinc (v := (x2 + 1)) (lv' := [(2, .int (x2 + 1)), (0, .ref a0), (1, .int x1)]) G 2 dX6_writeRow_56 rfl rfl (by decide) ⟨fun _ => rfl, fun _ => rfl, fun _ => rfl, trivial⟩ rfl ?_
      refine r_goto G 30 dX6_writeRow_59 (by decide) ?_
      refine r_weak (lv' := [(0, .ref a0), (1, .int x1), (2, .int (x2 + 1))]) [1, 2, 0] rfl ?_
      exact ih a0 x1 (x2 + 1) w21 hyp
end
set_option maxRecDepth 100000 in
set_option maxHeartbeats 4000000 in
theorem ct_X6_writeRow {Γ : xG} {l : Launch} (hl : l.stackTraces = false) (a0 : Nat) (x1 : Int32) (w0 : xW) (rF : Int32 ⊕ String) (wF : xW) (hyp : f_X6_writeRow a0 x1 w0 = some (rF, wF)) : xMet Γ l yX6_writeRow (xws yX6_writeRow cX6_writeRow 3 (some .int)) 6 xI [.ref a0, .int x1] w0 rF wF (x_mc rF) (x_ms rF) := by
  refine xOfW tg_X6_writeRow hl (lv0 := [(0, .ref a0), (1, .int x1)]) (Nat.le_of_ble_eq_true rfl) rfl ?_
  intro p e s m below meth c G hno hin
  rw [f_X6_writeRow] at hyp
  refine r_iload_n G 1 dX6_writeRow_0 rfl rfl ?_
  refine r_if_lt G 10 dX6_writeRow_1 (by decide) hyp (fun c1 hyp => ?_) (fun c1 hyp => ?_)
  · exact r_throwW 30 G hno hyp th_RX6_89 lit_30 (by decide) dX6_writeRow_10 dX6_writeRow_13 dX6_writeRow_14 dX6_writeRow_17 dX6_writeRow_20
  · refine r_iload_n G 1 dX6_writeRow_4 rfl rfl ?_
    refine r_bipush (v := 6) G dX6_writeRow_5 (by decide) ?_
    refine r_icmp_lt G 21 dX6_writeRow_7 (by decide) hyp (fun c2 hyp => ?_) (fun c2 hyp => ?_)
    · refine r_aload_n G 0 dX6_writeRow_21 rfl rfl ?_
      obtain ⟨v3, hv3, hyp⟩ := x_some hyp
      refine r_getv (C := RX6) (T := TX6) (N := 9) (ci := 6) G 6 (x_getr_e hv3) rfl uw_6 (Nat.le_of_ble_eq_true rfl) rfl ww_82 dX6_writeRow_22 ?_
      refine r_ref hyp (fun a4 ha4 hz => ?_)
      clear hyp; subst ha4; have hyp := hz; clear hz
      obtain ⟨o7, hyp⟩ := x_chk hyp
      refine r_callV (ι := xV) (T := TX5) (N := 2) (ci := 5) (b := a4) (rest := []) (As := []) G hno tg_X5_clear (fun r w' h => ct_X5_clear (xhl G) _ _ r w' h) o7 hyp rfl ww_548 ww_550 ww_549 (by decide) (by decide) rfl rfl (xroom (Nat.le_of_ble_eq_true rfl)) dX6_writeRow_25 (push := (fun _ => [])) (fun _ => rfl) (fun _ w5 hyp => ?_)
      refine r_iconst (v := 0) G dX6_writeRow_28 (by decide) ?_
      refine r_istore_n (lv' := [(2, .int 0), (0, .ref a0), (1, .int x1)]) G dX6_writeRow_29 rfl (by decide) ⟨fun _ => rfl, fun _ => rfl, trivial⟩ rfl ?_
      refine r_weak (lv' := [(0, .ref a0), (1, .int x1), (2, .int 0)]) [1, 2, 0] rfl ?_
      exact nd_X6_writeRow_L30 G hno xfuel a0 x1 0 w5 hyp
    · exact r_throwW 30 G hno hyp th_RX6_89 lit_30 (by decide) dX6_writeRow_10 dX6_writeRow_13 dX6_writeRow_14 dX6_writeRow_17 dX6_writeRow_20
theorem tg_X7_init : xTgt yX7_init cX7_init 1 none 0 := ⟨ww_573, ww_574, by decide, by decide +kernel, by decide +kernel⟩
section
variable {Γ : xG} {p : Program} {l : Launch} {e : Env} {s : State} {m : MethodId} {args : Array Value} {below : List Frame} {meth : Method} {c : Code} {wF : xW}
end
set_option maxRecDepth 100000 in
set_option maxHeartbeats 4000000 in
theorem ct_X7_init {Γ : xG} {l : Launch} (hl : l.stackTraces = false) (a0 : Nat) (w0 : xW) (wF : xW) (hyp : f_X7_init a0 w0 = some wF) : xMet Γ l yX7_init (xws yX7_init cX7_init 1 none) 1 xV [.ref a0] w0 (Sum.inl () : Unit ⊕ String) wF 11 3999 := by
  refine xOfW tg_X7_init hl (lv0 := [(0, .ref a0)]) (Nat.le_of_ble_eq_true rfl) rfl ?_
  intro p e s m below meth c G hno hin
  rw [f_X7_init] at hyp
  refine r_aload_n G 0 dX7_init_0 rfl rfl ?_
  refine r_objInit G ww_560 ww_1 ww_2 (by decide) (by first | exact Nat.le_of_ble_eq_true rfl | decide) dX7_init_1 ?_
  refine r_aload_n G 0 dX7_init_4 rfl rfl ?_
  refine r_sipush (v := 303) G dX7_init_5 (by decide) ?_
  obtain ⟨w1, hw1, hyp⟩ := x_some hyp
  refine r_newax (N := 303) G 0 (by decide) rfl ww_8 (Or.inl rfl) (fun _ _ => rfl) (by decide) (by decide) (by decide) hw1 (by first | exact Nat.le_of_ble_eq_true rfl | (show _ ≤ 11; omega)) (by first | exact Nat.le_of_ble_eq_true rfl | (show _ ≤ 3999; omega)) dX7_init_8 ?_
  obtain ⟨w2, hw2, hyp⟩ := x_some hyp
  refine r_putvF (C := RX7) (T := TX7) (N := 22) (ci := 7) G hin tyX7 tyX7_ok nmX7 1 hw2 rfl uw_7 (Nat.le_of_ble_eq_true rfl) rfl rfl ww_561 rfl rfl rfl dX7_init_10 ?_
  refine r_aload_n G 0 dX7_init_13 rfl rfl ?_
  refine r_sipush (v := 303) G dX7_init_14 (by decide) ?_
  obtain ⟨w3, hw3, hyp⟩ := x_some hyp
  refine r_newax (N := 303) G 0 (by decide) rfl ww_8 (Or.inl rfl) (fun _ _ => rfl) (by decide) (by decide) (by decide) hw3 (by first | exact Nat.le_of_ble_eq_true rfl | (show _ ≤ 11; omega)) (by first | exact Nat.le_of_ble_eq_true rfl | (show _ ≤ 3999; omega)) dX7_init_17 ?_
  obtain ⟨w4, hw4, hyp⟩ := x_some hyp
  refine r_putvF (C := RX7) (T := TX7) (N := 22) (ci := 7) G hin tyX7 tyX7_ok nmX7 2 hw4 rfl uw_7 (Nat.le_of_ble_eq_true rfl) rfl rfl ww_562 rfl rfl rfl dX7_init_19 ?_
  refine r_aload_n G 0 dX7_init_22 rfl rfl ?_
  refine r_sipush (v := 303) G dX7_init_23 (by decide) ?_
  obtain ⟨w5, hw5, hyp⟩ := x_some hyp
  refine r_newax (N := 303) G 0 (by decide) rfl ww_8 (Or.inl rfl) (fun _ _ => rfl) (by decide) (by decide) (by decide) hw5 (by first | exact Nat.le_of_ble_eq_true rfl | (show _ ≤ 11; omega)) (by first | exact Nat.le_of_ble_eq_true rfl | (show _ ≤ 3999; omega)) dX7_init_26 ?_
  obtain ⟨w6, hw6, hyp⟩ := x_some hyp
  refine r_putvF (C := RX7) (T := TX7) (N := 22) (ci := 7) G hin tyX7 tyX7_ok nmX7 3 hw6 rfl uw_7 (Nat.le_of_ble_eq_true rfl) rfl rfl ww_563 rfl rfl rfl dX7_init_28 ?_
  refine r_aload_n G 0 dX7_init_31 rfl rfl ?_
  refine r_sipush (v := 2424) G dX7_init_32 (by decide) ?_
  obtain ⟨w7, hw7, hyp⟩ := x_some hyp
  refine r_newax (N := 2424) G 0 (by decide) rfl ww_8 (Or.inl rfl) (fun _ _ => rfl) (by decide) (by decide) (by decide) hw7 (by first | exact Nat.le_of_ble_eq_true rfl | (show _ ≤ 11; omega)) (by first | exact Nat.le_of_ble_eq_true rfl | (show _ ≤ 3999; omega)) dX7_init_35 ?_
  obtain ⟨w8, hw8, hyp⟩ := x_some hyp
  refine r_putvF (C := RX7) (T := TX7) (N := 22) (ci := 7) G hin tyX7 tyX7_ok nmX7 4 hw8 rfl uw_7 (Nat.le_of_ble_eq_true rfl) rfl rfl ww_564 rfl rfl rfl dX7_init_37 ?_
  refine r_aload_n G 0 dX7_init_40 rfl rfl ?_
  refine r_bipush (v := 60) G dX7_init_41 (by decide) ?_
  obtain ⟨w9, hw9, hyp⟩ := x_some hyp
  refine r_newax (N := 60) G 0 (by decide) rfl ww_8 (Or.inl rfl) (fun _ _ => rfl) (by decide) (by decide) (by decide) hw9 (by first | exact Nat.le_of_ble_eq_true rfl | (show _ ≤ 11; omega)) (by first | exact Nat.le_of_ble_eq_true rfl | (show _ ≤ 3999; omega)) dX7_init_43 ?_
  obtain ⟨w10, hw10, hyp⟩ := x_some hyp
  refine r_putvF (C := RX7) (T := TX7) (N := 22) (ci := 7) G hin tyX7 tyX7_ok nmX7 7 hw10 rfl uw_7 (Nat.le_of_ble_eq_true rfl) rfl rfl ww_565 rfl rfl rfl dX7_init_45 ?_
  refine r_aload_n G 0 dX7_init_48 rfl rfl ?_
  refine r_sipush (v := 420) G dX7_init_49 (by decide) ?_
  obtain ⟨w11, hw11, hyp⟩ := x_some hyp
  refine r_newax (N := 420) G 0 (by decide) rfl ww_8 (Or.inl rfl) (fun _ _ => rfl) (by decide) (by decide) (by decide) hw11 (by first | exact Nat.le_of_ble_eq_true rfl | (show _ ≤ 11; omega)) (by first | exact Nat.le_of_ble_eq_true rfl | (show _ ≤ 3999; omega)) dX7_init_52 ?_
  obtain ⟨w12, hw12, hyp⟩ := x_some hyp
  refine r_putvF (C := RX7) (T := TX7) (N := 22) (ci := 7) G hin tyX7 tyX7_ok nmX7 8 hw12 rfl uw_7 (Nat.le_of_ble_eq_true rfl) rfl rfl ww_566 rfl rfl rfl dX7_init_54 ?_
  refine r_aload_n G 0 dX7_init_57 rfl rfl ?_
  refine r_bipush (v := 40) G dX7_init_58 (by decide) ?_
  obtain ⟨w13, hw13, hyp⟩ := x_some hyp
  refine r_newax (N := 40) G 0 (by decide) rfl ww_8 (Or.inl rfl) (fun _ _ => rfl) (by decide) (by decide) (by decide) hw13 (by first | exact Nat.le_of_ble_eq_true rfl | (show _ ≤ 11; omega)) (by first | exact Nat.le_of_ble_eq_true rfl | (show _ ≤ 3999; omega)) dX7_init_60 ?_
  obtain ⟨w14, hw14, hyp⟩ := x_some hyp
  refine r_putvF (C := RX7) (T := TX7) (N := 22) (ci := 7) G hin tyX7 tyX7_ok nmX7 9 hw14 rfl uw_7 (Nat.le_of_ble_eq_true rfl) rfl rfl ww_567 rfl rfl rfl dX7_init_62 ?_
  refine r_aload_n G 0 dX7_init_65 rfl rfl ?_
  refine r_bipush (v := 48) G dX7_init_66 (by decide) ?_
  obtain ⟨w15, hw15, hyp⟩ := x_some hyp
  refine r_newax (N := 48) G 0 (by decide) rfl ww_8 (Or.inl rfl) (fun _ _ => rfl) (by decide) (by decide) (by decide) hw15 (by first | exact Nat.le_of_ble_eq_true rfl | (show _ ≤ 11; omega)) (by first | exact Nat.le_of_ble_eq_true rfl | (show _ ≤ 3999; omega)) dX7_init_68 ?_
  obtain ⟨w16, hw16, hyp⟩ := x_some hyp
  refine r_putvF (C := RX7) (T := TX7) (N := 22) (ci := 7) G hin tyX7 tyX7_ok nmX7 10 hw16 rfl uw_7 (Nat.le_of_ble_eq_true rfl) rfl rfl ww_568 rfl rfl rfl dX7_init_70 ?_
  refine r_aload_n G 0 dX7_init_73 rfl rfl ?_
  refine r_bipush (v := 48) G dX7_init_74 (by decide) ?_
  obtain ⟨w17, hw17, hyp⟩ := x_some hyp
  refine r_newax (N := 48) G 0 (by decide) rfl ww_8 (Or.inl rfl) (fun _ _ => rfl) (by decide) (by decide) (by decide) hw17 (by first | exact Nat.le_of_ble_eq_true rfl | (show _ ≤ 11; omega)) (by first | exact Nat.le_of_ble_eq_true rfl | (show _ ≤ 3999; omega)) dX7_init_76 ?_
  obtain ⟨w18, hw18, hyp⟩ := x_some hyp
  refine r_putvF (C := RX7) (T := TX7) (N := 22) (ci := 7) G hin tyX7 tyX7_ok nmX7 11 hw18 rfl uw_7 (Nat.le_of_ble_eq_true rfl) rfl rfl ww_569 rfl rfl rfl dX7_init_78 ?_
  refine r_aload_n G 0 dX7_init_81 rfl rfl ?_
  refine r_bipush (v := 50) G dX7_init_82 (by decide) ?_
  obtain ⟨w19, hw19, hyp⟩ := x_some hyp
  refine r_newax (N := 50) G 0 (by decide) rfl ww_8 (Or.inl rfl) (fun _ _ => rfl) (by decide) (by decide) (by decide) hw19 (by first | exact Nat.le_of_ble_eq_true rfl | (show _ ≤ 11; omega)) (by first | exact Nat.le_of_ble_eq_true rfl | (show _ ≤ 3999; omega)) dX7_init_84 ?_
  obtain ⟨w20, hw20, hyp⟩ := x_some hyp
  refine r_putvF (C := RX7) (T := TX7) (N := 22) (ci := 7) G hin tyX7 tyX7_ok nmX7 12 hw20 rfl uw_7 (Nat.le_of_ble_eq_true rfl) rfl rfl ww_570 rfl rfl rfl dX7_init_86 ?_
  refine r_aload_n G 0 dX7_init_89 rfl rfl ?_
  refine r_iconst (v := (-1)) G dX7_init_90 (by decide) ?_
  obtain ⟨w21, hw21, hyp⟩ := x_some hyp
  refine r_putv (C := RX7) (T := TX7) (N := 22) (ci := 7) G tyX7 tyX7_ok nmX7 15 hw21 rfl uw_7 (Nat.le_of_ble_eq_true rfl) rfl ww_571 rfl rfl rfl dX7_init_91 ?_
  refine r_aload_n G 0 dX7_init_94 rfl rfl ?_
  refine r_iconst (v := (-1)) G dX7_init_95 (by decide) ?_
  obtain ⟨w22, hw22, hyp⟩ := x_some hyp
  refine r_putv (C := RX7) (T := TX7) (N := 22) (ci := 7) G tyX7 tyX7_ok nmX7 16 hw22 rfl uw_7 (Nat.le_of_ble_eq_true rfl) rfl ww_572 rfl rfl rfl dX7_init_96 ?_
  exact r_vretC G hyp (by first | exact Nat.le_of_ble_eq_true rfl | omega) (by first | exact Nat.le_of_ble_eq_true rfl | omega) dX7_init_99
theorem tg_X7_sets : xTgt yX7_sets cX7_sets 4 none 3 := ⟨ww_575, ww_574, by decide, by decide +kernel, by decide +kernel⟩
section
variable {Γ : xG} {p : Program} {l : Launch} {e : Env} {s : State} {m : MethodId} {args : Array Value} {below : List Frame} {meth : Method} {c : Code} {rF : Unit ⊕ String} {wF : xW}
end
set_option maxRecDepth 100000 in
set_option maxHeartbeats 4000000 in
theorem ct_X7_sets {Γ : xG} {l : Launch} (hl : l.stackTraces = false) (a0 : Nat) (x1 : Int32) (x2 : Int32) (x3 : Int32) (w0 : xW) (rF : Unit ⊕ String) (wF : xW) (hyp : f_X7_sets a0 x1 x2 x3 w0 = some (rF, wF)) : xMet Γ l yX7_sets (xws yX7_sets cX7_sets 4 none) 0 xV [.ref a0, .int x1, .int x2, .int x3] w0 rF wF (x_mc rF) (x_ms rF) := by
  refine xOfW tg_X7_sets hl (lv0 := [(0, .ref a0), (1, .int x1), (2, .int x2), (3, .int x3)]) (Nat.le_of_ble_eq_true rfl) rfl ?_
  intro p e s m below meth c G hno hin
  rw [f_X7_sets] at hyp
  refine r_aload_n G 0 dX7_sets_0 rfl rfl ?_
  obtain ⟨v1, hv1, hyp⟩ := x_some hyp
  refine r_getv (C := RX7) (T := TX7) (N := 22) (ci := 7) G 1 (x_getr_e hv1) rfl uw_7 (Nat.le_of_ble_eq_true rfl) rfl ww_561 dX7_sets_1 ?_
  refine r_iconst (v := 3) G dX7_sets_4 (by decide) ?_
  refine r_bipush (v := 50) G dX7_sets_5 (by decide) ?_
  refine r_iload_n G 1 dX7_sets_7 rfl rfl ?_
  refine r_imul G dX7_sets_8 ?_
  refine r_iadd G dX7_sets_9 ?_
  refine r_iconst (v := 2) G dX7_sets_10 (by decide) ?_
  refine r_iadd G dX7_sets_11 ?_
  refine r_iload_n G 2 dX7_sets_12 rfl rfl ?_
  refine r_iadd G dX7_sets_13 ?_
  refine r_iload_n G 3 dX7_sets_14 rfl rfl ?_
  refine r_ref hyp (fun a2 ha2 hz => ?_)
  clear hyp; subst ha2; have hyp := hz; clear hz
  obtain ⟨w3, hw3, hyp⟩ := x_some hyp
  refine r_iast G hw3 dX7_sets_15 ?_
  exact r_vret G hyp (Nat.zero_le _) (Nat.zero_le _) dX7_sets_16
theorem tg_X7_begins : xTgt yX7_begins cX7_begins 4 none 2 := ⟨ww_579, ww_574, by decide, by decide +kernel, by decide +kernel⟩
section
variable {Γ : xG} {p : Program} {l : Launch} {e : Env} {s : State} {m : MethodId} {args : Array Value} {below : List Frame} {meth : Method} {c : Code} {rF : Unit ⊕ String} {wF : xW}
set_option maxRecDepth 100000 in
set_option maxHeartbeats 4000000 in
theorem nd_X7_begins_L28 (G : xCx Γ p l s m args meth c RX7 cX7_begins 4 none) (hno : ∀ x ∈ c.exceptionTable.toList, False) : ∀ (n : Nat) (a0 : Nat) (x1 : Int32) (x3 : Int32) (w0 : xW), f_X7_begins_L28 n a0 x1 x3 w0 = some (rF, wF) → xAW Γ p l e (xRm 1 (x_mc rF) (x_ms rF)) s m args below meth c 4 (xQm Γ below xV rF wF args s (x_mc rF) (x_ms rF)) w0 0 0 28 [(0, .ref a0), (1, .int x1), (3, .int x3)] [] := by
  intro n
  induction n with
  | zero =>
    intro a0 x1 x3 w0 hyp
    cases (show (none : xO Unit) = some (rF, wF) from hyp)
  | succ n ih =>
    intro a0 x1 x3 w0 hyp
    rw [f_X7_begins_L28] at hyp
    refine r_iload_n G 2 dX7_begins_28 rfl rfl ?_
    refine r_bipush (v := 48) G dX7_begins_29 (by decide) ?_
    refine r_icmp_ge G 47 dX7_begins_31 (by decide) hyp (fun c7 hyp => ?_) (fun c7 hyp => ?_)
    · exact r_vret G hyp (Nat.zero_le _) (Nat.zero_le _) dX7_begins_47
    · refine r_aload_n G 0 dX7_begins_34 rfl rfl ?_
      refine r_iload_n G 1 dX7_begins_35 rfl rfl ?_
      refine r_iload_n G 2 dX7_begins_36 rfl rfl ?_
      refine r_iconst (v := 0) G dX7_begins_37 (by decide) ?_
      obtain ⟨o10, hyp⟩ := x_chk hyp
      refine r_callV (ι := xV) (T := TX7) (N := 22) (ci := 7) (b := a0) (rest := []) (As := [.int x1, .int x3, .int 0]) G hno tg_X7_sets (fun r w' h => ct_X7_sets (xhl G) _ _ _ _ _ r w' h) o10 hyp rfl ww_576 ww_578 ww_577 (by decide) (by decide) rfl rfl (xroom (Nat.le_of_ble_eq_true rfl)) dX7_begins_38 (push := (fun _ => [])) (fun _ => rfl) (fun _ w8 hyp => ?_)
      refine r_iinc (v := (x3 + 1)) (lv' := [(3, .int (x3 + 1)), (0, .ref a0), (1, .int x1)]) G 2 dX7_begins_41 rfl rfl (by decide) ⟨fun _ => rfl, fun _ => rfl, fun _ => rfl, trivial⟩ rfl ?_
      refine r_goto G 28 dX7_begins_44 (by decide) ?_
      refine r_weak (lv' := [(0, .ref a0), (1, .int x1), (3, .int (x3 + 1))]) [1, 2, 0] rfl ?_
      exact ih a0 x1 (x3 + 1) w8 hyp
end
set_option maxRecDepth 100000 in
set_option maxHeartbeats 4000000 in
theorem ct_X7_begins {Γ : xG} {l : Launch} (hl : l.stackTraces = false) (a0 : Nat) (x1 : Int32) (x2 : Int32) (w0 : xW) (rF : Unit ⊕ String) (wF : xW) (hyp : f_X7_begins a0 x1 x2 w0 = some (rF, wF)) : xMet Γ l yX7_begins (xws yX7_begins cX7_begins 4 none) 1 xV [.ref a0, .int x1, .int x2] w0 rF wF (x_mc rF) (x_ms rF) := by
  refine xOfW tg_X7_begins hl (lv0 := [(0, .ref a0), (1, .int x1), (2, .int x2)]) (Nat.le_of_ble_eq_true rfl) rfl ?_
  intro p e s m below meth c G hno hin
  rw [f_X7_begins] at hyp
  refine r_aload_n G 0 dX7_begins_0 rfl rfl ?_
  obtain ⟨v1, hv1, hyp⟩ := x_some hyp
  refine r_getv (C := RX7) (T := TX7) (N := 22) (ci := 7) G 1 (x_getr_e hv1) rfl uw_7 (Nat.le_of_ble_eq_true rfl) rfl ww_561 dX7_begins_1 ?_
  refine r_iconst (v := 3) G dX7_begins_4 (by decide) ?_
  refine r_bipush (v := 50) G dX7_begins_5 (by decide) ?_
  refine r_iload_n G 1 dX7_begins_7 rfl rfl ?_
  refine r_imul G dX7_begins_8 ?_
  refine r_iadd G dX7_begins_9 ?_
  refine r_iload_n G 2 dX7_begins_10 rfl rfl ?_
  refine r_ref hyp (fun a2 ha2 hz => ?_)
  clear hyp; subst ha2; have hyp := hz; clear hz
  obtain ⟨w3, hw3, hyp⟩ := x_some hyp
  refine r_iast G hw3 dX7_begins_11 ?_
  refine r_aload_n G 0 dX7_begins_12 rfl rfl ?_
  obtain ⟨v4, hv4, hyp⟩ := x_some hyp
  refine r_getv (C := RX7) (T := TX7) (N := 22) (ci := 7) G 1 (x_getr_e hv4) rfl uw_7 (Nat.le_of_ble_eq_true rfl) rfl ww_561 dX7_begins_13 ?_
  refine r_iconst (v := 3) G dX7_begins_16 (by decide) ?_
  refine r_bipush (v := 50) G dX7_begins_17 (by decide) ?_
  refine r_iload_n G 1 dX7_begins_19 rfl rfl ?_
  refine r_imul G dX7_begins_20 ?_
  refine r_iadd G dX7_begins_21 ?_
  refine r_iconst (v := 1) G dX7_begins_22 (by decide) ?_
  refine r_iadd G dX7_begins_23 ?_
  refine r_iconst (v := 1) G dX7_begins_24 (by decide) ?_
  refine r_ref hyp (fun a5 ha5 hz => ?_)
  clear hyp; subst ha5; have hyp := hz; clear hz
  obtain ⟨w6, hw6, hyp⟩ := x_some hyp
  refine r_iast G hw6 dX7_begins_25 ?_
  refine r_iconst (v := 0) G dX7_begins_26 (by decide) ?_
  refine r_istore_n (lv' := [(3, .int 0), (0, .ref a0), (1, .int x1), (2, .int x2)]) G dX7_begins_27 rfl (by decide) ⟨fun _ => rfl, fun _ => rfl, fun _ => rfl, trivial⟩ rfl ?_
  refine r_weak (lv' := [(0, .ref a0), (1, .int x1), (3, .int 0)]) [1, 2, 0] rfl ?_
  exact nd_X7_begins_L28 G hno xfuel a0 x1 0 w6 hyp
theorem tg_X7_done : xTgt yX7_done cX7_done 2 (some .int) 1 := ⟨ww_581, ww_574, by decide, by decide +kernel, by decide +kernel⟩
section
variable {Γ : xG} {p : Program} {l : Launch} {e : Env} {s : State} {m : MethodId} {args : Array Value} {below : List Frame} {meth : Method} {c : Code} {rF : Int32 ⊕ String} {wF : xW}
end
set_option maxRecDepth 100000 in
set_option maxHeartbeats 4000000 in
theorem ct_X7_done {Γ : xG} {l : Launch} (hl : l.stackTraces = false) (a0 : Nat) (x1 : Int32) (w0 : xW) (rF : Int32 ⊕ String) (wF : xW) (hyp : f_X7_done a0 x1 w0 = some (rF, wF)) : xMet Γ l yX7_done (xws yX7_done cX7_done 2 (some .int)) 0 xI [.ref a0, .int x1] w0 rF wF (x_mc rF) (x_ms rF) := by
  refine xOfW tg_X7_done hl (lv0 := [(0, .ref a0), (1, .int x1)]) (Nat.le_of_ble_eq_true rfl) rfl ?_
  intro p e s m below meth c G hno hin
  rw [f_X7_done] at hyp
  refine r_aload_n G 0 dX7_done_0 rfl rfl ?_
  refine r_iload_n G 1 dX7_done_1 rfl rfl ?_
  obtain ⟨w1, hw1, hyp⟩ := x_some hyp
  refine r_putv (C := RX7) (T := TX7) (N := 22) (ci := 7) G tyX7 tyX7_ok nmX7 17 hw1 rfl uw_7 (Nat.le_of_ble_eq_true rfl) rfl ww_580 rfl rfl rfl dX7_done_2 ?_
  refine r_iconst (v := 0) G dX7_done_5 (by decide) ?_
  exact r_iret G hyp rfl (Nat.zero_le _) (Nat.zero_le _) dX7_done_6
theorem tg_X7_isMode : xTgt yX7_isMode cX7_isMode 1 (some .boolean) 1 := ⟨ww_582, ww_574, by decide, by decide +kernel, by decide +kernel⟩
section
variable {Γ : xG} {p : Program} {l : Launch} {e : Env} {s : State} {m : MethodId} {args : Array Value} {below : List Frame} {meth : Method} {c : Code} {rF : Int32 ⊕ String} {wF : xW}
end
set_option maxRecDepth 100000 in
set_option maxHeartbeats 4000000 in
theorem ct_X7_isMode {Γ : xG} {l : Launch} (hl : l.stackTraces = false) (x0 : Int32) (w0 : xW) (rF : Int32 ⊕ String) (wF : xW) (hyp : f_X7_isMode x0 w0 = some (rF, wF)) : xMet Γ l yX7_isMode (xws yX7_isMode cX7_isMode 1 (some .boolean)) 0 xI [.int x0] w0 rF wF (x_mc rF) (x_ms rF) := by
  refine xOfW tg_X7_isMode hl (lv0 := [(0, .int x0)]) (Nat.le_of_ble_eq_true rfl) rfl ?_
  intro p e s m below meth c G hno hin
  rw [f_X7_isMode] at hyp
  refine r_iload_n G 0 dX7_isMode_0 rfl rfl ?_
  refine r_bipush (v := 110) G dX7_isMode_1 (by decide) ?_
  refine r_icmp_eq G 36 dX7_isMode_3 (by decide) hyp (fun c1 hyp => ?_) (fun c1 hyp => ?_)
  · refine r_iconst (v := 1) G dX7_isMode_36 (by decide) ?_
    refine r_goto G 41 dX7_isMode_37 (by decide) ?_
    exact r_iret G hyp (by decide) (Nat.zero_le _) (Nat.zero_le _) dX7_isMode_41
  · refine r_iload_n G 0 dX7_isMode_6 rfl rfl ?_
    refine r_bipush (v := 109) G dX7_isMode_7 (by decide) ?_
    refine r_icmp_eq G 36 dX7_isMode_9 (by decide) hyp (fun c2 hyp => ?_) (fun c2 hyp => ?_)
    · refine r_iconst (v := 1) G dX7_isMode_36 (by decide) ?_
      refine r_goto G 41 dX7_isMode_37 (by decide) ?_
      exact r_iret G hyp (by decide) (Nat.zero_le _) (Nat.zero_le _) dX7_isMode_41
    · refine r_iload_n G 0 dX7_isMode_12 rfl rfl ?_
      refine r_bipush (v := 115) G dX7_isMode_13 (by decide) ?_
      refine r_icmp_eq G 36 dX7_isMode_15 (by decide) hyp (fun c3 hyp => ?_) (fun c3 hyp => ?_)
      · refine r_iconst (v := 1) G dX7_isMode_36 (by decide) ?_
        refine r_goto G 41 dX7_isMode_37 (by decide) ?_
        exact r_iret G hyp (by decide) (Nat.zero_le _) (Nat.zero_le _) dX7_isMode_41
      · refine r_iload_n G 0 dX7_isMode_18 rfl rfl ?_
        refine r_bipush (v := 100) G dX7_isMode_19 (by decide) ?_
        refine r_icmp_eq G 36 dX7_isMode_21 (by decide) hyp (fun c4 hyp => ?_) (fun c4 hyp => ?_)
        · refine r_iconst (v := 1) G dX7_isMode_36 (by decide) ?_
          refine r_goto G 41 dX7_isMode_37 (by decide) ?_
          exact r_iret G hyp (by decide) (Nat.zero_le _) (Nat.zero_le _) dX7_isMode_41
        · refine r_iload_n G 0 dX7_isMode_24 rfl rfl ?_
          refine r_bipush (v := 108) G dX7_isMode_25 (by decide) ?_
          refine r_icmp_eq G 36 dX7_isMode_27 (by decide) hyp (fun c5 hyp => ?_) (fun c5 hyp => ?_)
          · refine r_iconst (v := 1) G dX7_isMode_36 (by decide) ?_
            refine r_goto G 41 dX7_isMode_37 (by decide) ?_
            exact r_iret G hyp (by decide) (Nat.zero_le _) (Nat.zero_le _) dX7_isMode_41
          · refine r_iload_n G 0 dX7_isMode_30 rfl rfl ?_
            refine r_bipush (v := 97) G dX7_isMode_31 (by decide) ?_
            refine r_icmp_ne G 40 dX7_isMode_33 (by decide) hyp (fun c6 hyp => ?_) (fun c6 hyp => ?_)
            · refine r_iconst (v := 0) G dX7_isMode_40 (by decide) ?_
              exact r_iret G hyp (by decide) (Nat.zero_le _) (Nat.zero_le _) dX7_isMode_41
            · refine r_iconst (v := 1) G dX7_isMode_36 (by decide) ?_
              refine r_goto G 41 dX7_isMode_37 (by decide) ?_
              exact r_iret G hyp (by decide) (Nat.zero_le _) (Nat.zero_le _) dX7_isMode_41
theorem tg_X7_adds : xTgt yX7_adds cX7_adds 2 (some .int) 1 := ⟨ww_591, ww_574, by decide, by decide +kernel, by decide +kernel⟩
section
variable {Γ : xG} {p : Program} {l : Launch} {e : Env} {s : State} {m : MethodId} {args : Array Value} {below : List Frame} {meth : Method} {c : Code} {rF : Int32 ⊕ String} {wF : xW}
end
set_option maxRecDepth 100000 in
set_option maxHeartbeats 4000000 in
theorem ct_X7_adds {Γ : xG} {l : Launch} (hl : l.stackTraces = false) (a0 : Nat) (x1 : Int32) (w0 : xW) (rF : Int32 ⊕ String) (wF : xW) (hyp : f_X7_adds a0 x1 w0 = some (rF, wF)) : xMet Γ l yX7_adds (xws yX7_adds cX7_adds 2 (some .int)) 2 xI [.ref a0, .int x1] w0 rF wF (x_mc rF) (x_ms rF) := by
  refine xOfW tg_X7_adds hl (lv0 := [(0, .ref a0), (1, .int x1)]) (Nat.le_of_ble_eq_true rfl) rfl ?_
  intro p e s m below meth c G hno hin
  rw [f_X7_adds] at hyp
  refine r_iload_n G 1 dX7_adds_0 rfl rfl ?_
  refine r_callS (ι := xI) (rest := []) (As := [.int x1]) G hno tg_X7_isMode (fun r w' h => ct_X7_isMode (xhl G) _ _ r w' h) hyp ww_583 ww_584 (by decide) (by decide) rfl rfl (xroom (Nat.le_of_ble_eq_true rfl)) dX7_adds_1 (push := (fun r2 => [.int r2])) (fun _ => rfl) (fun r2 w1 hyp => ?_)
  refine r_if_ne G 9 dX7_adds_4 (by decide) hyp (fun c3 hyp => ?_) (fun c3 hyp => ?_)
  · refine r_aload_n G 0 dX7_adds_9 rfl rfl ?_
    obtain ⟨v4, hv4, hyp⟩ := x_some hyp
    refine r_getv (C := RX7) (T := TX7) (N := 22) (ci := 7) G 1 (x_getr_e hv4) rfl uw_7 (Nat.le_of_ble_eq_true rfl) rfl ww_561 dX7_adds_10 ?_
    refine r_iconst (v := 0) G dX7_adds_13 (by decide) ?_
    refine r_ref hyp (fun a5 ha5 hz => ?_)
    clear hyp; subst ha5; have hyp := hz; clear hz
    obtain ⟨v6, hv6, hyp⟩ := x_some hyp
    refine r_iald G hv6 dX7_adds_14 ?_
    refine r_bipush (v := 6) G dX7_adds_15 (by decide) ?_
    refine r_icmp_ne G 22 dX7_adds_17 (by decide) hyp (fun c7 hyp => ?_) (fun c7 hyp => ?_)
    · refine r_aload_n G 0 dX7_adds_22 rfl rfl ?_
      refine r_aload_n G 0 dX7_adds_23 rfl rfl ?_
      obtain ⟨v8, hv8, hyp⟩ := x_some hyp
      refine r_getv (C := RX7) (T := TX7) (N := 22) (ci := 7) G 1 (x_getr_e hv8) rfl uw_7 (Nat.le_of_ble_eq_true rfl) rfl ww_561 dX7_adds_24 ?_
      refine r_iconst (v := 0) G dX7_adds_27 (by decide) ?_
      refine r_ref hyp (fun a9 ha9 hz => ?_)
      clear hyp; subst ha9; have hyp := hz; clear hz
      obtain ⟨v10, hv10, hyp⟩ := x_some hyp
      refine r_iald G hv10 dX7_adds_28 ?_
      refine r_iload_n G 1 dX7_adds_29 rfl rfl ?_
      obtain ⟨o13, hyp⟩ := x_chk hyp
      refine r_callV (ι := xV) (T := TX7) (N := 22) (ci := 7) (b := a0) (rest := []) (As := [.int v10, .int x1]) G hno tg_X7_begins (fun r w' h => ct_X7_begins (xhl G) _ _ _ _ r w' h) o13 hyp rfl ww_585 ww_587 ww_586 (by decide) (by decide) rfl rfl (xroom (Nat.le_of_ble_eq_true rfl)) dX7_adds_30 (push := (fun _ => [])) (fun _ => rfl) (fun _ w11 hyp => ?_)
      refine r_aload_n G 0 dX7_adds_33 rfl rfl ?_
      obtain ⟨v14, hv14, hyp⟩ := x_some hyp
      refine r_getv (C := RX7) (T := TX7) (N := 22) (ci := 7) G 1 (x_getr_e hv14) rfl uw_7 (Nat.le_of_ble_eq_true rfl) rfl ww_561 dX7_adds_34 ?_
      refine r_iconst (v := 0) G dX7_adds_37 (by decide) ?_
      refine r_dup2 G dX7_adds_38 rfl (xcq _) ?_
      refine r_ref hyp (fun a15 ha15 hz => ?_)
      clear hyp; subst ha15; have hyp := hz; clear hz
      obtain ⟨v16, hv16, hyp⟩ := x_some hyp
      refine r_iald G hv16 dX7_adds_39 ?_
      refine r_iconst (v := 1) G dX7_adds_40 (by decide) ?_
      refine r_iadd G dX7_adds_41 ?_
      obtain ⟨w17, hw17, hyp⟩ := x_some hyp
      refine r_iast G hw17 dX7_adds_42 ?_
      refine r_aload_n G 0 dX7_adds_43 rfl rfl ?_
      refine r_aload_n G 0 dX7_adds_44 rfl rfl ?_
      obtain ⟨v18, hv18, hyp⟩ := x_some hyp
      refine r_getv (C := RX7) (T := TX7) (N := 22) (ci := 7) G 1 (x_getr_e hv18) rfl uw_7 (Nat.le_of_ble_eq_true rfl) rfl ww_561 dX7_adds_45 ?_
      refine r_iconst (v := 0) G dX7_adds_48 (by decide) ?_
      refine r_ref hyp (fun a19 ha19 hz => ?_)
      clear hyp; subst ha19; have hyp := hz; clear hz
      obtain ⟨v20, hv20, hyp⟩ := x_some hyp
      refine r_iald G hv20 dX7_adds_49 ?_
      refine r_iconst (v := 1) G dX7_adds_50 (by decide) ?_
      refine r_isub G dX7_adds_51 ?_
      obtain ⟨o23, hyp⟩ := x_chk hyp
      refine r_callV (ι := xI) (T := TX7) (N := 22) (ci := 7) (b := a0) (rest := []) (As := [.int (v20 - 1)]) G hno tg_X7_done (fun r w' h => ct_X7_done (xhl G) _ _ _ r w' h) o23 hyp rfl ww_588 ww_590 ww_589 (by decide) (by decide) rfl rfl (xroom (Nat.le_of_ble_eq_true rfl)) dX7_adds_52 (push := (fun r22 => [.int r22])) (fun _ => rfl) (fun r22 w21 hyp => ?_)
      exact r_iret G hyp rfl (Nat.zero_le _) (Nat.zero_le _) dX7_adds_55
    · refine r_iconst (v := 2) G dX7_adds_20 (by decide) ?_
      exact r_iret G hyp rfl (Nat.zero_le _) (Nat.zero_le _) dX7_adds_21
  · refine r_iconst (v := 1) G dX7_adds_7 (by decide) ?_
    exact r_iret G hyp rfl (Nat.zero_le _) (Nat.zero_le _) dX7_adds_8
theorem tg_X7_changed : xTgt yX7_changed cX7_changed 3 (some .int) 1 := ⟨ww_593, ww_574, by decide, by decide +kernel, by decide +kernel⟩
section
variable {Γ : xG} {p : Program} {l : Launch} {e : Env} {s : State} {m : MethodId} {args : Array Value} {below : List Frame} {meth : Method} {c : Code} {rF : Int32 ⊕ String} {wF : xW}
set_option maxRecDepth 100000 in
set_option maxHeartbeats 4000000 in
theorem nd_X7_changed_L55 (G : xCx Γ p l s m args meth c RX7 cX7_changed 3 (some .int)) (hno : ∀ x ∈ c.exceptionTable.toList, False) : ∀ (n : Nat) (a0 : Nat) (x1 : Int32) (x2 : Int32) (w0 : xW), f_X7_changed_L55 n a0 x1 x2 w0 = some (rF, wF) → xAW Γ p l e (xRm 0 (x_mc rF) (x_ms rF)) s m args below meth c 3 (xQm Γ below xI rF wF args s (x_mc rF) (x_ms rF)) w0 0 0 55 [(0, .ref a0), (1, .int x1), (2, .int x2)] [] := by
  intro n
  induction n with
  | zero =>
    intro a0 x1 x2 w0 hyp
    cases (show (none : xO Int32) = some (rF, wF) from hyp)
  | succ n ih =>
    intro a0 x1 x2 w0 hyp
    rw [f_X7_changed_L55] at hyp
    refine r_iload_n G 2 dX7_changed_55 rfl rfl ?_
    refine r_sipush (v := 303) G dX7_changed_56 (by decide) ?_
    refine r_icmp_ge G 91 dX7_changed_59 (by decide) hyp (fun c5 hyp => ?_) (fun c5 hyp => ?_)
    · refine r_iload_n G 1 dX7_changed_91 rfl rfl ?_
      exact r_iret G hyp rfl (Nat.zero_le _) (Nat.zero_le _) dX7_changed_92
    · refine r_aload_n G 0 dX7_changed_62 rfl rfl ?_
      obtain ⟨v6, hv6, hyp⟩ := x_some hyp
      refine r_getv (C := RX7) (T := TX7) (N := 22) (ci := 7) G 4 (x_getr_e hv6) rfl uw_7 (Nat.le_of_ble_eq_true rfl) rfl ww_564 dX7_changed_63 ?_
      refine r_sipush (v := 303) G dX7_changed_66 (by decide) ?_
      refine r_aload_n G 0 dX7_changed_69 rfl rfl ?_
      obtain ⟨v7, hv7, hyp⟩ := x_some hyp
      refine r_getv (C := RX7) (T := TX7) (N := 22) (ci := 7) G 5 (x_geti_e hv7) rfl uw_7 (Nat.le_of_ble_eq_true rfl) rfl ww_592 dX7_changed_70 ?_
      refine r_iconst (v := 1) G dX7_changed_73 (by decide) ?_
      refine r_isub G dX7_changed_74 ?_
      refine r_imul G dX7_changed_75 ?_
      refine r_iload_n G 2 dX7_changed_76 rfl rfl ?_
      refine r_iadd G dX7_changed_77 ?_
      refine r_aload_n G 0 dX7_changed_78 rfl rfl ?_
      obtain ⟨v8, hv8, hyp⟩ := x_some hyp
      refine r_getv (C := RX7) (T := TX7) (N := 22) (ci := 7) G 2 (x_getr_e hv8) rfl uw_7 (Nat.le_of_ble_eq_true rfl) rfl ww_562 dX7_changed_79 ?_
      refine r_iload_n G 2 dX7_changed_82 rfl rfl ?_
      refine r_ref hyp (fun a9 ha9 hz => ?_)
      clear hyp; subst ha9; have hyp := hz; clear hz
      obtain ⟨v10, hv10, hyp⟩ := x_some hyp
      refine r_iald G hv10 dX7_changed_83 ?_
      refine r_ref hyp (fun a11 ha11 hz => ?_)
      clear hyp; subst ha11; have hyp := hz; clear hz
      obtain ⟨w12, hw12, hyp⟩ := x_some hyp
      refine r_iast G hw12 dX7_changed_84 ?_
      refine r_iinc (v := (x2 + 1)) (lv' := [(2, .int (x2 + 1)), (0, .ref a0), (1, .int x1)]) G 2 dX7_changed_85 rfl rfl (by decide) ⟨fun _ => rfl, fun _ => rfl, fun _ => rfl, trivial⟩ rfl ?_
      refine r_goto G 55 dX7_changed_88 (by decide) ?_
      refine r_weak (lv' := [(0, .ref a0), (1, .int x1), (2, .int (x2 + 1))]) [1, 2, 0] rfl ?_
      exact ih a0 x1 (x2 + 1) w12 hyp
set_option maxRecDepth 100000 in
set_option maxHeartbeats 4000000 in
theorem nd_X7_changed_L11 (G : xCx Γ p l s m args meth c RX7 cX7_changed 3 (some .int)) (hno : ∀ x ∈ c.exceptionTable.toList, False) : ∀ (n : Nat) (a0 : Nat) (x1 : Int32) (x2 : Int32) (w0 : xW), f_X7_changed_L11 n a0 x1 x2 w0 = some (rF, wF) → xAW Γ p l e (xRm 0 (x_mc rF) (x_ms rF)) s m args below meth c 3 (xQm Γ below xI rF wF args s (x_mc rF) (x_ms rF)) w0 0 0 11 [(0, .ref a0), (1, .int x1), (2, .int x2)] [] := by
  intro n
  induction n with
  | zero =>
    intro a0 x1 x2 w0 hyp
    cases (show (none : xO Int32) = some (rF, wF) from hyp)
  | succ n ih =>
    intro a0 x1 x2 w0 hyp
    rw [f_X7_changed_L11] at hyp
    refine r_iload_n G 2 dX7_changed_11 rfl rfl ?_
    refine r_sipush (v := 2121) G dX7_changed_12 (by decide) ?_
    refine r_icmp_ge G 40 dX7_changed_15 (by decide) hyp (fun c13 hyp => ?_) (fun c13 hyp => ?_)
    · refine r_goto G 53 dX7_changed_40 (by decide) ?_
      refine r_iconst (v := 0) G dX7_changed_53 (by decide) ?_
      refine r_istore_n (lv' := [(2, .int 0), (0, .ref a0), (1, .int x1)]) G dX7_changed_54 rfl (by decide) ⟨fun _ => rfl, fun _ => rfl, fun _ => rfl, trivial⟩ rfl ?_
      refine r_weak (lv' := [(0, .ref a0), (1, .int x1), (2, .int 0)]) [1, 2, 0] rfl ?_
      exact nd_X7_changed_L55 G hno xfuel a0 x1 0 w0 hyp
    · refine r_aload_n G 0 dX7_changed_18 rfl rfl ?_
      obtain ⟨v14, hv14, hyp⟩ := x_some hyp
      refine r_getv (C := RX7) (T := TX7) (N := 22) (ci := 7) G 4 (x_getr_e hv14) rfl uw_7 (Nat.le_of_ble_eq_true rfl) rfl ww_564 dX7_changed_19 ?_
      refine r_iload_n G 2 dX7_changed_22 rfl rfl ?_
      refine r_aload_n G 0 dX7_changed_23 rfl rfl ?_
      obtain ⟨v15, hv15, hyp⟩ := x_some hyp
      refine r_getv (C := RX7) (T := TX7) (N := 22) (ci := 7) G 4 (x_getr_e hv15) rfl uw_7 (Nat.le_of_ble_eq_true rfl) rfl ww_564 dX7_changed_24 ?_
      refine r_iload_n G 2 dX7_changed_27 rfl rfl ?_
      refine r_sipush (v := 303) G dX7_changed_28 (by decide) ?_
      refine r_iadd G dX7_changed_31 ?_
      refine r_ref hyp (fun a16 ha16 hz => ?_)
      clear hyp; subst ha16; have hyp := hz; clear hz
      obtain ⟨v17, hv17, hyp⟩ := x_some hyp
      refine r_iald G hv17 dX7_changed_32 ?_
      refine r_ref hyp (fun a18 ha18 hz => ?_)
      clear hyp; subst ha18; have hyp := hz; clear hz
      obtain ⟨w19, hw19, hyp⟩ := x_some hyp
      refine r_iast G hw19 dX7_changed_33 ?_
      refine r_iinc (v := (x2 + 1)) (lv' := [(2, .int (x2 + 1)), (0, .ref a0), (1, .int x1)]) G 2 dX7_changed_34 rfl rfl (by decide) ⟨fun _ => rfl, fun _ => rfl, fun _ => rfl, trivial⟩ rfl ?_
      refine r_goto G 11 dX7_changed_37 (by decide) ?_
      refine r_weak (lv' := [(0, .ref a0), (1, .int x1), (2, .int (x2 + 1))]) [1, 2, 0] rfl ?_
      exact ih a0 x1 (x2 + 1) w19 hyp
end
set_option maxRecDepth 100000 in
set_option maxHeartbeats 4000000 in
theorem ct_X7_changed {Γ : xG} {l : Launch} (hl : l.stackTraces = false) (a0 : Nat) (x1 : Int32) (w0 : xW) (rF : Int32 ⊕ String) (wF : xW) (hyp : f_X7_changed a0 x1 w0 = some (rF, wF)) : xMet Γ l yX7_changed (xws yX7_changed cX7_changed 3 (some .int)) 0 xI [.ref a0, .int x1] w0 rF wF (x_mc rF) (x_ms rF) := by
  refine xOfW tg_X7_changed hl (lv0 := [(0, .ref a0), (1, .int x1)]) (Nat.le_of_ble_eq_true rfl) rfl ?_
  intro p e s m below meth c G hno hin
  rw [f_X7_changed] at hyp
  refine r_aload_n G 0 dX7_changed_0 rfl rfl ?_
  obtain ⟨v1, hv1, hyp⟩ := x_some hyp
  refine r_getv (C := RX7) (T := TX7) (N := 22) (ci := 7) G 5 (x_geti_e hv1) rfl uw_7 (Nat.le_of_ble_eq_true rfl) rfl ww_592 dX7_changed_1 ?_
  refine r_bipush (v := 8) G dX7_changed_4 (by decide) ?_
  refine r_icmp_ne G 43 dX7_changed_6 (by decide) hyp (fun c2 hyp => ?_) (fun c2 hyp => ?_)
  · refine r_aload_n G 0 dX7_changed_43 rfl rfl ?_
    refine r_dup G dX7_changed_44 rfl ?_
    obtain ⟨v3, hv3, hyp⟩ := x_some hyp
    refine r_getv (C := RX7) (T := TX7) (N := 22) (ci := 7) G 5 (x_geti_e hv3) rfl uw_7 (Nat.le_of_ble_eq_true rfl) rfl ww_592 dX7_changed_45 ?_
    refine r_iconst (v := 1) G dX7_changed_48 (by decide) ?_
    refine r_iadd G dX7_changed_49 ?_
    obtain ⟨w4, hw4, hyp⟩ := x_some hyp
    refine r_putv (C := RX7) (T := TX7) (N := 22) (ci := 7) G tyX7 tyX7_ok nmX7 5 hw4 rfl uw_7 (Nat.le_of_ble_eq_true rfl) rfl ww_592 rfl rfl rfl dX7_changed_50 ?_
    refine r_iconst (v := 0) G dX7_changed_53 (by decide) ?_
    refine r_istore_n (lv' := [(2, .int 0), (0, .ref a0), (1, .int x1)]) G dX7_changed_54 rfl (by decide) ⟨fun _ => rfl, fun _ => rfl, trivial⟩ rfl ?_
    refine r_weak (lv' := [(0, .ref a0), (1, .int x1), (2, .int 0)]) [1, 2, 0] rfl ?_
    exact nd_X7_changed_L55 G hno xfuel a0 x1 0 w4 hyp
  · refine r_iconst (v := 0) G dX7_changed_9 (by decide) ?_
    refine r_istore_n (lv' := [(2, .int 0), (0, .ref a0), (1, .int x1)]) G dX7_changed_10 rfl (by decide) ⟨fun _ => rfl, fun _ => rfl, trivial⟩ rfl ?_
    refine r_weak (lv' := [(0, .ref a0), (1, .int x1), (2, .int 0)]) [1, 2, 0] rfl ?_
    exact nd_X7_changed_L11 G hno xfuel a0 x1 0 w0 hyp
theorem tg_X7_fails : xTgt yX7_fails cX7_fails 2 (some .int) 1 := ⟨ww_595, ww_574, by decide, by decide +kernel, by decide +kernel⟩
section
variable {Γ : xG} {p : Program} {l : Launch} {e : Env} {s : State} {m : MethodId} {args : Array Value} {below : List Frame} {meth : Method} {c : Code} {rF : Int32 ⊕ String} {wF : xW}
end
set_option maxRecDepth 100000 in
set_option maxHeartbeats 4000000 in
theorem ct_X7_fails {Γ : xG} {l : Launch} (hl : l.stackTraces = false) (a0 : Nat) (x1 : Int32) (w0 : xW) (rF : Int32 ⊕ String) (wF : xW) (hyp : f_X7_fails a0 x1 w0 = some (rF, wF)) : xMet Γ l yX7_fails (xws yX7_fails cX7_fails 2 (some .int)) 0 xI [.ref a0, .int x1] w0 rF wF (x_mc rF) (x_ms rF) := by
  refine xOfW tg_X7_fails hl (lv0 := [(0, .ref a0), (1, .int x1)]) (Nat.le_of_ble_eq_true rfl) rfl ?_
  intro p e s m below meth c G hno hin
  rw [f_X7_fails] at hyp
  refine r_aload_n G 0 dX7_fails_0 rfl rfl ?_
  refine r_iload_n G 1 dX7_fails_1 rfl rfl ?_
  obtain ⟨w1, hw1, hyp⟩ := x_some hyp
  refine r_putv (C := RX7) (T := TX7) (N := 22) (ci := 7) G tyX7 tyX7_ok nmX7 0 hw1 rfl uw_7 (Nat.le_of_ble_eq_true rfl) rfl ww_594 rfl rfl rfl dX7_fails_2 ?_
  refine r_iconst (v := 0) G dX7_fails_5 (by decide) ?_
  exact r_iret G hyp rfl (Nat.zero_le _) (Nat.zero_le _) dX7_fails_6
