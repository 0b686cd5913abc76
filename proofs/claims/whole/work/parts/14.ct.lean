theorem tg_X0_rewind : xTgt yX0_rewind cX0_rewind 1 none 0 := ⟨ww_325, ww_12, by decide, by decide +kernel, by decide +kernel⟩
section
variable {Γ : xG} {p : Program} {l : Launch} {e : Env} {s : State} {m : MethodId} {args : Array Value} {below : List Frame} {meth : Method} {c : Code} {rF : Unit ⊕ String} {wF : xW}
end
set_option maxRecDepth 100000 in
set_option maxHeartbeats 4000000 in
theorem ct_X0_rewind {Γ : xG} {l : Launch} (hl : l.stackTraces = false) (a0 : Nat) (w0 : xW) (rF : Unit ⊕ String) (wF : xW) (hyp : f_X0_rewind a0 w0 = some (rF, wF)) : xMet Γ l yX0_rewind (xws yX0_rewind cX0_rewind 1 none) 0 xV [.ref a0] w0 rF wF (x_mc rF) (x_ms rF) := by
  refine xOfW tg_X0_rewind hl (lv0 := [(0, .ref a0)]) (Nat.le_of_ble_eq_true rfl) rfl ?_
  intro p e s m below meth c G hno hin
  rw [f_X0_rewind] at hyp
  refine r_aload_n G 0 dX0_rewind_0 rfl rfl ?_
  refine r_iconst (v := 0) G dX0_rewind_1 (by decide) ?_
  obtain ⟨w1, hw1, hyp⟩ := x_some hyp
  refine r_putv (C := RX0) (T := TX0) (N := 6) (ci := 0) G tyX0 tyX0_ok nmX0 2 hw1 rfl uw_0 (Nat.le_of_ble_eq_true rfl) rfl ww_6 rfl rfl rfl dX0_rewind_2 ?_
  exact r_vret G hyp (Nat.zero_le _) (Nat.zero_le _) dX0_rewind_5
theorem tg_X0_skipSeparator : xTgt yX0_skipSeparator cX0_skipSeparator 2 (some .boolean) 0 := ⟨ww_326, ww_12, by decide, by decide +kernel, by decide +kernel⟩
section
variable {Γ : xG} {p : Program} {l : Launch} {e : Env} {s : State} {m : MethodId} {args : Array Value} {below : List Frame} {meth : Method} {c : Code} {rF : Int32 ⊕ String} {wF : xW}
end
set_option maxRecDepth 100000 in
set_option maxHeartbeats 4000000 in
theorem ct_X0_skipSeparator {Γ : xG} {l : Launch} (hl : l.stackTraces = false) (a0 : Nat) (w0 : xW) (rF : Int32 ⊕ String) (wF : xW) (hyp : f_X0_skipSeparator a0 w0 = some (rF, wF)) : xMet Γ l yX0_skipSeparator (xws yX0_skipSeparator cX0_skipSeparator 2 (some .boolean)) 2 xI [.ref a0] w0 rF wF (x_mc rF) (x_ms rF) := by
  refine xOfW tg_X0_skipSeparator hl (lv0 := [(0, .ref a0)]) (Nat.le_of_ble_eq_true rfl) rfl ?_
  intro p e s m below meth c G hno hin
  rw [f_X0_skipSeparator] at hyp
  refine r_aload_n G 0 dX0_skipSeparator_0 rfl rfl ?_
  refine r_bipush (v := 59) G dX0_skipSeparator_1 (by decide) ?_
  obtain ⟨o3, hyp⟩ := x_chk hyp
  refine r_callV (ι := xI) (T := TX0) (N := 6) (ci := 0) (b := a0) (rest := []) (As := [.int 59]) G hno tg_X0_isNext (fun r w' h => ct_X0_isNext (xhl G) _ _ _ r w' h) o3 hyp rfl ww_309 ww_311 ww_310 (by decide) (by decide) rfl rfl (xroom (Nat.le_of_ble_eq_true rfl)) dX0_skipSeparator_3 (push := (fun r2 => [.int r2])) (fun _ => rfl) (fun r2 w1 hyp => ?_)
  refine r_istore_n (lv' := [(1, .int r2), (0, .ref a0)]) G dX0_skipSeparator_6 rfl (by decide) ⟨fun _ => rfl, trivial⟩ rfl ?_
  refine r_iload_n G 0 dX0_skipSeparator_7 rfl rfl ?_
  refine r_if_eq G 21 dX0_skipSeparator_8 (by decide) hyp (fun c4 hyp => ?_) (fun c4 hyp => ?_)
  · refine r_iload_n G 0 dX0_skipSeparator_21 rfl rfl ?_
    obtain ⟨h5, hyp⟩ := x_chk hyp
    exact r_iret G hyp (xnz h5).1 (Nat.zero_le _) (Nat.zero_le _) dX0_skipSeparator_22
  · refine r_aload_n G 1 dX0_skipSeparator_11 rfl rfl ?_
    refine r_dup G dX0_skipSeparator_12 rfl ?_
    obtain ⟨v6, hv6, hyp⟩ := x_some hyp
    refine r_getv (C := RX0) (T := TX0) (N := 6) (ci := 0) G 2 (x_geti_e hv6) rfl uw_0 (Nat.le_of_ble_eq_true rfl) rfl ww_6 dX0_skipSeparator_13 ?_
    refine r_iconst (v := 1) G dX0_skipSeparator_16 (by decide) ?_
    refine r_iadd G dX0_skipSeparator_17 ?_
    obtain ⟨w7, hw7, hyp⟩ := x_some hyp
    refine r_putv (C := RX0) (T := TX0) (N := 6) (ci := 0) G tyX0 tyX0_ok nmX0 2 hw7 rfl uw_0 (Nat.le_of_ble_eq_true rfl) rfl ww_6 rfl rfl rfl dX0_skipSeparator_18 ?_
    refine r_iload_n G 0 dX0_skipSeparator_21 rfl rfl ?_
    obtain ⟨h8, hyp⟩ := x_chk hyp
    exact r_iret G hyp (xnz h8).1 (Nat.zero_le _) (Nat.zero_le _) dX0_skipSeparator_22
theorem tg_X6_carryOutUntilFailure : xTgt yX6_carryOutUntilFailure cX6_carryOutUntilFailure 3 (some .int) 1 := ⟨ww_339, ww_86, by decide, by decide +kernel, by decide +kernel⟩
section
variable {Γ : xG} {p : Program} {l : Launch} {e : Env} {s : State} {m : MethodId} {args : Array Value} {below : List Frame} {meth : Method} {c : Code} {rF : Int32 ⊕ String} {wF : xW}
set_option maxRecDepth 100000 in
set_option maxHeartbeats 4000000 in
theorem nd_X6_carryOutUntilFailure_L9 (G : xCx Γ p l s m args meth c RX6 cX6_carryOutUntilFailure 3 (some .int)) (hno : ∀ x ∈ c.exceptionTable.toList, False) : ∀ (n : Nat) (a0 : Nat) (x1 : Int32) (x2 : Int32) (w0 : xW), f_X6_carryOutUntilFailure_L9 n a0 x1 x2 w0 = some (rF, wF) → xAW Γ p l e (xRm 6 (x_mc rF) (x_ms rF)) s m args below meth c 3 (xQm Γ below xI rF wF args s (x_mc rF) (x_ms rF)) w0 0 0 9 [(0, .ref a0), (1, .int x1), (2, .int x2)] [] := by
  intro n
  induction n with
  | zero =>
    intro a0 x1 x2 w0 hyp
    cases (show (none : xO Int32) = some (rF, wF) from hyp)
  | succ n ih =>
    intro a0 x1 x2 w0 hyp
    rw [f_X6_carryOutUntilFailure_L9] at hyp
    refine r_iload_n G 2 dX6_carryOutUntilFailure_9 rfl rfl ?_
    refine r_iload_n G 1 dX6_carryOutUntilFailure_10 rfl rfl ?_
    refine r_icmp_ge G 49 dX6_carryOutUntilFailure_11 (by decide) hyp (fun c6 hyp => ?_) (fun c6 hyp => ?_)
    · refine r_iconst (v := (-1)) G dX6_carryOutUntilFailure_49 (by decide) ?_
      exact r_iret G hyp rfl (Nat.zero_le _) (Nat.zero_le _) dX6_carryOutUntilFailure_50
    · refine r_aload_n G 0 dX6_carryOutUntilFailure_14 rfl rfl ?_
      obtain ⟨v7, hv7, hyp⟩ := x_some hyp
      refine r_getv (C := RX6) (T := TX6) (N := 9) (ci := 6) G 5 (x_getr_e hv7) rfl uw_6 (Nat.le_of_ble_eq_true rfl) rfl ww_77 dX6_carryOutUntilFailure_15 ?_
      refine r_ref hyp (fun a8 ha8 hz => ?_)
      clear hyp; subst ha8; have hyp := hz; clear hz
      obtain ⟨o11, hyp⟩ := x_chk hyp
      refine r_callV (ι := xI) (T := TX0) (N := 6) (ci := 0) (b := a8) (rest := []) (As := []) G hno tg_X0_readCommand (fun r w' h => ct_X0_readCommand (xhl G) _ _ r w' h) o11 hyp rfl ww_330 ww_332 ww_331 (by decide) (by decide) rfl rfl (xroom (Nat.le_of_ble_eq_true rfl)) dX6_carryOutUntilFailure_18 (push := (fun r10 => [.int r10])) (fun _ => rfl) (fun r10 w9 hyp => ?_)
      refine r_pop G dX6_carryOutUntilFailure_21 rfl ?_
      refine r_aload_n G 0 dX6_carryOutUntilFailure_22 rfl rfl ?_
      refine r_aload_n G 0 dX6_carryOutUntilFailure_23 rfl rfl ?_
      obtain ⟨v12, hv12, hyp⟩ := x_some hyp
      refine r_getv (C := RX6) (T := TX6) (N := 9) (ci := 6) G 5 (x_getr_e hv12) rfl uw_6 (Nat.le_of_ble_eq_true rfl) rfl ww_77 dX6_carryOutUntilFailure_24 ?_
      obtain ⟨o15, hyp⟩ := x_chk hyp
      refine r_callV (ι := xI) (T := TX6) (N := 9) (ci := 6) (b := a0) (rest := []) (As := [va_rf v12]) G hno tg_X6_carryOut (fun r w' h => ct_X6_carryOut (xhl G) _ _ _ r w' h) o15 hyp rfl ww_333 ww_335 ww_334 (by decide) (by decide) rfl rfl (xroom (Nat.le_of_ble_eq_true rfl)) dX6_carryOutUntilFailure_27 (push := (fun r14 => [.int r14])) (fun _ => rfl) (fun r14 w13 hyp => ?_)
      refine r_if_ge G 35 dX6_carryOutUntilFailure_30 (by decide) hyp (fun c16 hyp => ?_) (fun c16 hyp => ?_)
      · refine r_aload_n G 0 dX6_carryOutUntilFailure_35 rfl rfl ?_
        obtain ⟨v17, hv17, hyp⟩ := x_some hyp
        refine r_getv (C := RX6) (T := TX6) (N := 9) (ci := 6) G 5 (x_getr_e hv17) rfl uw_6 (Nat.le_of_ble_eq_true rfl) rfl ww_77 dX6_carryOutUntilFailure_36 ?_
        refine r_ref hyp (fun a18 ha18 hz => ?_)
        clear hyp; subst ha18; have hyp := hz; clear hz
        obtain ⟨o21, hyp⟩ := x_chk hyp
        refine r_callV (ι := xI) (T := TX0) (N := 6) (ci := 0) (b := a18) (rest := []) (As := []) G hno tg_X0_skipSeparator (fun r w' h => ct_X0_skipSeparator (xhl G) _ _ r w' h) o21 hyp rfl ww_336 ww_338 ww_337 (by decide) (by decide) rfl rfl (xroom (Nat.le_of_ble_eq_true rfl)) dX6_carryOutUntilFailure_39 (push := (fun r20 => [.int r20])) (fun _ => rfl) (fun r20 w19 hyp => ?_)
        refine r_pop G dX6_carryOutUntilFailure_42 rfl ?_
        refine r_iinc (v := (x2 + 1)) (lv' := [(2, .int (x2 + 1)), (0, .ref a0), (1, .int x1)]) G 2 dX6_carryOutUntilFailure_43 rfl rfl (by decide) ⟨fun _ => rfl, fun _ => rfl, fun _ => rfl, trivial⟩ rfl ?_
        refine r_goto G 9 dX6_carryOutUntilFailure_46 (by decide) ?_
        refine r_weak (lv' := [(0, .ref a0), (1, .int x1), (2, .int (x2 + 1))]) [1, 2, 0] rfl ?_
        exact ih a0 x1 (x2 + 1) w19 hyp
      · refine r_iload_n G 2 dX6_carryOutUntilFailure_33 rfl rfl ?_
        exact r_iret G hyp rfl (Nat.zero_le _) (Nat.zero_le _) dX6_carryOutUntilFailure_34
end
set_option maxRecDepth 100000 in
set_option maxHeartbeats 4000000 in
theorem ct_X6_carryOutUntilFailure {Γ : xG} {l : Launch} (hl : l.stackTraces = false) (a0 : Nat) (x1 : Int32) (w0 : xW) (rF : Int32 ⊕ String) (wF : xW) (hyp : f_X6_carryOutUntilFailure a0 x1 w0 = some (rF, wF)) : xMet Γ l yX6_carryOutUntilFailure (xws yX6_carryOutUntilFailure cX6_carryOutUntilFailure 3 (some .int)) 6 xI [.ref a0, .int x1] w0 rF wF (x_mc rF) (x_ms rF) := by
  refine xOfW tg_X6_carryOutUntilFailure hl (lv0 := [(0, .ref a0), (1, .int x1)]) (Nat.le_of_ble_eq_true rfl) rfl ?_
  intro p e s m below meth c G hno hin
  rw [f_X6_carryOutUntilFailure] at hyp
  refine r_aload_n G 0 dX6_carryOutUntilFailure_0 rfl rfl ?_
  obtain ⟨v1, hv1, hyp⟩ := x_some hyp
  refine r_getv (C := RX6) (T := TX6) (N := 9) (ci := 6) G 5 (x_getr_e hv1) rfl uw_6 (Nat.le_of_ble_eq_true rfl) rfl ww_77 dX6_carryOutUntilFailure_1 ?_
  refine r_ref hyp (fun a2 ha2 hz => ?_)
  clear hyp; subst ha2; have hyp := hz; clear hz
  obtain ⟨o5, hyp⟩ := x_chk hyp
  refine r_callV (ι := xV) (T := TX0) (N := 6) (ci := 0) (b := a2) (rest := []) (As := []) G hno tg_X0_rewind (fun r w' h => ct_X0_rewind (xhl G) _ _ r w' h) o5 hyp rfl ww_327 ww_329 ww_328 (by decide) (by decide) rfl rfl (xroom (Nat.le_of_ble_eq_true rfl)) dX6_carryOutUntilFailure_4 (push := (fun _ => [])) (fun _ => rfl) (fun _ w3 hyp => ?_)
  refine r_iconst (v := 0) G dX6_carryOutUntilFailure_7 (by decide) ?_
  refine r_istore_n (lv' := [(2, .int 0), (0, .ref a0), (1, .int x1)]) G dX6_carryOutUntilFailure_8 rfl (by decide) ⟨fun _ => rfl, fun _ => rfl, trivial⟩ rfl ?_
  refine r_weak (lv' := [(0, .ref a0), (1, .int x1), (2, .int 0)]) [1, 2, 0] rfl ?_
  exact nd_X6_carryOutUntilFailure_L9 G hno xfuel a0 x1 0 w3 hyp
theorem tg_X6_castShadow : xTgt yX6_castShadow cX6_castShadow 4 (some .int) 2 := ⟨ww_340, ww_86, by decide, by decide +kernel, by decide +kernel⟩
section
variable {Γ : xG} {p : Program} {l : Launch} {e : Env} {s : State} {m : MethodId} {args : Array Value} {below : List Frame} {meth : Method} {c : Code} {rF : Int32 ⊕ String} {wF : xW}
end
set_option maxRecDepth 100000 in
set_option maxHeartbeats 4000000 in
theorem ct_X6_castShadow {Γ : xG} {l : Launch} (hl : l.stackTraces = false) (a0 : Nat) (x1 : Int32) (x2 : Int32) (w0 : xW) (rF : Int32 ⊕ String) (wF : xW) (hyp : f_X6_castShadow a0 x1 x2 w0 = some (rF, wF)) : xMet Γ l yX6_castShadow (xws yX6_castShadow cX6_castShadow 4 (some .int)) 6 xI [.ref a0, .int x1, .int x2] w0 rF wF (x_mc rF) (x_ms rF) := by
  refine xOfW tg_X6_castShadow hl (lv0 := [(0, .ref a0), (1, .int x1), (2, .int x2)]) (Nat.le_of_ble_eq_true rfl) rfl ?_
  intro p e s m below meth c G hno hin
  rw [f_X6_castShadow] at hyp
  refine r_aload_n G 0 dX6_castShadow_0 rfl rfl ?_
  obtain ⟨v1, hv1, hyp⟩ := x_some hyp
  refine r_getv (C := RX6) (T := TX6) (N := 9) (ci := 6) G 1 (x_getr_e hv1) rfl uw_6 (Nat.le_of_ble_eq_true rfl) rfl ww_65 dX6_castShadow_1 ?_
  refine r_aload_n G 0 dX6_castShadow_4 rfl rfl ?_
  obtain ⟨v2, hv2, hyp⟩ := x_some hyp
  refine r_getv (C := RX6) (T := TX6) (N := 9) (ci := 6) G 0 (x_getr_e hv2) rfl uw_6 (Nat.le_of_ble_eq_true rfl) rfl ww_60 dX6_castShadow_5 ?_
  refine r_ref hyp (fun a3 ha3 hz => ?_)
  clear hyp; subst ha3; have hyp := hz; clear hz
  obtain ⟨o6, hyp⟩ := x_chk hyp
  refine r_callV (ι := xV) (T := TX2) (N := 3) (ci := 2) (b := a3) (rest := []) (As := [va_rf v2]) G hno tg_X2_prepare (fun r w' h => ct_X2_prepare (xhl G) _ _ _ r w' h) o6 hyp rfl ww_129 ww_131 ww_130 (by decide) (by decide) rfl rfl (xroom (Nat.le_of_ble_eq_true rfl)) dX6_castShadow_8 (push := (fun _ => [])) (fun _ => rfl) (fun _ w4 hyp => ?_)
  refine r_aload_n G 0 dX6_castShadow_11 rfl rfl ?_
  obtain ⟨v7, hv7, hyp⟩ := x_some hyp
  refine r_getv (C := RX6) (T := TX6) (N := 9) (ci := 6) G 0 (x_getr_e hv7) rfl uw_6 (Nat.le_of_ble_eq_true rfl) rfl ww_60 dX6_castShadow_12 ?_
  refine r_iload_n G 1 dX6_castShadow_15 rfl rfl ?_
  refine r_iload_n G 2 dX6_castShadow_16 rfl rfl ?_
  refine r_ref hyp (fun a8 ha8 hz => ?_)
  clear hyp; subst ha8; have hyp := hz; clear hz
  obtain ⟨o11, hyp⟩ := x_chk hyp
  refine r_callV (ι := xI) (T := TX4) (N := 4) (ci := 4) (b := a8) (rest := []) (As := [.int x1, .int x2]) G hno tg_X4_addShadow (fun r w' h => ct_X4_addShadow (xhl G) _ _ _ _ r w' h) o11 hyp rfl ww_290 ww_292 ww_291 (by decide) (by decide) rfl rfl (xroom (Nat.le_of_ble_eq_true rfl)) dX6_castShadow_17 (push := (fun r10 => [.int r10])) (fun _ => rfl) (fun r10 w9 hyp => ?_)
  refine r_istore_n (lv' := [(3, .int r10), (0, .ref a0), (1, .int x1), (2, .int x2)]) G dX6_castShadow_20 rfl (by decide) ⟨fun _ => rfl, fun _ => rfl, fun _ => rfl, trivial⟩ rfl ?_
  refine r_iload_n G 0 dX6_castShadow_21 rfl rfl ?_
  refine r_bipush (v := (-2)) G dX6_castShadow_22 (by decide) ?_
  refine r_icmp_ne G 37 dX6_castShadow_24 (by decide) hyp (fun c12 hyp => ?_) (fun c12 hyp => ?_)
  · refine r_iload_n G 0 dX6_castShadow_37 rfl rfl ?_
    refine r_bipush (v := (-3)) G dX6_castShadow_38 (by decide) ?_
    refine r_icmp_ne G 53 dX6_castShadow_40 (by decide) hyp (fun c13 hyp => ?_) (fun c13 hyp => ?_)
    · refine r_iload_n G 0 dX6_castShadow_53 rfl rfl ?_
      refine r_bipush (v := (-4)) G dX6_castShadow_54 (by decide) ?_
      refine r_icmp_ne G 69 dX6_castShadow_56 (by decide) hyp (fun c14 hyp => ?_) (fun c14 hyp => ?_)
      · refine r_aload_n G 1 dX6_castShadow_69 rfl rfl ?_
        obtain ⟨v15, hv15, hyp⟩ := x_some hyp
        refine r_getv (C := RX6) (T := TX6) (N := 9) (ci := 6) G 1 (x_getr_e hv15) rfl uw_6 (Nat.le_of_ble_eq_true rfl) rfl ww_65 dX6_castShadow_70 ?_
        refine r_ref hyp (fun a16 ha16 hz => ?_)
        clear hyp; subst ha16; have hyp := hz; clear hz
        obtain ⟨o19, hyp⟩ := x_chk hyp
        refine r_callV (ι := xV) (T := TX2) (N := 3) (ci := 2) (b := a16) (rest := []) (As := []) G hno tg_X2_commit (fun r w' h => ct_X2_commit (xhl G) _ _ r w' h) o19 hyp rfl ww_135 ww_137 ww_136 (by decide) (by decide) rfl rfl (xroom (Nat.le_of_ble_eq_true rfl)) dX6_castShadow_73 (push := (fun _ => [])) (fun _ => rfl) (fun _ w17 hyp => ?_)
        refine r_iload_n G 0 dX6_castShadow_76 rfl rfl ?_
        exact r_iret G hyp rfl (Nat.zero_le _) (Nat.zero_le _) dX6_castShadow_77
      · exact r_throw 1 G hno hyp th_RX6_77 lit_1 (by decide) dX6_castShadow_59 dX6_castShadow_62 dX6_castShadow_63 dX6_castShadow_65 dX6_castShadow_68
    · exact r_throw 10 G hno hyp th_RX6_70 lit_10 (by decide) dX6_castShadow_43 dX6_castShadow_46 dX6_castShadow_47 dX6_castShadow_49 dX6_castShadow_52
  · exact r_throw 2 G hno hyp th_RX6_89 lit_2 (by decide) dX6_castShadow_27 dX6_castShadow_30 dX6_castShadow_31 dX6_castShadow_33 dX6_castShadow_36
theorem tg_X1_countTone : xTgt yX1_countTone cX1_countTone 4 (some .int) 1 := ⟨ww_341, ww_22, by decide, by decide +kernel, by decide +kernel⟩
section
variable {Γ : xG} {p : Program} {l : Launch} {e : Env} {s : State} {m : MethodId} {args : Array Value} {below : List Frame} {meth : Method} {c : Code} {rF : Int32 ⊕ String} {wF : xW}
set_option maxRecDepth 100000 in
set_option maxHeartbeats 4000000 in
theorem nd_X1_countTone_L4 (G : xCx Γ p l s m args meth c RX1 cX1_countTone 4 (some .int)) (hno : ∀ x ∈ c.exceptionTable.toList, False) : ∀ (n : Nat) (a0 : Nat) (x1 : Int32) (x2 : Int32) (x3 : Int32) (w0 : xW), f_X1_countTone_L4 n a0 x1 x2 x3 w0 = some (rF, wF) → xAW Γ p l e (xRm 0 (x_mc rF) (x_ms rF)) s m args below meth c 4 (xQm Γ below xI rF wF args s (x_mc rF) (x_ms rF)) w0 0 0 4 [(0, .ref a0), (1, .int x1), (2, .int x2), (3, .int x3)] [] := by
  intro n
  induction n with
  | zero =>
    intro a0 x1 x2 x3 w0 hyp
    cases (show (none : xO Int32) = some (rF, wF) from hyp)
  | succ n ih =>
    intro a0 x1 x2 x3 w0 hyp
    rw [f_X1_countTone_L4] at hyp
    refine r_iload_n G 3 dX1_countTone_4 rfl rfl ?_
    refine r_aload_n G 0 dX1_countTone_5 rfl rfl ?_
    obtain ⟨v1, hv1, hyp⟩ := x_some hyp
    refine r_getv (C := RX1) (T := TX1) (N := 6) (ci := 1) G 0 (x_getr_e hv1) rfl uw_1 (Nat.le_of_ble_eq_true rfl) rfl ww_14 dX1_countTone_6 ?_
    refine r_ref hyp (fun a2 ha2 hz => ?_)
    clear hyp; subst ha2; have hyp := hz; clear hz
    obtain ⟨v3, hv3, hyp⟩ := x_some hyp
    refine r_len G hv3 dX1_countTone_9 ?_
    refine r_icmp_ge G 32 dX1_countTone_10 (by decide) hyp (fun c4 hyp => ?_) (fun c4 hyp => ?_)
    · refine r_iload_n G 2 dX1_countTone_32 rfl rfl ?_
      exact r_iret G hyp rfl (Nat.zero_le _) (Nat.zero_le _) dX1_countTone_33
    · refine r_aload_n G 0 dX1_countTone_13 rfl rfl ?_
      obtain ⟨v5, hv5, hyp⟩ := x_some hyp
      refine r_getv (C := RX1) (T := TX1) (N := 6) (ci := 1) G 0 (x_getr_e hv5) rfl uw_1 (Nat.le_of_ble_eq_true rfl) rfl ww_14 dX1_countTone_14 ?_
      refine r_iload_n G 3 dX1_countTone_17 rfl rfl ?_
      refine r_ref hyp (fun a6 ha6 hz => ?_)
      clear hyp; subst ha6; have hyp := hz; clear hz
      obtain ⟨v7, hv7, hyp⟩ := x_some hyp
      refine r_iald G hv7 dX1_countTone_18 ?_
      refine r_iload_n G 1 dX1_countTone_19 rfl rfl ?_
      refine r_icmp_ne G 26 dX1_countTone_20 (by decide) hyp (fun c8 hyp => ?_) (fun c8 hyp => ?_)
      · refine r_iinc (v := (x3 + 1)) (lv' := [(3, .int (x3 + 1)), (0, .ref a0), (1, .int x1), (2, .int x2)]) G 3 dX1_countTone_26 rfl rfl (by decide) ⟨fun _ => rfl, fun _ => rfl, fun _ => rfl, fun _ => rfl, trivial⟩ rfl ?_
        refine r_goto G 4 dX1_countTone_29 (by decide) ?_
        refine r_weak (lv' := [(0, .ref a0), (1, .int x1), (2, .int x2), (3, .int (x3 + 1))]) [1, 2, 3, 0] rfl ?_
        exact ih a0 x1 x2 (x3 + 1) w0 hyp
      · refine r_iinc (v := (x2 + 1)) (lv' := [(2, .int (x2 + 1)), (0, .ref a0), (1, .int x1), (3, .int x3)]) G 2 dX1_countTone_23 rfl rfl (by decide) ⟨fun _ => rfl, fun _ => rfl, fun _ => rfl, fun _ => rfl, trivial⟩ rfl ?_
        refine r_iinc (v := (x3 + 1)) (lv' := [(3, .int (x3 + 1)), (2, .int (x2 + 1)), (0, .ref a0), (1, .int x1)]) G 3 dX1_countTone_26 rfl rfl (by decide) ⟨fun _ => rfl, fun _ => rfl, fun _ => rfl, fun _ => rfl, trivial⟩ rfl ?_
        refine r_goto G 4 dX1_countTone_29 (by decide) ?_
        refine r_weak (lv' := [(0, .ref a0), (1, .int x1), (2, .int (x2 + 1)), (3, .int (x3 + 1))]) [2, 3, 1, 0] rfl ?_
        exact ih a0 x1 (x2 + 1) (x3 + 1) w0 hyp
end
set_option maxRecDepth 100000 in
set_option maxHeartbeats 4000000 in
theorem ct_X1_countTone {Γ : xG} {l : Launch} (hl : l.stackTraces = false) (a0 : Nat) (x1 : Int32) (w0 : xW) (rF : Int32 ⊕ String) (wF : xW) (hyp : f_X1_countTone a0 x1 w0 = some (rF, wF)) : xMet Γ l yX1_countTone (xws yX1_countTone cX1_countTone 4 (some .int)) 0 xI [.ref a0, .int x1] w0 rF wF (x_mc rF) (x_ms rF) := by
  refine xOfW tg_X1_countTone hl (lv0 := [(0, .ref a0), (1, .int x1)]) (Nat.le_of_ble_eq_true rfl) rfl ?_
  intro p e s m below meth c G hno hin
  rw [f_X1_countTone] at hyp
  refine r_iconst (v := 0) G dX1_countTone_0 (by decide) ?_
  refine r_istore_n (lv' := [(2, .int 0), (0, .ref a0), (1, .int x1)]) G dX1_countTone_1 rfl (by decide) ⟨fun _ => rfl, fun _ => rfl, trivial⟩ rfl ?_
  refine r_iconst (v := 0) G dX1_countTone_2 (by decide) ?_
  refine r_istore_n (lv' := [(3, .int 0), (2, .int 0), (0, .ref a0), (1, .int x1)]) G dX1_countTone_3 rfl (by decide) ⟨fun _ => rfl, fun _ => rfl, fun _ => rfl, trivial⟩ rfl ?_
  refine r_weak (lv' := [(0, .ref a0), (1, .int x1), (2, .int 0), (3, .int 0)]) [2, 3, 1, 0] rfl ?_
  exact nd_X1_countTone_L4 G hno xfuel a0 x1 0 0 w0 hyp
theorem tg_X6_cellsWithTone : xTgt yX6_cellsWithTone cX6_cellsWithTone 2 (some .int) 1 := ⟨ww_346, ww_86, by decide, by decide +kernel, by decide +kernel⟩
section
variable {Γ : xG} {p : Program} {l : Launch} {e : Env} {s : State} {m : MethodId} {args : Array Value} {below : List Frame} {meth : Method} {c : Code} {rF : Int32 ⊕ String} {wF : xW}
end
set_option maxRecDepth 100000 in
set_option maxHeartbeats 4000000 in
theorem ct_X6_cellsWithTone {Γ : xG} {l : Launch} (hl : l.stackTraces = false) (a0 : Nat) (x1 : Int32) (w0 : xW) (rF : Int32 ⊕ String) (wF : xW) (hyp : f_X6_cellsWithTone a0 x1 w0 = some (rF, wF)) : xMet Γ l yX6_cellsWithTone (xws yX6_cellsWithTone cX6_cellsWithTone 2 (some .int)) 6 xI [.ref a0, .int x1] w0 rF wF (x_mc rF) (x_ms rF) := by
  refine xOfW tg_X6_cellsWithTone hl (lv0 := [(0, .ref a0), (1, .int x1)]) (Nat.le_of_ble_eq_true rfl) rfl ?_
  intro p e s m below meth c G hno hin
  rw [f_X6_cellsWithTone] at hyp
  refine r_iload_n G 1 dX6_cellsWithTone_0 rfl rfl ?_
  refine r_callS (ι := xI) (rest := []) (As := [.int x1]) G hno tg_X6_isTone (fun r w' h => ct_X6_isTone (xhl G) _ _ r w' h) hyp ww_342 ww_260 (by decide) (by decide) rfl rfl (xroom (Nat.le_of_ble_eq_true rfl)) dX6_cellsWithTone_1 (push := (fun r2 => [.int r2])) (fun _ => rfl) (fun r2 w1 hyp => ?_)
  refine r_if_ne G 17 dX6_cellsWithTone_4 (by decide) hyp (fun c3 hyp => ?_) (fun c3 hyp => ?_)
  · refine r_aload_n G 0 dX6_cellsWithTone_17 rfl rfl ?_
    obtain ⟨o6, hyp⟩ := x_chk hyp
    refine r_callV (ι := xQ) (T := TX6) (N := 9) (ci := 6) (b := a0) (rest := []) (As := []) G hno tg_X6_flattened (fun r w' h => ct_X6_flattened (xhl G) _ _ r w' h) o6 hyp rfl ww_176 ww_178 ww_177 (by decide) (by decide) rfl rfl (xroom (Nat.le_of_ble_eq_true rfl)) dX6_cellsWithTone_18 (push := (fun r5 => [va_rf r5])) (fun _ => rfl) (fun r5 w4 hyp => ?_)
    refine r_iload_n G 1 dX6_cellsWithTone_21 rfl rfl ?_
    refine r_ref hyp (fun a7 ha7 hz => ?_)
    clear hyp; subst ha7; have hyp := hz; clear hz
    obtain ⟨o10, hyp⟩ := x_chk hyp
    refine r_callV (ι := xI) (T := TX1) (N := 6) (ci := 1) (b := a7) (rest := []) (As := [.int x1]) G hno tg_X1_countTone (fun r w' h => ct_X1_countTone (xhl G) _ _ _ r w' h) o10 hyp rfl ww_343 ww_345 ww_344 (by decide) (by decide) rfl rfl (xroom (Nat.le_of_ble_eq_true rfl)) dX6_cellsWithTone_22 (push := (fun r9 => [.int r9])) (fun _ => rfl) (fun r9 w8 hyp => ?_)
    exact r_iret G hyp rfl (Nat.zero_le _) (Nat.zero_le _) dX6_cellsWithTone_25
  · exact r_throw 14 G hno hyp th_RX6_70 lit_14 (by decide) dX6_cellsWithTone_7 dX6_cellsWithTone_10 dX6_cellsWithTone_11 dX6_cellsWithTone_13 dX6_cellsWithTone_16
theorem tg_X1_mostFrequentTone : xTgt yX1_mostFrequentTone cX1_mostFrequentTone 5 (some .int) 0 := ⟨ww_348, ww_22, by decide, by decide +kernel, by decide +kernel⟩
section
variable {Γ : xG} {p : Program} {l : Launch} {e : Env} {s : State} {m : MethodId} {args : Array Value} {below : List Frame} {meth : Method} {c : Code} {rF : Int32 ⊕ String} {wF : xW}
set_option maxRecDepth 100000 in
set_option maxHeartbeats 4000000 in
theorem nd_X1_mostFrequentTone_L6 (G : xCx Γ p l s m args meth c RX1 cX1_mostFrequentTone 5 (some .int)) (hno : ∀ x ∈ c.exceptionTable.toList, False) : ∀ (n : Nat) (a0 : Nat) (x1 : Int32) (x2 : Int32) (x3 : Int32) (w0 : xW), f_X1_mostFrequentTone_L6 n a0 x1 x2 x3 w0 = some (rF, wF) → xAW Γ p l e (xRm 1 (x_mc rF) (x_ms rF)) s m args below meth c 5 (xQm Γ below xI rF wF args s (x_mc rF) (x_ms rF)) w0 0 0 6 [(0, .ref a0), (1, .int x1), (2, .int x2), (3, .int x3)] [] := by
  intro n
  induction n with
  | zero =>
    intro a0 x1 x2 x3 w0 hyp
    cases (show (none : xO Int32) = some (rF, wF) from hyp)
  | succ n ih =>
    intro a0 x1 x2 x3 w0 hyp
    rw [f_X1_mostFrequentTone_L6] at hyp
    refine r_iload_n G 3 dX1_mostFrequentTone_6 rfl rfl ?_
    refine r_bipush (v := 15) G dX1_mostFrequentTone_7 (by decide) ?_
    refine r_icmp_gt G 36 dX1_mostFrequentTone_9 (by decide) hyp (fun c1 hyp => ?_) (fun c1 hyp => ?_)
    · refine r_iload_n G 1 dX1_mostFrequentTone_36 rfl rfl ?_
      exact r_iret G hyp rfl (Nat.zero_le _) (Nat.zero_le _) dX1_mostFrequentTone_37
    · refine r_aload_n G 0 dX1_mostFrequentTone_12 rfl rfl ?_
      refine r_iload_n G 3 dX1_mostFrequentTone_13 rfl rfl ?_
      obtain ⟨o4, hyp⟩ := x_chk hyp
      refine r_callV (ι := xI) (T := TX1) (N := 6) (ci := 1) (b := a0) (rest := []) (As := [.int x3]) G hno tg_X1_countTone (fun r w' h => ct_X1_countTone (xhl G) _ _ _ r w' h) o4 hyp rfl ww_347 ww_345 ww_344 (by decide) (by decide) rfl rfl (xroom (Nat.le_of_ble_eq_true rfl)) dX1_mostFrequentTone_14 (push := (fun r3 => [.int r3])) (fun _ => rfl) (fun r3 w2 hyp => ?_)
      refine r_istore (lv' := [(4, .int r3), (0, .ref a0), (1, .int x1), (2, .int x2), (3, .int x3)]) G dX1_mostFrequentTone_17 (by decide) ⟨fun _ => rfl, fun _ => rfl, fun _ => rfl, fun _ => rfl, trivial⟩ rfl ?_
      refine r_iload G 0 dX1_mostFrequentTone_19 rfl ?_
      refine r_iload_n G 3 dX1_mostFrequentTone_21 rfl rfl ?_
      refine r_icmp_le G 30 dX1_mostFrequentTone_22 (by decide) hyp (fun c5 hyp => ?_) (fun c5 hyp => ?_)
      · refine r_iinc (v := (x3 + 1)) (lv' := [(3, .int (x3 + 1)), (4, .int r3), (0, .ref a0), (1, .int x1), (2, .int x2)]) G 4 dX1_mostFrequentTone_30 rfl rfl (by decide) ⟨fun _ => rfl, fun _ => rfl, fun _ => rfl, fun _ => rfl, fun _ => rfl, trivial⟩ rfl ?_
        refine r_goto G 6 dX1_mostFrequentTone_33 (by decide) ?_
        refine r_weak (lv' := [(0, .ref a0), (1, .int x1), (2, .int x2), (3, .int (x3 + 1))]) [2, 3, 4, 0] rfl ?_
        exact ih a0 x1 x2 (x3 + 1) w2 hyp
      · refine r_iload_n G 4 dX1_mostFrequentTone_25 rfl rfl ?_
        refine r_istore_n (lv' := [(1, .int x3), (4, .int r3), (0, .ref a0), (2, .int x2), (3, .int x3)]) G dX1_mostFrequentTone_26 rfl (by decide) ⟨fun _ => rfl, fun _ => rfl, fun _ => rfl, fun _ => rfl, fun _ => rfl, trivial⟩ rfl ?_
        refine r_iload G 1 dX1_mostFrequentTone_27 rfl ?_
        refine r_istore_n (lv' := [(2, .int r3), (1, .int x3), (4, .int r3), (0, .ref a0), (3, .int x3)]) G dX1_mostFrequentTone_29 rfl (by decide) ⟨fun _ => rfl, fun _ => rfl, fun _ => rfl, fun _ => rfl, fun _ => rfl, trivial⟩ rfl ?_
        refine r_iinc (v := (x3 + 1)) (lv' := [(3, .int (x3 + 1)), (2, .int r3), (1, .int x3), (4, .int r3), (0, .ref a0)]) G 4 dX1_mostFrequentTone_30 rfl rfl (by decide) ⟨fun _ => rfl, fun _ => rfl, fun _ => rfl, fun _ => rfl, fun _ => rfl, trivial⟩ rfl ?_
        refine r_goto G 6 dX1_mostFrequentTone_33 (by decide) ?_
        refine r_weak (lv' := [(0, .ref a0), (1, .int x3), (2, .int r3), (3, .int (x3 + 1))]) [4, 2, 1, 0] rfl ?_
        exact ih a0 x3 r3 (x3 + 1) w2 hyp
end
set_option maxRecDepth 100000 in
set_option maxHeartbeats 4000000 in
theorem ct_X1_mostFrequentTone {Γ : xG} {l : Launch} (hl : l.stackTraces = false) (a0 : Nat) (w0 : xW) (rF : Int32 ⊕ String) (wF : xW) (hyp : f_X1_mostFrequentTone a0 w0 = some (rF, wF)) : xMet Γ l yX1_mostFrequentTone (xws yX1_mostFrequentTone cX1_mostFrequentTone 5 (some .int)) 1 xI [.ref a0] w0 rF wF (x_mc rF) (x_ms rF) := by
  refine xOfW tg_X1_mostFrequentTone hl (lv0 := [(0, .ref a0)]) (Nat.le_of_ble_eq_true rfl) rfl ?_
  intro p e s m below meth c G hno hin
  rw [f_X1_mostFrequentTone] at hyp
  refine r_iconst (v := 0) G dX1_mostFrequentTone_0 (by decide) ?_
  refine r_istore_n (lv' := [(1, .int 0), (0, .ref a0)]) G dX1_mostFrequentTone_1 rfl (by decide) ⟨fun _ => rfl, trivial⟩ rfl ?_
  refine r_iconst (v := 0) G dX1_mostFrequentTone_2 (by decide) ?_
  refine r_istore_n (lv' := [(2, .int 0), (1, .int 0), (0, .ref a0)]) G dX1_mostFrequentTone_3 rfl (by decide) ⟨fun _ => rfl, fun _ => rfl, trivial⟩ rfl ?_
  refine r_iconst (v := 0) G dX1_mostFrequentTone_4 (by decide) ?_
  refine r_istore_n (lv' := [(3, .int 0), (2, .int 0), (1, .int 0), (0, .ref a0)]) G dX1_mostFrequentTone_5 rfl (by decide) ⟨fun _ => rfl, fun _ => rfl, fun _ => rfl, trivial⟩ rfl ?_
  refine r_weak (lv' := [(0, .ref a0), (1, .int 0), (2, .int 0), (3, .int 0)]) [3, 2, 1, 0] rfl ?_
  exact nd_X1_mostFrequentTone_L6 G hno xfuel a0 0 0 0 w0 hyp
theorem tg_X6_commonestTone : xTgt yX6_commonestTone cX6_commonestTone 1 (some .int) 0 := ⟨ww_352, ww_86, by decide, by decide +kernel, by decide +kernel⟩
section
variable {Γ : xG} {p : Program} {l : Launch} {e : Env} {s : State} {m : MethodId} {args : Array Value} {below : List Frame} {meth : Method} {c : Code} {rF : Int32 ⊕ String} {wF : xW}
end
set_option maxRecDepth 100000 in
set_option maxHeartbeats 4000000 in
theorem ct_X6_commonestTone {Γ : xG} {l : Launch} (hl : l.stackTraces = false) (a0 : Nat) (w0 : xW) (rF : Int32 ⊕ String) (wF : xW) (hyp : f_X6_commonestTone a0 w0 = some (rF, wF)) : xMet Γ l yX6_commonestTone (xws yX6_commonestTone cX6_commonestTone 1 (some .int)) 5 xI [.ref a0] w0 rF wF (x_mc rF) (x_ms rF) := by
  refine xOfW tg_X6_commonestTone hl (lv0 := [(0, .ref a0)]) (Nat.le_of_ble_eq_true rfl) rfl ?_
  intro p e s m below meth c G hno hin
  rw [f_X6_commonestTone] at hyp
  refine r_aload_n G 0 dX6_commonestTone_0 rfl rfl ?_
  obtain ⟨o3, hyp⟩ := x_chk hyp
  refine r_callV (ι := xQ) (T := TX6) (N := 9) (ci := 6) (b := a0) (rest := []) (As := []) G hno tg_X6_flattened (fun r w' h => ct_X6_flattened (xhl G) _ _ r w' h) o3 hyp rfl ww_176 ww_178 ww_177 (by decide) (by decide) rfl rfl (xroom (Nat.le_of_ble_eq_true rfl)) dX6_commonestTone_1 (push := (fun r2 => [va_rf r2])) (fun _ => rfl) (fun r2 w1 hyp => ?_)
  refine r_ref hyp (fun a4 ha4 hz => ?_)
  clear hyp; subst ha4; have hyp := hz; clear hz
  obtain ⟨o7, hyp⟩ := x_chk hyp
  refine r_callV (ι := xI) (T := TX1) (N := 6) (ci := 1) (b := a4) (rest := []) (As := []) G hno tg_X1_mostFrequentTone (fun r w' h => ct_X1_mostFrequentTone (xhl G) _ _ r w' h) o7 hyp rfl ww_349 ww_351 ww_350 (by decide) (by decide) rfl rfl (xroom (Nat.le_of_ble_eq_true rfl)) dX6_commonestTone_4 (push := (fun r6 => [.int r6])) (fun _ => rfl) (fun r6 w5 hyp => ?_)
  exact r_iret G hyp rfl (Nat.zero_le _) (Nat.zero_le _) dX6_commonestTone_7
theorem tg_X3_covers : xTgt yX3_covers cX3_covers 2 (some .boolean) 1 := ⟨ww_353, ww_28, by decide, by decide +kernel, by decide +kernel⟩
section
variable {Γ : xG} {p : Program} {l : Launch} {e : Env} {s : State} {m : MethodId} {args : Array Value} {below : List Frame} {meth : Method} {c : Code} {rF : Int32 ⊕ String} {wF : xW}
end
set_option maxRecDepth 100000 in
set_option maxHeartbeats 4000000 in
theorem ct_X3_covers {Γ : xG} {l : Launch} (hl : l.stackTraces = false) (a0 : Nat) (x1 : Int32) (w0 : xW) (rF : Int32 ⊕ String) (wF : xW) (hyp : f_X3_covers a0 x1 w0 = some (rF, wF)) : xMet Γ l yX3_covers (xws yX3_covers cX3_covers 2 (some .boolean)) 1 xI [.ref a0, .int x1] w0 rF wF (x_mc rF) (x_ms rF) := by
  refine xOfW tg_X3_covers hl (lv0 := [(0, .ref a0), (1, .int x1)]) (Nat.le_of_ble_eq_true rfl) rfl ?_
  intro p e s m below meth c G hno hin
  rw [f_X3_covers] at hyp
  refine r_aload_n G 0 dX3_covers_0 rfl rfl ?_
  obtain ⟨v1, hv1, hyp⟩ := x_some hyp
  refine r_getv (C := RX3) (T := TX3) (N := 3) (ci := 3) G 1 (x_geti_e hv1) rfl uw_3 (Nat.le_of_ble_eq_true rfl) rfl ww_25 dX3_covers_1 ?_
  refine r_if_eq G 20 dX3_covers_4 (by decide) hyp (fun c2 hyp => ?_) (fun c2 hyp => ?_)
  · refine r_iconst (v := 0) G dX3_covers_20 (by decide) ?_
    exact r_iret G hyp (by decide) (Nat.zero_le _) (Nat.zero_le _) dX3_covers_21
  · refine r_aload_n G 0 dX3_covers_7 rfl rfl ?_
    refine r_iload_n G 1 dX3_covers_8 rfl rfl ?_
    obtain ⟨o5, hyp⟩ := x_chk hyp
    refine r_callV (ι := xI) (T := TX3) (N := 3) (ci := 3) (b := a0) (rest := []) (As := [.int x1]) G hno tg_X3_toneAt (fun r w' h => ct_X3_toneAt (xhl G) _ _ _ r w' h) o5 hyp rfl ww_141 ww_143 ww_142 (by decide) (by decide) rfl rfl (xroom (Nat.le_of_ble_eq_true rfl)) dX3_covers_9 (push := (fun r4 => [.int r4])) (fun _ => rfl) (fun r4 w3 hyp => ?_)
    refine r_iconst (v := (-1)) G dX3_covers_12 (by decide) ?_
    refine r_icmp_eq G 20 dX3_covers_13 (by decide) hyp (fun c6 hyp => ?_) (fun c6 hyp => ?_)
    · refine r_iconst (v := 0) G dX3_covers_20 (by decide) ?_
      exact r_iret G hyp (by decide) (Nat.zero_le _) (Nat.zero_le _) dX3_covers_21
    · refine r_iconst (v := 1) G dX3_covers_16 (by decide) ?_
      refine r_goto G 21 dX3_covers_17 (by decide) ?_
      exact r_iret G hyp (by decide) (Nat.zero_le _) (Nat.zero_le _) dX3_covers_21
theorem tg_X4_countCovering : xTgt yX4_countCovering cX4_countCovering 5 (some .int) 1 := ⟨ww_357, ww_40, by decide, by decide +kernel, by decide +kernel⟩
section
variable {Γ : xG} {p : Program} {l : Launch} {e : Env} {s : State} {m : MethodId} {args : Array Value} {below : List Frame} {meth : Method} {c : Code} {rF : Int32 ⊕ String} {wF : xW}
set_option maxRecDepth 100000 in
set_option maxHeartbeats 4000000 in
theorem nd_X4_countCovering_L4 (G : xCx Γ p l s m args meth c RX4 cX4_countCovering 5 (some .int)) (hno : ∀ x ∈ c.exceptionTable.toList, False) : ∀ (n : Nat) (a0 : Nat) (x1 : Int32) (x2 : Int32) (x3 : Int32) (w0 : xW), f_X4_countCovering_L4 n a0 x1 x2 x3 w0 = some (rF, wF) → xAW Γ p l e (xRm 2 (x_mc rF) (x_ms rF)) s m args below meth c 5 (xQm Γ below xI rF wF args s (x_mc rF) (x_ms rF)) w0 0 0 4 [(0, .ref a0), (1, .int x1), (2, .int x2), (3, .int x3)] [] := by
  intro n
  induction n with
  | zero =>
    intro a0 x1 x2 x3 w0 hyp
    cases (show (none : xO Int32) = some (rF, wF) from hyp)
  | succ n ih =>
    intro a0 x1 x2 x3 w0 hyp
    rw [f_X4_countCovering_L4] at hyp
    refine r_iload_n G 3 dX4_countCovering_4 rfl rfl ?_
    refine r_aload_n G 0 dX4_countCovering_5 rfl rfl ?_
    obtain ⟨v1, hv1, hyp⟩ := x_some hyp
    refine r_getv (C := RX4) (T := TX4) (N := 4) (ci := 4) G 1 (x_geti_e hv1) rfl uw_4 (Nat.le_of_ble_eq_true rfl) rfl ww_32 dX4_countCovering_6 ?_
    refine r_icmp_ge G 42 dX4_countCovering_9 (by decide) hyp (fun c2 hyp => ?_) (fun c2 hyp => ?_)
    · refine r_iload_n G 2 dX4_countCovering_42 rfl rfl ?_
      exact r_iret G hyp rfl (Nat.zero_le _) (Nat.zero_le _) dX4_countCovering_43
    · refine r_aload_n G 0 dX4_countCovering_12 rfl rfl ?_
      refine r_iload_n G 3 dX4_countCovering_13 rfl rfl ?_
      obtain ⟨o5, hyp⟩ := x_chk hyp
      refine r_callV (ι := xQ) (T := TX4) (N := 4) (ci := 4) (b := a0) (rest := []) (As := [.int x3]) G hno tg_X4_at (fun r w' h => ct_X4_at (xhl G) _ _ _ r w' h) o5 hyp rfl ww_99 ww_101 ww_100 (by decide) (by decide) rfl rfl (xroom (Nat.le_of_ble_eq_true rfl)) dX4_countCovering_14 (push := (fun r4 => [va_rf r4])) (fun _ => rfl) (fun r4 w3 hyp => ?_)
      refine r_astoreq (lv' := [(4, va_rf r4), (0, .ref a0), (1, .int x1), (2, .int x2), (3, .int x3)]) G dX4_countCovering_17 (by decide) ⟨fun _ => rfl, fun _ => rfl, fun _ => rfl, fun _ => rfl, trivial⟩ rfl ?_
      refine r_aloadq G 0 dX4_countCovering_19 rfl ?_
      refine r_ifnull G 36 dX4_countCovering_21 (by decide) hyp (fun hyp => ?_) (fun a6 ha6 hz => ?_)
      · refine r_iinc (v := (x3 + 1)) (lv' := [(3, .int (x3 + 1)), (4, va_rf r4), (0, .ref a0), (1, .int x1), (2, .int x2)]) G 4 dX4_countCovering_36 rfl rfl (by decide) ⟨fun _ => xcq _, fun _ => rfl, fun _ => rfl, fun _ => rfl, fun _ => rfl, trivial⟩ rfl ?_
        refine r_goto G 4 dX4_countCovering_39 (by decide) ?_
        refine r_weak (lv' := [(0, .ref a0), (1, .int x1), (2, .int x2), (3, .int (x3 + 1))]) [2, 3, 4, 0] rfl ?_
        exact ih a0 x1 x2 (x3 + 1) w3 hyp
      · clear hyp; subst ha6; have hyp := hz; clear hz
        refine r_aload G 0 dX4_countCovering_24 rfl ?_
        refine r_iload_n G 2 dX4_countCovering_26 rfl rfl ?_
        obtain ⟨o9, hyp⟩ := x_chk hyp
        refine r_callV (ι := xI) (T := TX3) (N := 3) (ci := 3) (b := a6) (rest := []) (As := [.int x1]) G hno tg_X3_covers (fun r w' h => ct_X3_covers (xhl G) _ _ _ r w' h) o9 hyp rfl ww_354 ww_356 ww_355 (by decide) (by decide) rfl rfl (xroom (Nat.le_of_ble_eq_true rfl)) dX4_countCovering_27 (push := (fun r8 => [.int r8])) (fun _ => rfl) (fun r8 w7 hyp => ?_)
        refine r_if_eq G 36 dX4_countCovering_30 (by decide) hyp (fun c10 hyp => ?_) (fun c10 hyp => ?_)
        · refine r_iinc (v := (x3 + 1)) (lv' := [(3, .int (x3 + 1)), (4, .ref a6), (0, .ref a0), (1, .int x1), (2, .int x2)]) G 4 dX4_countCovering_36 rfl rfl (by decide) ⟨fun _ => rfl, fun _ => rfl, fun _ => rfl, fun _ => rfl, fun _ => rfl, trivial⟩ rfl ?_
          refine r_goto G 4 dX4_countCovering_39 (by decide) ?_
          refine r_weak (lv' := [(0, .ref a0), (1, .int x1), (2, .int x2), (3, .int (x3 + 1))]) [2, 3, 4, 0] rfl ?_
          exact ih a0 x1 x2 (x3 + 1) w7 hyp
        · refine r_iinc (v := (x2 + 1)) (lv' := [(2, .int (x2 + 1)), (4, .ref a6), (0, .ref a0), (1, .int x1), (3, .int x3)]) G 3 dX4_countCovering_33 rfl rfl (by decide) ⟨fun _ => rfl, fun _ => rfl, fun _ => rfl, fun _ => rfl, fun _ => rfl, trivial⟩ rfl ?_
          refine r_iinc (v := (x3 + 1)) (lv' := [(3, .int (x3 + 1)), (2, .int (x2 + 1)), (4, .ref a6), (0, .ref a0), (1, .int x1)]) G 4 dX4_countCovering_36 rfl rfl (by decide) ⟨fun _ => rfl, fun _ => rfl, fun _ => rfl, fun _ => rfl, fun _ => rfl, trivial⟩ rfl ?_
          refine r_goto G 4 dX4_countCovering_39 (by decide) ?_
          refine r_weak (lv' := [(0, .ref a0), (1, .int x1), (2, .int (x2 + 1)), (3, .int (x3 + 1))]) [3, 4, 1, 0] rfl ?_
          exact ih a0 x1 (x2 + 1) (x3 + 1) w7 hyp
end
set_option maxRecDepth 100000 in
set_option maxHeartbeats 4000000 in
theorem ct_X4_countCovering {Γ : xG} {l : Launch} (hl : l.stackTraces = false) (a0 : Nat) (x1 : Int32) (w0 : xW) (rF : Int32 ⊕ String) (wF : xW) (hyp : f_X4_countCovering a0 x1 w0 = some (rF, wF)) : xMet Γ l yX4_countCovering (xws yX4_countCovering cX4_countCovering 5 (some .int)) 2 xI [.ref a0, .int x1] w0 rF wF (x_mc rF) (x_ms rF) := by
  refine xOfW tg_X4_countCovering hl (lv0 := [(0, .ref a0), (1, .int x1)]) (Nat.le_of_ble_eq_true rfl) rfl ?_
  intro p e s m below meth c G hno hin
  rw [f_X4_countCovering] at hyp
  refine r_iconst (v := 0) G dX4_countCovering_0 (by decide) ?_
  refine r_istore_n (lv' := [(2, .int 0), (0, .ref a0), (1, .int x1)]) G dX4_countCovering_1 rfl (by decide) ⟨fun _ => rfl, fun _ => rfl, trivial⟩ rfl ?_
  refine r_iconst (v := 0) G dX4_countCovering_2 (by decide) ?_
  refine r_istore_n (lv' := [(3, .int 0), (2, .int 0), (0, .ref a0), (1, .int x1)]) G dX4_countCovering_3 rfl (by decide) ⟨fun _ => rfl, fun _ => rfl, fun _ => rfl, trivial⟩ rfl ?_
  refine r_weak (lv' := [(0, .ref a0), (1, .int x1), (2, .int 0), (3, .int 0)]) [2, 3, 1, 0] rfl ?_
  exact nd_X4_countCovering_L4 G hno xfuel a0 x1 0 0 w0 hyp
theorem tg_X4_countCoveredCells : xTgt yX4_countCoveredCells cX4_countCoveredCells 3 (some .int) 0 := ⟨ww_361, ww_40, by decide, by decide +kernel, by decide +kernel⟩
section
variable {Γ : xG} {p : Program} {l : Launch} {e : Env} {s : State} {m : MethodId} {args : Array Value} {below : List Frame} {meth : Method} {c : Code} {rF : Int32 ⊕ String} {wF : xW}
set_option maxRecDepth 100000 in
set_option maxHeartbeats 4000000 in
theorem nd_X4_countCoveredCells_L4 (G : xCx Γ p l s m args meth c RX4 cX4_countCoveredCells 3 (some .int)) (hno : ∀ x ∈ c.exceptionTable.toList, False) : ∀ (n : Nat) (a0 : Nat) (x1 : Int32) (x2 : Int32) (w0 : xW), f_X4_countCoveredCells_L4 n a0 x1 x2 w0 = some (rF, wF) → xAW Γ p l e (xRm 3 (x_mc rF) (x_ms rF)) s m args below meth c 3 (xQm Γ below xI rF wF args s (x_mc rF) (x_ms rF)) w0 0 0 4 [(0, .ref a0), (1, .int x1), (2, .int x2)] [] := by
  intro n
  induction n with
  | zero =>
    intro a0 x1 x2 w0 hyp
    cases (show (none : xO Int32) = some (rF, wF) from hyp)
  | succ n ih =>
    intro a0 x1 x2 w0 hyp
    rw [f_X4_countCoveredCells_L4] at hyp
    refine r_iload_n G 2 dX4_countCoveredCells_4 rfl rfl ?_
    refine r_bipush (v := 48) G dX4_countCoveredCells_5 (by decide) ?_
    refine r_icmp_ge G 27 dX4_countCoveredCells_7 (by decide) hyp (fun c1 hyp => ?_) (fun c1 hyp => ?_)
    · refine r_iload_n G 1 dX4_countCoveredCells_27 rfl rfl ?_
      exact r_iret G hyp rfl (Nat.zero_le _) (Nat.zero_le _) dX4_countCoveredCells_28
    · refine r_aload_n G 0 dX4_countCoveredCells_10 rfl rfl ?_
      refine r_iload_n G 2 dX4_countCoveredCells_11 rfl rfl ?_
      obtain ⟨o4, hyp⟩ := x_chk hyp
      refine r_callV (ι := xI) (T := TX4) (N := 4) (ci := 4) (b := a0) (rest := []) (As := [.int x2]) G hno tg_X4_countCovering (fun r w' h => ct_X4_countCovering (xhl G) _ _ _ r w' h) o4 hyp rfl ww_358 ww_360 ww_359 (by decide) (by decide) rfl rfl (xroom (Nat.le_of_ble_eq_true rfl)) dX4_countCoveredCells_12 (push := (fun r3 => [.int r3])) (fun _ => rfl) (fun r3 w2 hyp => ?_)
      refine r_if_le G 21 dX4_countCoveredCells_15 (by decide) hyp (fun c5 hyp => ?_) (fun c5 hyp => ?_)
      · refine r_iinc (v := (x2 + 1)) (lv' := [(2, .int (x2 + 1)), (0, .ref a0), (1, .int x1)]) G 2 dX4_countCoveredCells_21 rfl rfl (by decide) ⟨fun _ => rfl, fun _ => rfl, fun _ => rfl, trivial⟩ rfl ?_
        refine r_goto G 4 dX4_countCoveredCells_24 (by decide) ?_
        refine r_weak (lv' := [(0, .ref a0), (1, .int x1), (2, .int (x2 + 1))]) [1, 2, 0] rfl ?_
        exact ih a0 x1 (x2 + 1) w2 hyp
      · refine r_iinc (v := (x1 + 1)) (lv' := [(1, .int (x1 + 1)), (0, .ref a0), (2, .int x2)]) G 1 dX4_countCoveredCells_18 rfl rfl (by decide) ⟨fun _ => rfl, fun _ => rfl, fun _ => rfl, trivial⟩ rfl ?_
        refine r_iinc (v := (x2 + 1)) (lv' := [(2, .int (x2 + 1)), (1, .int (x1 + 1)), (0, .ref a0)]) G 2 dX4_countCoveredCells_21 rfl rfl (by decide) ⟨fun _ => rfl, fun _ => rfl, fun _ => rfl, trivial⟩ rfl ?_
        refine r_goto G 4 dX4_countCoveredCells_24 (by decide) ?_
        refine r_weak (lv' := [(0, .ref a0), (1, .int (x1 + 1)), (2, .int (x2 + 1))]) [2, 1, 0] rfl ?_
        exact ih a0 (x1 + 1) (x2 + 1) w2 hyp
end
set_option maxRecDepth 100000 in
set_option maxHeartbeats 4000000 in
theorem ct_X4_countCoveredCells {Γ : xG} {l : Launch} (hl : l.stackTraces = false) (a0 : Nat) (w0 : xW) (rF : Int32 ⊕ String) (wF : xW) (hyp : f_X4_countCoveredCells a0 w0 = some (rF, wF)) : xMet Γ l yX4_countCoveredCells (xws yX4_countCoveredCells cX4_countCoveredCells 3 (some .int)) 3 xI [.ref a0] w0 rF wF (x_mc rF) (x_ms rF) := by
  refine xOfW tg_X4_countCoveredCells hl (lv0 := [(0, .ref a0)]) (Nat.le_of_ble_eq_true rfl) rfl ?_
  intro p e s m below meth c G hno hin
  rw [f_X4_countCoveredCells] at hyp
  refine r_iconst (v := 0) G dX4_countCoveredCells_0 (by decide) ?_
  refine r_istore_n (lv' := [(1, .int 0), (0, .ref a0)]) G dX4_countCoveredCells_1 rfl (by decide) ⟨fun _ => rfl, trivial⟩ rfl ?_
  refine r_iconst (v := 0) G dX4_countCoveredCells_2 (by decide) ?_
  refine r_istore_n (lv' := [(2, .int 0), (1, .int 0), (0, .ref a0)]) G dX4_countCoveredCells_3 rfl (by decide) ⟨fun _ => rfl, fun _ => rfl, trivial⟩ rfl ?_
  refine r_weak (lv' := [(0, .ref a0), (1, .int 0), (2, .int 0)]) [2, 1, 0] rfl ?_
  exact nd_X4_countCoveredCells_L4 G hno xfuel a0 0 0 w0 hyp
theorem tg_X6_coveredShare : xTgt yX6_coveredShare cX6_coveredShare 1 (some .float) 0 := ⟨ww_366, ww_86, by decide, by decide +kernel, by decide +kernel⟩
section
variable {Γ : xG} {p : Program} {l : Launch} {e : Env} {s : State} {m : MethodId} {args : Array Value} {below : List Frame} {meth : Method} {c : Code} {rF : UInt32 ⊕ String} {wF : xW}
end
set_option maxRecDepth 100000 in
set_option maxHeartbeats 4000000 in
theorem ct_X6_coveredShare {Γ : xG} {l : Launch} (hl : l.stackTraces = false) (a0 : Nat) (w0 : xW) (rF : UInt32 ⊕ String) (wF : xW) (hyp : f_X6_coveredShare a0 w0 = some (rF, wF)) : xMet Γ l yX6_coveredShare (xws yX6_coveredShare cX6_coveredShare 1 (some .float)) 4 xFl [.ref a0] w0 rF wF (x_mc rF) (x_ms rF) := by
  refine xOfW tg_X6_coveredShare hl (lv0 := [(0, .ref a0)]) (Nat.le_of_ble_eq_true rfl) rfl ?_
  intro p e s m below meth c G hno hin
  rw [f_X6_coveredShare] at hyp
  refine r_aload_n G 0 dX6_coveredShare_0 rfl rfl ?_
  obtain ⟨v1, hv1, hyp⟩ := x_some hyp
  refine r_getv (C := RX6) (T := TX6) (N := 9) (ci := 6) G 0 (x_getr_e hv1) rfl uw_6 (Nat.le_of_ble_eq_true rfl) rfl ww_60 dX6_coveredShare_1 ?_
  refine r_ref hyp (fun a2 ha2 hz => ?_)
  clear hyp; subst ha2; have hyp := hz; clear hz
  obtain ⟨o5, hyp⟩ := x_chk hyp
  refine r_callV (ι := xI) (T := TX4) (N := 4) (ci := 4) (b := a2) (rest := []) (As := []) G hno tg_X4_countCoveredCells (fun r w' h => ct_X4_countCoveredCells (xhl G) _ _ r w' h) o5 hyp rfl ww_362 ww_364 ww_363 (by decide) (by decide) rfl rfl (xroom (Nat.le_of_ble_eq_true rfl)) dX6_coveredShare_4 (push := (fun r4 => [.int r4])) (fun _ => rfl) (fun r4 w3 hyp => ?_)
  refine r_i2f G dX6_coveredShare_7 ?_
  refine r_ldcfW G dX6_coveredShare_8 ww_365 ?_
  obtain ⟨h6, hyp⟩ := x_chk hyp
  refine r_fdiv G dX6_coveredShare_11 (x_n32_e h6) ?_
  exact r_fret G hyp (Nat.zero_le _) (Nat.zero_le _) dX6_coveredShare_12
theorem tg_X6_coveringLayers : xTgt yX6_coveringLayers cX6_coveringLayers 3 (some .int) 2 := ⟨ww_368, ww_86, by decide, by decide +kernel, by decide +kernel⟩
section
variable {Γ : xG} {p : Program} {l : Launch} {e : Env} {s : State} {m : MethodId} {args : Array Value} {below : List Frame} {meth : Method} {c : Code} {rF : Int32 ⊕ String} {wF : xW}
end
set_option maxRecDepth 100000 in
set_option maxHeartbeats 4000000 in
theorem ct_X6_coveringLayers {Γ : xG} {l : Launch} (hl : l.stackTraces = false) (a0 : Nat) (x1 : Int32) (x2 : Int32) (w0 : xW) (rF : Int32 ⊕ String) (wF : xW) (hyp : f_X6_coveringLayers a0 x1 x2 w0 = some (rF, wF)) : xMet Γ l yX6_coveringLayers (xws yX6_coveringLayers cX6_coveringLayers 3 (some .int)) 7 xI [.ref a0, .int x1, .int x2] w0 rF wF (x_mc rF) (x_ms rF) := by
  refine xOfW tg_X6_coveringLayers hl (lv0 := [(0, .ref a0), (1, .int x1), (2, .int x2)]) (Nat.le_of_ble_eq_true rfl) rfl ?_
  intro p e s m below meth c G hno hin
  rw [f_X6_coveringLayers] at hyp
  refine r_aload_n G 0 dX6_coveringLayers_0 rfl rfl ?_
  obtain ⟨v1, hv1, hyp⟩ := x_some hyp
  refine r_getv (C := RX6) (T := TX6) (N := 9) (ci := 6) G 0 (x_getr_e hv1) rfl uw_6 (Nat.le_of_ble_eq_true rfl) rfl ww_60 dX6_coveringLayers_1 ?_
  refine r_iload_n G 1 dX6_coveringLayers_4 rfl rfl ?_
  refine r_iload_n G 2 dX6_coveringLayers_5 rfl rfl ?_
  refine r_callS (ι := xI) (rest := [va_rf v1]) (As := [.int x1, .int x2]) G hno tg_X6_existingCell (fun r w' h => ct_X6_existingCell (xhl G) _ _ _ r w' h) hyp ww_204 ww_205 (by decide) (by decide) rfl rfl (xroom (Nat.le_of_ble_eq_true rfl)) dX6_coveringLayers_6 (push := (fun r3 => [.int r3, va_rf v1])) (fun _ => rfl) (fun r3 w2 hyp => ?_)
  refine r_ref hyp (fun a4 ha4 hz => ?_)
  clear hyp; subst ha4; have hyp := hz; clear hz
  obtain ⟨o7, hyp⟩ := x_chk hyp
  refine r_callV (ι := xI) (T := TX4) (N := 4) (ci := 4) (b := a4) (rest := []) (As := [.int r3]) G hno tg_X4_countCovering (fun r w' h => ct_X4_countCovering (xhl G) _ _ _ r w' h) o7 hyp rfl ww_367 ww_360 ww_359 (by decide) (by decide) rfl rfl (xroom (Nat.le_of_ble_eq_true rfl)) dX6_coveringLayers_9 (push := (fun r6 => [.int r6])) (fun _ => rfl) (fun r6 w5 hyp => ?_)
  exact r_iret G hyp rfl (Nat.zero_le _) (Nat.zero_le _) dX6_coveringLayers_12
theorem tg_X1_sumCellByCell : xTgt yX1_sumCellByCell cX1_sumCellByCell 8 (some .int) 4 := ⟨ww_370, ww_22, by decide, by decide +kernel, by decide +kernel⟩
section
variable {Γ : xG} {p : Program} {l : Launch} {e : Env} {s : State} {m : MethodId} {args : Array Value} {below : List Frame} {meth : Method} {c : Code} {rF : Int32 ⊕ String} {wF : xW}
set_option maxRecDepth 100000 in
set_option maxHeartbeats 4000000 in
theorem nd_X1_sumCellByCell_L16 {k6 : Nat → Int32 → Int32 → Int32 → Int32 → Int32 → xW → xO Int32} (G : xCx Γ p l s m args meth c RX1 cX1_sumCellByCell 8 (some .int)) (hno : ∀ x ∈ c.exceptionTable.toList, False) (hk6 : ∀ (a0 : Nat) (x1 : Int32) (x3 : Int32) (x4 : Int32) (x5 : Int32) (x6 : Int32) (w : xW), k6 a0 x1 x3 x4 x5 x6 w = some (rF, wF) → xAW Γ p l e (xRm 1 (x_mc rF) (x_ms rF)) s m args below meth c 8 (xQm Γ below xI rF wF args s (x_mc rF) (x_ms rF)) w 0 0 6 [(0, .ref a0), (1, .int x1), (3, .int x3), (4, .int x4), (5, .int x5), (6, .int x6)] []) : ∀ (n : Nat) (a0 : Nat) (x1 : Int32) (x3 : Int32) (x4 : Int32) (x5 : Int32) (x6 : Int32) (x7 : Int32) (w0 : xW), f_X1_sumCellByCell_L16 k6 n a0 x1 x3 x4 x5 x6 x7 w0 = some (rF, wF) → xAW Γ p l e (xRm 1 (x_mc rF) (x_ms rF)) s m args below meth c 8 (xQm Γ below xI rF wF args s (x_mc rF) (x_ms rF)) w0 0 0 16 [(0, .ref a0), (1, .int x1), (3, .int x3), (4, .int x4), (5, .int x5), (6, .int x6), (7, .int x7)] [] := by
  intro n
  induction n with
  | zero =>
    intro a0 x1 x3 x4 x5 x6 x7 w0 hyp
    cases (show (none : xO Int32) = some (rF, wF) from hyp)
  | succ n ih =>
    intro a0 x1 x3 x4 x5 x6 x7 w0 hyp
    rw [f_X1_sumCellByCell_L16] at hyp
    refine r_iload G 6 dX1_sumCellByCell_16 rfl ?_
    refine r_iload_n G 2 dX1_sumCellByCell_18 rfl rfl ?_
    refine r_icmp_gt G 44 dX1_sumCellByCell_19 (by decide) hyp (fun c2 hyp => ?_) (fun c2 hyp => ?_)
    · refine r_iinc (v := (x6 + 1)) (lv' := [(6, .int (x6 + 1)), (0, .ref a0), (1, .int x1), (3, .int x3), (4, .int x4), (5, .int x5), (7, .int x7)]) G 5 dX1_sumCellByCell_44 rfl rfl (by decide) ⟨fun _ => rfl, fun _ => rfl, fun _ => rfl, fun _ => rfl, fun _ => rfl, fun _ => rfl, fun _ => rfl, trivial⟩ rfl ?_
      refine r_goto G 6 dX1_sumCellByCell_47 (by decide) ?_
      refine r_weak (lv' := [(0, .ref a0), (1, .int x1), (3, .int x3), (4, .int x4), (5, .int x5), (6, .int (x6 + 1))]) [1, 2, 3, 4, 5, 0] rfl ?_
      exact hk6 a0 x1 x3 x4 x5 (x6 + 1) w0 hyp
    · refine r_iload G 4 dX1_sumCellByCell_22 rfl ?_
      refine r_aload_n G 0 dX1_sumCellByCell_24 rfl rfl ?_
      refine r_iload G 6 dX1_sumCellByCell_25 rfl ?_
      refine r_iload G 5 dX1_sumCellByCell_27 rfl ?_
      refine r_callSN (ι := xI) (rest := [.ref a0, .int x5]) (As := [.int x7, .int x6]) G hno tg_X6_cellNumber (fun r w' h => ct_X6_cellNumber (xhl G) _ _ _ r w' h) hyp ww_369 ww_201 (by decide) (by decide) rfl rfl (xroom (Nat.le_of_ble_eq_true rfl)) dX1_sumCellByCell_29 (push := (fun r4 => [.int r4, .ref a0, .int x5])) (fun _ => rfl) (fun r4 w3 hyp => ?_)
      obtain ⟨o7, hyp⟩ := x_chk hyp
      refine r_callV (ι := xI) (T := TX1) (N := 6) (ci := 1) (b := a0) (rest := [.int x5]) (As := [.int r4]) G hno tg_X1_toneAt (fun r w' h => ct_X1_toneAt (xhl G) _ _ _ r w' h) o7 hyp rfl ww_160 ww_162 ww_161 (by decide) (by decide) rfl rfl (xroom (Nat.le_of_ble_eq_true rfl)) dX1_sumCellByCell_32 (push := (fun r6 => [.int r6, .int x5])) (fun _ => rfl) (fun r6 w5 hyp => ?_)
      refine r_iadd G dX1_sumCellByCell_35 ?_
      refine r_istore (lv' := [(5, .int (x5 + r6)), (0, .ref a0), (1, .int x1), (3, .int x3), (4, .int x4), (6, .int x6), (7, .int x7)]) G dX1_sumCellByCell_36 (by decide) ⟨fun _ => rfl, fun _ => rfl, fun _ => rfl, fun _ => rfl, fun _ => rfl, fun _ => rfl, fun _ => rfl, trivial⟩ rfl ?_
      refine r_iinc (v := (x7 + 1)) (lv' := [(7, .int (x7 + 1)), (5, .int (x5 + r6)), (0, .ref a0), (1, .int x1), (3, .int x3), (4, .int x4), (6, .int x6)]) G 6 dX1_sumCellByCell_38 rfl rfl (by decide) ⟨fun _ => rfl, fun _ => rfl, fun _ => rfl, fun _ => rfl, fun _ => rfl, fun _ => rfl, fun _ => rfl, trivial⟩ rfl ?_
      refine r_goto G 16 dX1_sumCellByCell_41 (by decide) ?_
      refine r_weak (lv' := [(0, .ref a0), (1, .int x1), (3, .int x3), (4, .int x4), (5, .int (x5 + r6)), (6, .int x6), (7, .int (x7 + 1))]) [2, 3, 4, 5, 1, 6, 0] rfl ?_
      exact ih a0 x1 x3 x4 (x5 + r6) x6 (x7 + 1) w5 hyp
set_option maxRecDepth 100000 in
set_option maxHeartbeats 4000000 in
theorem nd_X1_sumCellByCell_L6 (G : xCx Γ p l s m args meth c RX1 cX1_sumCellByCell 8 (some .int)) (hno : ∀ x ∈ c.exceptionTable.toList, False) : ∀ (n : Nat) (a0 : Nat) (x1 : Int32) (x3 : Int32) (x4 : Int32) (x5 : Int32) (x6 : Int32) (w0 : xW), f_X1_sumCellByCell_L6 n a0 x1 x3 x4 x5 x6 w0 = some (rF, wF) → xAW Γ p l e (xRm 1 (x_mc rF) (x_ms rF)) s m args below meth c 8 (xQm Γ below xI rF wF args s (x_mc rF) (x_ms rF)) w0 0 0 6 [(0, .ref a0), (1, .int x1), (3, .int x3), (4, .int x4), (5, .int x5), (6, .int x6)] [] := by
  intro n
  induction n with
  | zero =>
    intro a0 x1 x3 x4 x5 x6 w0 hyp
    cases (show (none : xO Int32) = some (rF, wF) from hyp)
  | succ n ih =>
    intro a0 x1 x3 x4 x5 x6 w0 hyp
    rw [f_X1_sumCellByCell_L6] at hyp
    refine r_iload G 5 dX1_sumCellByCell_6 rfl ?_
    refine r_iload G 3 dX1_sumCellByCell_8 rfl ?_
    refine r_icmp_gt G 50 dX1_sumCellByCell_10 (by decide) hyp (fun c1 hyp => ?_) (fun c1 hyp => ?_)
    · refine r_iload G 4 dX1_sumCellByCell_50 rfl ?_
      exact r_iret G hyp rfl (Nat.zero_le _) (Nat.zero_le _) dX1_sumCellByCell_52
    · refine r_iload_n G 1 dX1_sumCellByCell_13 rfl rfl ?_
      refine r_istore (lv' := [(7, .int x1), (0, .ref a0), (1, .int x1), (3, .int x3), (4, .int x4), (5, .int x5), (6, .int x6)]) G dX1_sumCellByCell_14 (by decide) ⟨fun _ => rfl, fun _ => rfl, fun _ => rfl, fun _ => rfl, fun _ => rfl, fun _ => rfl, trivial⟩ rfl ?_
      refine r_weak (lv' := [(0, .ref a0), (1, .int x1), (3, .int x3), (4, .int x4), (5, .int x5), (6, .int x6), (7, .int x1)]) [1, 2, 3, 4, 5, 6, 0] rfl ?_
      exact nd_X1_sumCellByCell_L16 G hno ih xfuel a0 x1 x3 x4 x5 x6 x1 w0 hyp
end
set_option maxRecDepth 100000 in
set_option maxHeartbeats 4000000 in
theorem ct_X1_sumCellByCell {Γ : xG} {l : Launch} (hl : l.stackTraces = false) (a0 : Nat) (x1 : Int32) (x2 : Int32) (x3 : Int32) (x4 : Int32) (w0 : xW) (rF : Int32 ⊕ String) (wF : xW) (hyp : f_X1_sumCellByCell a0 x1 x2 x3 x4 w0 = some (rF, wF)) : xMet Γ l yX1_sumCellByCell (xws yX1_sumCellByCell cX1_sumCellByCell 8 (some .int)) 1 xI [.ref a0, .int x1, .int x2, .int x3, .int x4] w0 rF wF (x_mc rF) (x_ms rF) := by
  refine xOfW tg_X1_sumCellByCell hl (lv0 := [(0, .ref a0), (1, .int x1), (2, .int x2), (3, .int x3), (4, .int x4)]) (Nat.le_of_ble_eq_true rfl) rfl ?_
  intro p e s m below meth c G hno hin
  rw [f_X1_sumCellByCell] at hyp
  refine r_iconst (v := 0) G dX1_sumCellByCell_0 (by decide) ?_
  refine r_istore (lv' := [(5, .int 0), (0, .ref a0), (1, .int x1), (2, .int x2), (3, .int x3), (4, .int x4)]) G dX1_sumCellByCell_1 (by decide) ⟨fun _ => rfl, fun _ => rfl, fun _ => rfl, fun _ => rfl, fun _ => rfl, trivial⟩ rfl ?_
  refine r_iload_n G 3 dX1_sumCellByCell_3 rfl rfl ?_
  refine r_istore (lv' := [(6, .int x2), (5, .int 0), (0, .ref a0), (1, .int x1), (2, .int x2), (3, .int x3), (4, .int x4)]) G dX1_sumCellByCell_4 (by decide) ⟨fun _ => rfl, fun _ => rfl, fun _ => rfl, fun _ => rfl, fun _ => rfl, fun _ => rfl, trivial⟩ rfl ?_
  refine r_weak (lv' := [(0, .ref a0), (1, .int x1), (3, .int x3), (4, .int x4), (5, .int 0), (6, .int x2)]) [2, 3, 5, 6, 1, 0] rfl ?_
  exact nd_X1_sumCellByCell_L6 G hno xfuel a0 x1 x3 x4 0 x2 w0 hyp
theorem tg_X1_rowWithLeastSum : xTgt yX1_rowWithLeastSum cX1_rowWithLeastSum 5 (some .int) 0 := ⟨ww_374, ww_22, by decide, by decide +kernel, by decide +kernel⟩
section
variable {Γ : xG} {p : Program} {l : Launch} {e : Env} {s : State} {m : MethodId} {args : Array Value} {below : List Frame} {meth : Method} {c : Code} {rF : Int32 ⊕ String} {wF : xW}
set_option maxRecDepth 100000 in
set_option maxHeartbeats 4000000 in
theorem nd_X1_rowWithLeastSum_L14 (G : xCx Γ p l s m args meth c RX1 cX1_rowWithLeastSum 5 (some .int)) (hno : ∀ x ∈ c.exceptionTable.toList, False) : ∀ (n : Nat) (a0 : Nat) (x1 : Int32) (x2 : Int32) (x3 : Int32) (w0 : xW), f_X1_rowWithLeastSum_L14 n a0 x1 x2 x3 w0 = some (rF, wF) → xAW Γ p l e (xRm 2 (x_mc rF) (x_ms rF)) s m args below meth c 5 (xQm Γ below xI rF wF args s (x_mc rF) (x_ms rF)) w0 0 0 14 [(0, .ref a0), (1, .int x1), (2, .int x2), (3, .int x3)] [] := by
  intro n
  induction n with
  | zero =>
    intro a0 x1 x2 x3 w0 hyp
    cases (show (none : xO Int32) = some (rF, wF) from hyp)
  | succ n ih =>
    intro a0 x1 x2 x3 w0 hyp
    rw [f_X1_rowWithLeastSum_L14] at hyp
    refine r_iload_n G 3 dX1_rowWithLeastSum_14 rfl rfl ?_
    refine r_bipush (v := 6) G dX1_rowWithLeastSum_15 (by decide) ?_
    refine r_icmp_ge G 48 dX1_rowWithLeastSum_17 (by decide) hyp (fun c4 hyp => ?_) (fun c4 hyp => ?_)
    · refine r_iload_n G 1 dX1_rowWithLeastSum_48 rfl rfl ?_
      exact r_iret G hyp rfl (Nat.zero_le _) (Nat.zero_le _) dX1_rowWithLeastSum_49
    · refine r_aload_n G 0 dX1_rowWithLeastSum_20 rfl rfl ?_
      refine r_iconst (v := 0) G dX1_rowWithLeastSum_21 (by decide) ?_
      refine r_iload_n G 3 dX1_rowWithLeastSum_22 rfl rfl ?_
      refine r_bipush (v := 7) G dX1_rowWithLeastSum_23 (by decide) ?_
      refine r_iload_n G 3 dX1_rowWithLeastSum_25 rfl rfl ?_
      obtain ⟨o7, hyp⟩ := x_chk hyp
      refine r_callV (ι := xI) (T := TX1) (N := 6) (ci := 1) (b := a0) (rest := []) (As := [.int 0, .int x3, .int 7, .int x3]) G hno tg_X1_sumCellByCell (fun r w' h => ct_X1_sumCellByCell (xhl G) _ _ _ _ _ _ r w' h) o7 hyp rfl ww_371 ww_373 ww_372 (by decide) (by decide) rfl rfl (xroom (Nat.le_of_ble_eq_true rfl)) dX1_rowWithLeastSum_26 (push := (fun r6 => [.int r6])) (fun _ => rfl) (fun r6 w5 hyp => ?_)
      refine r_istore (lv' := [(4, .int r6), (0, .ref a0), (1, .int x1), (2, .int x2), (3, .int x3)]) G dX1_rowWithLeastSum_29 (by decide) ⟨fun _ => rfl, fun _ => rfl, fun _ => rfl, fun _ => rfl, trivial⟩ rfl ?_
      refine r_iload G 0 dX1_rowWithLeastSum_31 rfl ?_
      refine r_iload_n G 3 dX1_rowWithLeastSum_33 rfl rfl ?_
      refine r_icmp_ge G 42 dX1_rowWithLeastSum_34 (by decide) hyp (fun c8 hyp => ?_) (fun c8 hyp => ?_)
      · refine r_iinc (v := (x3 + 1)) (lv' := [(3, .int (x3 + 1)), (4, .int r6), (0, .ref a0), (1, .int x1), (2, .int x2)]) G 4 dX1_rowWithLeastSum_42 rfl rfl (by decide) ⟨fun _ => rfl, fun _ => rfl, fun _ => rfl, fun _ => rfl, fun _ => rfl, trivial⟩ rfl ?_
        refine r_goto G 14 dX1_rowWithLeastSum_45 (by decide) ?_
        refine r_weak (lv' := [(0, .ref a0), (1, .int x1), (2, .int x2), (3, .int (x3 + 1))]) [2, 3, 4, 0] rfl ?_
        exact ih a0 x1 x2 (x3 + 1) w5 hyp
      · refine r_iload_n G 4 dX1_rowWithLeastSum_37 rfl rfl ?_
        refine r_istore_n (lv' := [(1, .int x3), (4, .int r6), (0, .ref a0), (2, .int x2), (3, .int x3)]) G dX1_rowWithLeastSum_38 rfl (by decide) ⟨fun _ => rfl, fun _ => rfl, fun _ => rfl, fun _ => rfl, fun _ => rfl, trivial⟩ rfl ?_
        refine r_iload G 1 dX1_rowWithLeastSum_39 rfl ?_
        refine r_istore_n (lv' := [(2, .int r6), (1, .int x3), (4, .int r6), (0, .ref a0), (3, .int x3)]) G dX1_rowWithLeastSum_41 rfl (by decide) ⟨fun _ => rfl, fun _ => rfl, fun _ => rfl, fun _ => rfl, fun _ => rfl, trivial⟩ rfl ?_
        refine r_iinc (v := (x3 + 1)) (lv' := [(3, .int (x3 + 1)), (2, .int r6), (1, .int x3), (4, .int r6), (0, .ref a0)]) G 4 dX1_rowWithLeastSum_42 rfl rfl (by decide) ⟨fun _ => rfl, fun _ => rfl, fun _ => rfl, fun _ => rfl, fun _ => rfl, trivial⟩ rfl ?_
        refine r_goto G 14 dX1_rowWithLeastSum_45 (by decide) ?_
        refine r_weak (lv' := [(0, .ref a0), (1, .int x3), (2, .int r6), (3, .int (x3 + 1))]) [4, 2, 1, 0] rfl ?_
        exact ih a0 x3 r6 (x3 + 1) w5 hyp
end
set_option maxRecDepth 100000 in
set_option maxHeartbeats 4000000 in
theorem ct_X1_rowWithLeastSum {Γ : xG} {l : Launch} (hl : l.stackTraces = false) (a0 : Nat) (w0 : xW) (rF : Int32 ⊕ String) (wF : xW) (hyp : f_X1_rowWithLeastSum a0 w0 = some (rF, wF)) : xMet Γ l yX1_rowWithLeastSum (xws yX1_rowWithLeastSum cX1_rowWithLeastSum 5 (some .int)) 2 xI [.ref a0] w0 rF wF (x_mc rF) (x_ms rF) := by
  refine xOfW tg_X1_rowWithLeastSum hl (lv0 := [(0, .ref a0)]) (Nat.le_of_ble_eq_true rfl) rfl ?_
  intro p e s m below meth c G hno hin
  rw [f_X1_rowWithLeastSum] at hyp
  refine r_iconst (v := 0) G dX1_rowWithLeastSum_0 (by decide) ?_
  refine r_istore_n (lv' := [(1, .int 0), (0, .ref a0)]) G dX1_rowWithLeastSum_1 rfl (by decide) ⟨fun _ => rfl, trivial⟩ rfl ?_
  refine r_aload_n G 1 dX1_rowWithLeastSum_2 rfl rfl ?_
  refine r_iconst (v := 0) G dX1_rowWithLeastSum_3 (by decide) ?_
  refine r_iconst (v := 0) G dX1_rowWithLeastSum_4 (by decide) ?_
  refine r_bipush (v := 7) G dX1_rowWithLeastSum_5 (by decide) ?_
  refine r_iconst (v := 0) G dX1_rowWithLeastSum_7 (by decide) ?_
  obtain ⟨o3, hyp⟩ := x_chk hyp
  refine r_callV (ι := xI) (T := TX1) (N := 6) (ci := 1) (b := a0) (rest := []) (As := [.int 0, .int 0, .int 7, .int 0]) G hno tg_X1_sumCellByCell (fun r w' h => ct_X1_sumCellByCell (xhl G) _ _ _ _ _ _ r w' h) o3 hyp rfl ww_371 ww_373 ww_372 (by decide) (by decide) rfl rfl (xroom (Nat.le_of_ble_eq_true rfl)) dX1_rowWithLeastSum_8 (push := (fun r2 => [.int r2])) (fun _ => rfl) (fun r2 w1 hyp => ?_)
  refine r_istore_n (lv' := [(2, .int r2), (1, .int 0), (0, .ref a0)]) G dX1_rowWithLeastSum_11 rfl (by decide) ⟨fun _ => rfl, fun _ => rfl, trivial⟩ rfl ?_
  refine r_iconst (v := 1) G dX1_rowWithLeastSum_12 (by decide) ?_
  refine r_istore_n (lv' := [(3, .int 1), (2, .int r2), (1, .int 0), (0, .ref a0)]) G dX1_rowWithLeastSum_13 rfl (by decide) ⟨fun _ => rfl, fun _ => rfl, fun _ => rfl, trivial⟩ rfl ?_
  refine r_weak (lv' := [(0, .ref a0), (1, .int 0), (2, .int r2), (3, .int 1)]) [3, 2, 1, 0] rfl ?_
  exact nd_X1_rowWithLeastSum_L14 G hno xfuel a0 0 r2 1 w1 hyp
theorem tg_X6_darkestRow : xTgt yX6_darkestRow cX6_darkestRow 1 (some .int) 0 := ⟨ww_378, ww_86, by decide, by decide +kernel, by decide +kernel⟩
section
variable {Γ : xG} {p : Program} {l : Launch} {e : Env} {s : State} {m : MethodId} {args : Array Value} {below : List Frame} {meth : Method} {c : Code} {rF : Int32 ⊕ String} {wF : xW}
end
set_option maxRecDepth 100000 in
set_option maxHeartbeats 4000000 in
theorem ct_X6_darkestRow {Γ : xG} {l : Launch} (hl : l.stackTraces = false) (a0 : Nat) (w0 : xW) (rF : Int32 ⊕ String) (wF : xW) (hyp : f_X6_darkestRow a0 w0 = some (rF, wF)) : xMet Γ l yX6_darkestRow (xws yX6_darkestRow cX6_darkestRow 1 (some .int)) 5 xI [.ref a0] w0 rF wF (x_mc rF) (x_ms rF) := by
  refine xOfW tg_X6_darkestRow hl (lv0 := [(0, .ref a0)]) (Nat.le_of_ble_eq_true rfl) rfl ?_
  intro p e s m below meth c G hno hin
  rw [f_X6_darkestRow] at hyp
  refine r_aload_n G 0 dX6_darkestRow_0 rfl rfl ?_
  obtain ⟨o3, hyp⟩ := x_chk hyp
  refine r_callV (ι := xQ) (T := TX6) (N := 9) (ci := 6) (b := a0) (rest := []) (As := []) G hno tg_X6_flattened (fun r w' h => ct_X6_flattened (xhl G) _ _ r w' h) o3 hyp rfl ww_176 ww_178 ww_177 (by decide) (by decide) rfl rfl (xroom (Nat.le_of_ble_eq_true rfl)) dX6_darkestRow_1 (push := (fun r2 => [va_rf r2])) (fun _ => rfl) (fun r2 w1 hyp => ?_)
  refine r_ref hyp (fun a4 ha4 hz => ?_)
  clear hyp; subst ha4; have hyp := hz; clear hz
  obtain ⟨o7, hyp⟩ := x_chk hyp
  refine r_callV (ι := xI) (T := TX1) (N := 6) (ci := 1) (b := a4) (rest := []) (As := []) G hno tg_X1_rowWithLeastSum (fun r w' h => ct_X1_rowWithLeastSum (xhl G) _ _ r w' h) o7 hyp rfl ww_375 ww_377 ww_376 (by decide) (by decide) rfl rfl (xroom (Nat.le_of_ble_eq_true rfl)) dX6_darkestRow_4 (push := (fun r6 => [.int r6])) (fun _ => rfl) (fun r6 w5 hyp => ?_)
  exact r_iret G hyp rfl (Nat.zero_le _) (Nat.zero_le _) dX6_darkestRow_7
theorem tg_X5_put : xTgt yX5_put cX5_put 2 none 1 := ⟨ww_379, ww_56, by decide, by decide +kernel, by decide +kernel⟩
section
variable {Γ : xG} {p : Program} {l : Launch} {e : Env} {s : State} {m : MethodId} {args : Array Value} {below : List Frame} {meth : Method} {c : Code} {rF : Unit ⊕ String} {wF : xW}
end
set_option maxRecDepth 100000 in
set_option maxHeartbeats 4000000 in
theorem ct_X5_put {Γ : xG} {l : Launch} (hl : l.stackTraces = false) (a0 : Nat) (x1 : Int32) (w0 : xW) (rF : Unit ⊕ String) (wF : xW) (hyp : f_X5_put a0 x1 w0 = some (rF, wF)) : xMet Γ l yX5_put (xws yX5_put cX5_put 2 none) 0 xV [.ref a0, .int x1] w0 rF wF (x_mc rF) (x_ms rF) := by
  refine xOfW tg_X5_put hl (lv0 := [(0, .ref a0), (1, .int x1)]) (Nat.le_of_ble_eq_true rfl) rfl ?_
  intro p e s m below meth c G hno hin
  rw [f_X5_put] at hyp
  refine r_aload_n G 0 dX5_put_0 rfl rfl ?_
  obtain ⟨v1, hv1, hyp⟩ := x_some hyp
  refine r_getv (C := RX5) (T := TX5) (N := 2) (ci := 5) G 1 (x_geti_e hv1) rfl uw_5 (Nat.le_of_ble_eq_true rfl) rfl ww_54 dX5_put_1 ?_
  refine r_if_lt G 39 dX5_put_4 (by decide) hyp (fun c2 hyp => ?_) (fun c2 hyp => ?_)
  · exact r_vret G hyp (Nat.zero_le _) (Nat.zero_le _) dX5_put_39
  · refine r_aload_n G 0 dX5_put_7 rfl rfl ?_
    obtain ⟨v3, hv3, hyp⟩ := x_some hyp
    refine r_getv (C := RX5) (T := TX5) (N := 2) (ci := 5) G 1 (x_geti_e hv3) rfl uw_5 (Nat.le_of_ble_eq_true rfl) rfl ww_54 dX5_put_8 ?_
    refine r_aload_n G 0 dX5_put_11 rfl rfl ?_
    obtain ⟨v4, hv4, hyp⟩ := x_some hyp
    refine r_getv (C := RX5) (T := TX5) (N := 2) (ci := 5) G 0 (x_getr_e hv4) rfl uw_5 (Nat.le_of_ble_eq_true rfl) rfl ww_53 dX5_put_12 ?_
    refine r_ref hyp (fun a5 ha5 hz => ?_)
    clear hyp; subst ha5; have hyp := hz; clear hz
    obtain ⟨v6, hv6, hyp⟩ := x_some hyp
    refine r_len G hv6 dX5_put_15 ?_
    refine r_icmp_ge G 39 dX5_put_16 (by decide) hyp (fun c7 hyp => ?_) (fun c7 hyp => ?_)
    · exact r_vret G hyp (Nat.zero_le _) (Nat.zero_le _) dX5_put_39
    · refine r_aload_n G 0 dX5_put_19 rfl rfl ?_
      obtain ⟨v8, hv8, hyp⟩ := x_some hyp
      refine r_getv (C := RX5) (T := TX5) (N := 2) (ci := 5) G 0 (x_getr_e hv8) rfl uw_5 (Nat.le_of_ble_eq_true rfl) rfl ww_53 dX5_put_20 ?_
      refine r_aload_n G 0 dX5_put_23 rfl rfl ?_
      obtain ⟨v9, hv9, hyp⟩ := x_some hyp
      refine r_getv (C := RX5) (T := TX5) (N := 2) (ci := 5) G 1 (x_geti_e hv9) rfl uw_5 (Nat.le_of_ble_eq_true rfl) rfl ww_54 dX5_put_24 ?_
      refine r_iload_n G 1 dX5_put_27 rfl rfl ?_
      refine r_ref hyp (fun a10 ha10 hz => ?_)
      clear hyp; subst ha10; have hyp := hz; clear hz
      obtain ⟨w11, hw11, hyp⟩ := x_some hyp
      refine r_cast G hw11 dX5_put_28 ?_
      refine r_aload_n G 0 dX5_put_29 rfl rfl ?_
      refine r_dup G dX5_put_30 rfl ?_
      obtain ⟨v12, hv12, hyp⟩ := x_some hyp
      refine r_getv (C := RX5) (T := TX5) (N := 2) (ci := 5) G 1 (x_geti_e hv12) rfl uw_5 (Nat.le_of_ble_eq_true rfl) rfl ww_54 dX5_put_31 ?_
      refine r_iconst (v := 1) G dX5_put_34 (by decide) ?_
      refine r_iadd G dX5_put_35 ?_
      obtain ⟨w13, hw13, hyp⟩ := x_some hyp
      refine r_putv (C := RX5) (T := TX5) (N := 2) (ci := 5) G tyX5 tyX5_ok nmX5 1 hw13 rfl uw_5 (Nat.le_of_ble_eq_true rfl) rfl ww_54 rfl rfl rfl dX5_put_36 ?_
      exact r_vret G hyp (Nat.zero_le _) (Nat.zero_le _) dX5_put_39
theorem tg_X5_putNumber : xTgt yX5_putNumber cX5_putNumber 2 none 1 := ⟨ww_383, ww_56, by decide, by decide +kernel, by decide +kernel⟩
section
variable {Γ : xG} {p : Program} {l : Launch} {e : Env} {s : State} {m : MethodId} {args : Array Value} {below : List Frame} {meth : Method} {c : Code} {rF : Unit ⊕ String} {wF : xW}
end
set_option maxRecDepth 100000 in
set_option maxHeartbeats 4000000 in
theorem ct_X5_putNumber {Γ : xG} {l : Launch} (hl : l.stackTraces = false) (a0 : Nat) (x1 : Int32) (w0 : xW) (rF : Unit ⊕ String) (wF : xW) (hyp : f_X5_putNumber a0 x1 w0 = some (rF, wF)) : xMet Γ l yX5_putNumber (xws yX5_putNumber cX5_putNumber 2 none) 1 xV [.ref a0, .int x1] w0 rF wF (x_mc rF) (x_ms rF) := by
  refine xOfW tg_X5_putNumber hl (lv0 := [(0, .ref a0), (1, .int x1)]) (Nat.le_of_ble_eq_true rfl) rfl ?_
  intro p e s m below meth c G hno hin
  rw [f_X5_putNumber] at hyp
  refine r_iload_n G 1 dX5_putNumber_0 rfl rfl ?_
  refine r_bipush (v := 10) G dX5_putNumber_1 (by decide) ?_
  refine r_icmp_lt G 18 dX5_putNumber_3 (by decide) hyp (fun c1 hyp => ?_) (fun c1 hyp => ?_)
  · refine r_aload_n G 0 dX5_putNumber_18 rfl rfl ?_
    refine r_bipush (v := 48) G dX5_putNumber_19 (by decide) ?_
    refine r_iload_n G 1 dX5_putNumber_21 rfl rfl ?_
    refine r_bipush (v := 10) G dX5_putNumber_22 (by decide) ?_
    refine r_irem G dX5_putNumber_24 (by decide) ?_
    refine r_iadd G dX5_putNumber_25 ?_
    refine r_i2c G dX5_putNumber_26 ?_
    obtain ⟨o4, hyp⟩ := x_chk hyp
    refine r_callV (ι := xV) (T := TX5) (N := 2) (ci := 5) (b := a0) (rest := []) (As := [.int (x_c (48 + (x1 - x1 / 10 * 10)))]) G hno tg_X5_put (fun r w' h => ct_X5_put (xhl G) _ _ _ r w' h) o4 hyp rfl ww_380 ww_382 ww_381 (by decide) (by decide) rfl rfl (xroom (Nat.le_of_ble_eq_true rfl)) dX5_putNumber_27 (push := (fun _ => [])) (fun _ => rfl) (fun _ w2 hyp => ?_)
    exact r_vret G hyp (Nat.zero_le _) (Nat.zero_le _) dX5_putNumber_30
  · refine r_aload_n G 0 dX5_putNumber_6 rfl rfl ?_
    refine r_bipush (v := 48) G dX5_putNumber_7 (by decide) ?_
    refine r_iload_n G 1 dX5_putNumber_9 rfl rfl ?_
    refine r_bipush (v := 10) G dX5_putNumber_10 (by decide) ?_
    refine r_idiv G dX5_putNumber_12 (by decide) ?_
    refine r_iadd G dX5_putNumber_13 ?_
    refine r_i2c G dX5_putNumber_14 ?_
    obtain ⟨o7, hyp⟩ := x_chk hyp
    refine r_callV (ι := xV) (T := TX5) (N := 2) (ci := 5) (b := a0) (rest := []) (As := [.int (x_c (48 + (x1 / 10)))]) G hno tg_X5_put (fun r w' h => ct_X5_put (xhl G) _ _ _ r w' h) o7 hyp rfl ww_380 ww_382 ww_381 (by decide) (by decide) rfl rfl (xroom (Nat.le_of_ble_eq_true rfl)) dX5_putNumber_15 (push := (fun _ => [])) (fun _ => rfl) (fun _ w5 hyp => ?_)
    refine r_aload_n G 0 dX5_putNumber_18 rfl rfl ?_
    refine r_bipush (v := 48) G dX5_putNumber_19 (by decide) ?_
    refine r_iload_n G 1 dX5_putNumber_21 rfl rfl ?_
    refine r_bipush (v := 10) G dX5_putNumber_22 (by decide) ?_
    refine r_irem G dX5_putNumber_24 (by decide) ?_
    refine r_iadd G dX5_putNumber_25 ?_
    refine r_i2c G dX5_putNumber_26 ?_
    obtain ⟨o10, hyp⟩ := x_chk hyp
    refine r_callV (ι := xV) (T := TX5) (N := 2) (ci := 5) (b := a0) (rest := []) (As := [.int (x_c (48 + (x1 - x1 / 10 * 10)))]) G hno tg_X5_put (fun r w' h => ct_X5_put (xhl G) _ _ _ r w' h) o10 hyp rfl ww_380 ww_382 ww_381 (by decide) (by decide) rfl rfl (xroom (Nat.le_of_ble_eq_true rfl)) dX5_putNumber_27 (push := (fun _ => [])) (fun _ => rfl) (fun _ w8 hyp => ?_)
    exact r_vret G hyp (Nat.zero_le _) (Nat.zero_le _) dX5_putNumber_30
theorem tg_X6_describe : xTgt yX6_describe cX6_describe 2 none 1 := ⟨ww_391, ww_86, by decide, by decide +kernel, by decide +kernel⟩
section
variable {Γ : xG} {p : Program} {l : Launch} {e : Env} {s : State} {m : MethodId} {args : Array Value} {below : List Frame} {meth : Method} {c : Code} {rF : Unit ⊕ String} {wF : xW}
end
set_option maxRecDepth 100000 in
set_option maxHeartbeats 4000000 in
theorem ct_X6_describe {Γ : xG} {l : Launch} (hl : l.stackTraces = false) (a0 : Nat) (x1 : Option Nat) (w0 : xW) (rF : Unit ⊕ String) (wF : xW) (hyp : f_X6_describe a0 x1 w0 = some (rF, wF)) : xMet Γ l yX6_describe (xws yX6_describe cX6_describe 2 none) 2 xV [.ref a0, va_rf x1] w0 rF wF (x_mc rF) (x_ms rF) := by
  refine xOfW tg_X6_describe hl (lv0 := [(0, .ref a0), (1, va_rf x1)]) (by cases x1 <;> exact Nat.le_of_ble_eq_true rfl) (by cases x1 <;> rfl) ?_
  intro p e s m below meth c G hno hin
  rw [f_X6_describe] at hyp
  refine r_aload_nq G 1 dX6_describe_0 rfl rfl ?_
  refine r_ifnonnull G 5 dX6_describe_1 (by decide) hyp (fun a1 ha1 hz => ?_) (fun hyp => ?_)
  · clear hyp; subst ha1; have hyp := hz; clear hz
    refine r_aload_n G 0 dX6_describe_5 rfl rfl ?_
    obtain ⟨v2, hv2, hyp⟩ := x_some hyp
    refine r_getv (C := RX6) (T := TX6) (N := 9) (ci := 6) G 6 (x_getr_e hv2) rfl uw_6 (Nat.le_of_ble_eq_true rfl) rfl ww_82 dX6_describe_6 ?_
    refine r_aload_n G 1 dX6_describe_9 rfl rfl ?_
    obtain ⟨v3, hv3, hyp⟩ := x_some hyp
    refine r_getvN (C := RX3) (T := TX3) (N := 3) (ci := 3) G 0 (x_geti_e hv3) rfl uw_3 (Nat.le_of_ble_eq_true rfl) rfl ww_384 dX6_describe_10 ?_
    refine r_ref hyp (fun a4 ha4 hz => ?_)
    clear hyp; subst ha4; have hyp := hz; clear hz
    obtain ⟨o7, hyp⟩ := x_chk hyp
    refine r_callV (ι := xV) (T := TX5) (N := 2) (ci := 5) (b := a4) (rest := []) (As := [.int v3]) G hno tg_X5_put (fun r w' h => ct_X5_put (xhl G) _ _ _ r w' h) o7 hyp rfl ww_385 ww_382 ww_381 (by decide) (by decide) rfl rfl (xroom (Nat.le_of_ble_eq_true rfl)) dX6_describe_13 (push := (fun _ => [])) (fun _ => rfl) (fun _ w5 hyp => ?_)
    refine r_aload_n G 1 dX6_describe_16 rfl rfl ?_
    obtain ⟨v8, hv8, hyp⟩ := x_some hyp
    refine r_getvN (C := RX3) (T := TX3) (N := 3) (ci := 3) G 1 (x_geti_e hv8) rfl uw_3 (Nat.le_of_ble_eq_true rfl) rfl ww_386 dX6_describe_17 ?_
    refine r_if_ne G 32 dX6_describe_20 (by decide) hyp (fun c9 hyp => ?_) (fun c9 hyp => ?_)
    · refine r_aload_n G 0 dX6_describe_32 rfl rfl ?_
      obtain ⟨v10, hv10, hyp⟩ := x_some hyp
      refine r_getv (C := RX6) (T := TX6) (N := 9) (ci := 6) G 6 (x_getr_e hv10) rfl uw_6 (Nat.le_of_ble_eq_true rfl) rfl ww_82 dX6_describe_33 ?_
      refine r_aload_n G 1 dX6_describe_36 rfl rfl ?_
      obtain ⟨o13, hyp⟩ := x_chk hyp
      refine r_callV (ι := xI) (T := TX3) (N := 3) (ci := 3) (b := a1) (rest := [va_rf v10]) (As := []) G hno tg_X3_countTones (fun r w' h => ct_X3_countTones (xhl G) _ _ r w' h) o13 hyp rfl ww_387 ww_234 ww_233 (by decide) (by decide) rfl rfl (xroom (Nat.le_of_ble_eq_true rfl)) dX6_describe_37 (push := (fun r12 => [.int r12, va_rf v10])) (fun _ => rfl) (fun r12 w11 hyp => ?_)
      refine r_ref hyp (fun a14 ha14 hz => ?_)
      clear hyp; subst ha14; have hyp := hz; clear hz
      obtain ⟨o17, hyp⟩ := x_chk hyp
      refine r_callV (ι := xV) (T := TX5) (N := 2) (ci := 5) (b := a14) (rest := []) (As := [.int r12]) G hno tg_X5_putNumber (fun r w' h => ct_X5_putNumber (xhl G) _ _ _ r w' h) o17 hyp rfl ww_388 ww_390 ww_389 (by decide) (by decide) rfl rfl (xroom (Nat.le_of_ble_eq_true rfl)) dX6_describe_40 (push := (fun _ => [])) (fun _ => rfl) (fun _ w15 hyp => ?_)
      exact r_vret G hyp (Nat.zero_le _) (Nat.zero_le _) dX6_describe_43
    · refine r_aload_n G 0 dX6_describe_23 rfl rfl ?_
      obtain ⟨v18, hv18, hyp⟩ := x_some hyp
      refine r_getv (C := RX6) (T := TX6) (N := 9) (ci := 6) G 6 (x_getr_e hv18) rfl uw_6 (Nat.le_of_ble_eq_true rfl) rfl ww_82 dX6_describe_24 ?_
      refine r_bipush (v := 45) G dX6_describe_27 (by decide) ?_
      refine r_ref hyp (fun a19 ha19 hz => ?_)
      clear hyp; subst ha19; have hyp := hz; clear hz
      obtain ⟨o22, hyp⟩ := x_chk hyp
      refine r_callV (ι := xV) (T := TX5) (N := 2) (ci := 5) (b := a19) (rest := []) (As := [.int 45]) G hno tg_X5_put (fun r w' h => ct_X5_put (xhl G) _ _ _ r w' h) o22 hyp rfl ww_385 ww_382 ww_381 (by decide) (by decide) rfl rfl (xroom (Nat.le_of_ble_eq_true rfl)) dX6_describe_29 (push := (fun _ => [])) (fun _ => rfl) (fun _ w20 hyp => ?_)
      refine r_aload_n G 0 dX6_describe_32 rfl rfl ?_
      obtain ⟨v23, hv23, hyp⟩ := x_some hyp
      refine r_getv (C := RX6) (T := TX6) (N := 9) (ci := 6) G 6 (x_getr_e hv23) rfl uw_6 (Nat.le_of_ble_eq_true rfl) rfl ww_82 dX6_describe_33 ?_
      refine r_aload_n G 1 dX6_describe_36 rfl rfl ?_
      obtain ⟨o26, hyp⟩ := x_chk hyp
      refine r_callV (ι := xI) (T := TX3) (N := 3) (ci := 3) (b := a1) (rest := [va_rf v23]) (As := []) G hno tg_X3_countTones (fun r w' h => ct_X3_countTones (xhl G) _ _ r w' h) o26 hyp rfl ww_387 ww_234 ww_233 (by decide) (by decide) rfl rfl (xroom (Nat.le_of_ble_eq_true rfl)) dX6_describe_37 (push := (fun r25 => [.int r25, va_rf v23])) (fun _ => rfl) (fun r25 w24 hyp => ?_)
      refine r_ref hyp (fun a27 ha27 hz => ?_)
      clear hyp; subst ha27; have hyp := hz; clear hz
      obtain ⟨o30, hyp⟩ := x_chk hyp
      refine r_callV (ι := xV) (T := TX5) (N := 2) (ci := 5) (b := a27) (rest := []) (As := [.int r25]) G hno tg_X5_putNumber (fun r w' h => ct_X5_putNumber (xhl G) _ _ _ r w' h) o30 hyp rfl ww_388 ww_390 ww_389 (by decide) (by decide) rfl rfl (xroom (Nat.le_of_ble_eq_true rfl)) dX6_describe_40 (push := (fun _ => [])) (fun _ => rfl) (fun _ w28 hyp => ?_)
      exact r_vret G hyp (Nat.zero_le _) (Nat.zero_le _) dX6_describe_43
  · exact r_vret G hyp (Nat.zero_le _) (Nat.zero_le _) dX6_describe_4
theorem tg_X6_existingLayer : xTgt yX6_existingLayer cX6_existingLayer 3 (some (.object "ShadowWall$Layer")) 1 := ⟨ww_392, ww_86, by decide, by decide +kernel, by decide +kernel⟩
section
variable {Γ : xG} {p : Program} {l : Launch} {e : Env} {s : State} {m : MethodId} {args : Array Value} {below : List Frame} {meth : Method} {c : Code} {rF : Option Nat ⊕ String} {wF : xW}
end
set_option maxRecDepth 100000 in
set_option maxHeartbeats 4000000 in
theorem ct_X6_existingLayer {Γ : xG} {l : Launch} (hl : l.stackTraces = false) (a0 : Nat) (x1 : Int32) (w0 : xW) (rF : Option Nat ⊕ String) (wF : xW) (hyp : f_X6_existingLayer a0 x1 w0 = some (rF, wF)) : xMet Γ l yX6_existingLayer (xws yX6_existingLayer cX6_existingLayer 3 (some (.object "ShadowWall$Layer"))) 6 xQ [.ref a0, .int x1] w0 rF wF (x_mc rF) (x_ms rF) := by
  refine xOfW tg_X6_existingLayer hl (lv0 := [(0, .ref a0), (1, .int x1)]) (Nat.le_of_ble_eq_true rfl) rfl ?_
  intro p e s m below meth c G hno hin
  rw [f_X6_existingLayer] at hyp
  refine r_aload_n G 0 dX6_existingLayer_0 rfl rfl ?_
  obtain ⟨v1, hv1, hyp⟩ := x_some hyp
  refine r_getv (C := RX6) (T := TX6) (N := 9) (ci := 6) G 0 (x_getr_e hv1) rfl uw_6 (Nat.le_of_ble_eq_true rfl) rfl ww_60 dX6_existingLayer_1 ?_
  refine r_iload_n G 1 dX6_existingLayer_4 rfl rfl ?_
  refine r_ref hyp (fun a2 ha2 hz => ?_)
  clear hyp; subst ha2; have hyp := hz; clear hz
  obtain ⟨o5, hyp⟩ := x_chk hyp
  refine r_callV (ι := xQ) (T := TX4) (N := 4) (ci := 4) (b := a2) (rest := []) (As := [.int x1]) G hno tg_X4_at (fun r w' h => ct_X4_at (xhl G) _ _ _ r w' h) o5 hyp rfl ww_212 ww_101 ww_100 (by decide) (by decide) rfl rfl (xroom (Nat.le_of_ble_eq_true rfl)) dX6_existingLayer_5 (push := (fun r4 => [va_rf r4])) (fun _ => rfl) (fun r4 w3 hyp => ?_)
  refine r_astore_nq (lv' := [(2, va_rf r4), (0, .ref a0), (1, .int x1)]) G dX6_existingLayer_8 rfl (by decide) ⟨fun _ => rfl, fun _ => rfl, trivial⟩ rfl ?_
  refine r_aload_nq G 0 dX6_existingLayer_9 rfl rfl ?_
  refine r_ifnonnull G 23 dX6_existingLayer_10 (by decide) hyp (fun a6 ha6 hz => ?_) (fun hyp => ?_)
  · clear hyp; subst ha6; have hyp := hz; clear hz
    refine r_aload_n G 0 dX6_existingLayer_23 rfl rfl ?_
    exact r_aret (v := (some a6)) G hyp (Nat.zero_le _) (Nat.zero_le _) dX6_existingLayer_24
  · exact r_throw 2 G hno hyp th_RX6_89 lit_2 (by decide) dX6_existingLayer_13 dX6_existingLayer_16 dX6_existingLayer_17 dX6_existingLayer_19 dX6_existingLayer_22
theorem tg_X3_countCellsUnlike : xTgt yX3_countCellsUnlike cX3_countCellsUnlike 4 (some .int) 1 := ⟨ww_393, ww_28, by decide, by decide +kernel, by decide +kernel⟩
section
variable {Γ : xG} {p : Program} {l : Launch} {e : Env} {s : State} {m : MethodId} {args : Array Value} {below : List Frame} {meth : Method} {c : Code} {rF : Int32 ⊕ String} {wF : xW}
set_option maxRecDepth 100000 in
set_option maxHeartbeats 4000000 in
theorem nd_X3_countCellsUnlike_L4 (G : xCx Γ p l s m args meth c RX3 cX3_countCellsUnlike 4 (some .int)) (hno : ∀ x ∈ c.exceptionTable.toList, False) : ∀ (n : Nat) (a0 : Nat) (x1 : Option Nat) (x2 : Int32) (x3 : Int32) (w0 : xW), f_X3_countCellsUnlike_L4 n a0 x1 x2 x3 w0 = some (rF, wF) → xAW Γ p l e (xRm 1 (x_mc rF) (x_ms rF)) s m args below meth c 4 (xQm Γ below xI rF wF args s (x_mc rF) (x_ms rF)) w0 0 0 4 [(0, .ref a0), (1, va_rf x1), (2, .int x2), (3, .int x3)] [] := by
  intro n
  induction n with
  | zero =>
    intro a0 x1 x2 x3 w0 hyp
    cases (show (none : xO Int32) = some (rF, wF) from hyp)
  | succ n ih =>
    intro a0 x1 x2 x3 w0 hyp
    rw [f_X3_countCellsUnlike_L4] at hyp
    refine r_iload_n G 3 dX3_countCellsUnlike_4 rfl rfl ?_
    refine r_aload_n G 0 dX3_countCellsUnlike_5 rfl rfl ?_
    obtain ⟨v1, hv1, hyp⟩ := x_some hyp
    refine r_getv (C := RX3) (T := TX3) (N := 3) (ci := 3) G 2 (x_getr_e hv1) rfl uw_3 (Nat.le_of_ble_eq_true rfl) rfl ww_26 dX3_countCellsUnlike_6 ?_
    refine r_ref hyp (fun a2 ha2 hz => ?_)
    clear hyp; subst ha2; have hyp := hz; clear hz
    obtain ⟨v3, hv3, hyp⟩ := x_some hyp
    refine r_len G hv3 dX3_countCellsUnlike_9 ?_
    refine r_icmp_ge G 36 dX3_countCellsUnlike_10 (by decide) hyp (fun c4 hyp => ?_) (fun c4 hyp => ?_)
    · refine r_iload_n G 2 dX3_countCellsUnlike_36 rfl rfl ?_
      exact r_iret G hyp rfl (Nat.zero_le _) (Nat.zero_le _) dX3_countCellsUnlike_37
    · refine r_aload_n G 0 dX3_countCellsUnlike_13 rfl rfl ?_
      obtain ⟨v5, hv5, hyp⟩ := x_some hyp
      refine r_getv (C := RX3) (T := TX3) (N := 3) (ci := 3) G 2 (x_getr_e hv5) rfl uw_3 (Nat.le_of_ble_eq_true rfl) rfl ww_26 dX3_countCellsUnlike_14 ?_
      refine r_iload_n G 3 dX3_countCellsUnlike_17 rfl rfl ?_
      refine r_ref hyp (fun a6 ha6 hz => ?_)
      clear hyp; subst ha6; have hyp := hz; clear hz
      obtain ⟨v7, hv7, hyp⟩ := x_some hyp
      refine r_iald G hv7 dX3_countCellsUnlike_18 ?_
      refine r_aload_nq G 1 dX3_countCellsUnlike_19 rfl rfl ?_
      refine r_iload_n G 3 dX3_countCellsUnlike_20 rfl rfl ?_
      refine r_ref hyp (fun a8 ha8 hz => ?_)
      clear hyp; subst ha8; have hyp := hz; clear hz
      obtain ⟨o11, hyp⟩ := x_chk hyp
      refine r_callV (ι := xI) (T := TX3) (N := 3) (ci := 3) (b := a8) (rest := [.int v7]) (As := [.int x3]) G hno tg_X3_toneAt (fun r w' h => ct_X3_toneAt (xhl G) _ _ _ r w' h) o11 hyp rfl ww_141 ww_143 ww_142 (by decide) (by decide) rfl rfl (xroom (Nat.le_of_ble_eq_true rfl)) dX3_countCellsUnlike_21 (push := (fun r10 => [.int r10, .int v7])) (fun _ => rfl) (fun r10 w9 hyp => ?_)
      refine r_icmp_eq G 30 dX3_countCellsUnlike_24 (by decide) hyp (fun c12 hyp => ?_) (fun c12 hyp => ?_)
      · refine r_iinc (v := (x3 + 1)) (lv' := [(3, .int (x3 + 1)), (0, .ref a0), (1, .ref a8), (2, .int x2)]) G 3 dX3_countCellsUnlike_30 rfl rfl (by decide) ⟨fun _ => rfl, fun _ => rfl, fun _ => rfl, fun _ => rfl, trivial⟩ rfl ?_
        refine r_goto G 4 dX3_countCellsUnlike_33 (by decide) ?_
        refine r_weak (lv' := [(0, .ref a0), (1, .ref a8), (2, .int x2), (3, .int (x3 + 1))]) [1, 2, 3, 0] rfl ?_
        exact ih a0 (some a8) x2 (x3 + 1) w9 hyp
      · refine r_iinc (v := (x2 + 1)) (lv' := [(2, .int (x2 + 1)), (0, .ref a0), (1, .ref a8), (3, .int x3)]) G 2 dX3_countCellsUnlike_27 rfl rfl (by decide) ⟨fun _ => rfl, fun _ => rfl, fun _ => rfl, fun _ => rfl, trivial⟩ rfl ?_
        refine r_iinc (v := (x3 + 1)) (lv' := [(3, .int (x3 + 1)), (2, .int (x2 + 1)), (0, .ref a0), (1, .ref a8)]) G 3 dX3_countCellsUnlike_30 rfl rfl (by decide) ⟨fun _ => rfl, fun _ => rfl, fun _ => rfl, fun _ => rfl, trivial⟩ rfl ?_
        refine r_goto G 4 dX3_countCellsUnlike_33 (by decide) ?_
        refine r_weak (lv' := [(0, .ref a0), (1, .ref a8), (2, .int (x2 + 1)), (3, .int (x3 + 1))]) [2, 3, 1, 0] rfl ?_
        exact ih a0 (some a8) (x2 + 1) (x3 + 1) w9 hyp
end
set_option maxRecDepth 100000 in
set_option maxHeartbeats 4000000 in
theorem ct_X3_countCellsUnlike {Γ : xG} {l : Launch} (hl : l.stackTraces = false) (a0 : Nat) (x1 : Option Nat) (w0 : xW) (rF : Int32 ⊕ String) (wF : xW) (hyp : f_X3_countCellsUnlike a0 x1 w0 = some (rF, wF)) : xMet Γ l yX3_countCellsUnlike (xws yX3_countCellsUnlike cX3_countCellsUnlike 4 (some .int)) 1 xI [.ref a0, va_rf x1] w0 rF wF (x_mc rF) (x_ms rF) := by
  refine xOfW tg_X3_countCellsUnlike hl (lv0 := [(0, .ref a0), (1, va_rf x1)]) (by cases x1 <;> exact Nat.le_of_ble_eq_true rfl) (by cases x1 <;> rfl) ?_
  intro p e s m below meth c G hno hin
  rw [f_X3_countCellsUnlike] at hyp
  refine r_iconst (v := 0) G dX3_countCellsUnlike_0 (by decide) ?_
  refine r_istore_n (lv' := [(2, .int 0), (0, .ref a0), (1, va_rf x1)]) G dX3_countCellsUnlike_1 rfl (by decide) ⟨fun _ => rfl, fun _ => xcq _, trivial⟩ rfl ?_
  refine r_iconst (v := 0) G dX3_countCellsUnlike_2 (by decide) ?_
  refine r_istore_n (lv' := [(3, .int 0), (2, .int 0), (0, .ref a0), (1, va_rf x1)]) G dX3_countCellsUnlike_3 rfl (by decide) ⟨fun _ => rfl, fun _ => rfl, fun _ => xcq _, trivial⟩ rfl ?_
  refine r_weak (lv' := [(0, .ref a0), (1, va_rf x1), (2, .int 0), (3, .int 0)]) [2, 3, 1, 0] rfl ?_
  exact nd_X3_countCellsUnlike_L4 G hno xfuel a0 x1 0 0 w0 hyp
theorem tg_X6_differentCells : xTgt yX6_differentCells cX6_differentCells 3 (some .int) 2 := ⟨ww_400, ww_86, by decide, by decide +kernel, by decide +kernel⟩
section
variable {Γ : xG} {p : Program} {l : Launch} {e : Env} {s : State} {m : MethodId} {args : Array Value} {below : List Frame} {meth : Method} {c : Code} {rF : Int32 ⊕ String} {wF : xW}
end
set_option maxRecDepth 100000 in
set_option maxHeartbeats 4000000 in
theorem ct_X6_differentCells {Γ : xG} {l : Launch} (hl : l.stackTraces = false) (a0 : Nat) (x1 : Int32) (x2 : Int32) (w0 : xW) (rF : Int32 ⊕ String) (wF : xW) (hyp : f_X6_differentCells a0 x1 x2 w0 = some (rF, wF)) : xMet Γ l yX6_differentCells (xws yX6_differentCells cX6_differentCells 3 (some .int)) 7 xI [.ref a0, .int x1, .int x2] w0 rF wF (x_mc rF) (x_ms rF) := by
  refine xOfW tg_X6_differentCells hl (lv0 := [(0, .ref a0), (1, .int x1), (2, .int x2)]) (Nat.le_of_ble_eq_true rfl) rfl ?_
  intro p e s m below meth c G hno hin
  rw [f_X6_differentCells] at hyp
  refine r_aload_n G 0 dX6_differentCells_0 rfl rfl ?_
  refine r_iload_n G 1 dX6_differentCells_1 rfl rfl ?_
  obtain ⟨o3, hyp⟩ := x_chk hyp
  refine r_callV (ι := xQ) (T := TX6) (N := 9) (ci := 6) (b := a0) (rest := []) (As := [.int x1]) G hno tg_X6_existingLayer (fun r w' h => ct_X6_existingLayer (xhl G) _ _ _ r w' h) o3 hyp rfl ww_394 ww_396 ww_395 (by decide) (by decide) rfl rfl (xroom (Nat.le_of_ble_eq_true rfl)) dX6_differentCells_2 (push := (fun r2 => [va_rf r2])) (fun _ => rfl) (fun r2 w1 hyp => ?_)
  refine r_aload_n G 0 dX6_differentCells_5 rfl rfl ?_
  refine r_iload_n G 2 dX6_differentCells_6 rfl rfl ?_
  obtain ⟨o6, hyp⟩ := x_chk hyp
  refine r_callV (ι := xQ) (T := TX6) (N := 9) (ci := 6) (b := a0) (rest := [va_rf r2]) (As := [.int x2]) G hno tg_X6_existingLayer (fun r w' h => ct_X6_existingLayer (xhl G) _ _ _ r w' h) o6 hyp rfl ww_394 ww_396 ww_395 (by decide) (by decide) rfl rfl (xroom (Nat.le_of_ble_eq_true rfl)) dX6_differentCells_7 (push := (fun r5 => [va_rf r5, va_rf r2])) (fun _ => rfl) (fun r5 w4 hyp => ?_)
  refine r_ref hyp (fun a7 ha7 hz => ?_)
  clear hyp; subst ha7; have hyp := hz; clear hz
  obtain ⟨o10, hyp⟩ := x_chk hyp
  refine r_callV (ι := xI) (T := TX3) (N := 3) (ci := 3) (b := a7) (rest := []) (As := [va_rf r5]) G hno tg_X3_countCellsUnlike (fun r w' h => ct_X3_countCellsUnlike (xhl G) _ _ _ r w' h) o10 hyp rfl ww_397 ww_399 ww_398 (by decide) (by decide) rfl rfl (xroom (Nat.le_of_ble_eq_true rfl)) dX6_differentCells_10 (push := (fun r9 => [.int r9])) (fun _ => rfl) (fun r9 w8 hyp => ?_)
  exact r_iret G hyp rfl (Nat.zero_le _) (Nat.zero_le _) dX6_differentCells_13
theorem tg_X6_erase : xTgt yX6_erase cX6_erase 6 (some .int) 4 := ⟨ww_401, ww_86, by decide, by decide +kernel, by decide +kernel⟩
section
variable {Γ : xG} {p : Program} {l : Launch} {e : Env} {s : State} {m : MethodId} {args : Array Value} {below : List Frame} {meth : Method} {c : Code} {rF : Int32 ⊕ String} {wF : xW}
end
set_option maxRecDepth 100000 in
set_option maxHeartbeats 4000000 in
theorem ct_X6_erase {Γ : xG} {l : Launch} (hl : l.stackTraces = false) (a0 : Nat) (x1 : Int32) (x2 : Int32) (x3 : Int32) (x4 : Int32) (w0 : xW) (rF : Int32 ⊕ String) (wF : xW) (hyp : f_X6_erase a0 x1 x2 x3 x4 w0 = some (rF, wF)) : xMet Γ l yX6_erase (xws yX6_erase cX6_erase 6 (some .int)) 6 xI [.ref a0, .int x1, .int x2, .int x3, .int x4] w0 rF wF (x_mc rF) (x_ms rF) := by
  refine xOfW tg_X6_erase hl (lv0 := [(0, .ref a0), (1, .int x1), (2, .int x2), (3, .int x3), (4, .int x4)]) (Nat.le_of_ble_eq_true rfl) rfl ?_
  intro p e s m below meth c G hno hin
  rw [f_X6_erase] at hyp
  refine r_aload_n G 0 dX6_erase_0 rfl rfl ?_
  obtain ⟨v1, hv1, hyp⟩ := x_some hyp
  refine r_getv (C := RX6) (T := TX6) (N := 9) (ci := 6) G 1 (x_getr_e hv1) rfl uw_6 (Nat.le_of_ble_eq_true rfl) rfl ww_65 dX6_erase_1 ?_
  refine r_aload_n G 0 dX6_erase_4 rfl rfl ?_
  obtain ⟨v2, hv2, hyp⟩ := x_some hyp
  refine r_getv (C := RX6) (T := TX6) (N := 9) (ci := 6) G 0 (x_getr_e hv2) rfl uw_6 (Nat.le_of_ble_eq_true rfl) rfl ww_60 dX6_erase_5 ?_
  refine r_ref hyp (fun a3 ha3 hz => ?_)
  clear hyp; subst ha3; have hyp := hz; clear hz
  obtain ⟨o6, hyp⟩ := x_chk hyp
  refine r_callV (ι := xV) (T := TX2) (N := 3) (ci := 2) (b := a3) (rest := []) (As := [va_rf v2]) G hno tg_X2_prepare (fun r w' h => ct_X2_prepare (xhl G) _ _ _ r w' h) o6 hyp rfl ww_129 ww_131 ww_130 (by decide) (by decide) rfl rfl (xroom (Nat.le_of_ble_eq_true rfl)) dX6_erase_8 (push := (fun _ => [])) (fun _ => rfl) (fun _ w4 hyp => ?_)
  refine r_aload_n G 0 dX6_erase_11 rfl rfl ?_
  obtain ⟨v7, hv7, hyp⟩ := x_some hyp
  refine r_getv (C := RX6) (T := TX6) (N := 9) (ci := 6) G 0 (x_getr_e hv7) rfl uw_6 (Nat.le_of_ble_eq_true rfl) rfl ww_60 dX6_erase_12 ?_
  refine r_iload_n G 1 dX6_erase_15 rfl rfl ?_
  refine r_iload_n G 2 dX6_erase_16 rfl rfl ?_
  refine r_iload_n G 3 dX6_erase_17 rfl rfl ?_
  refine r_iload G 4 dX6_erase_18 rfl ?_
  refine r_ref hyp (fun a8 ha8 hz => ?_)
  clear hyp; subst ha8; have hyp := hz; clear hz
  obtain ⟨o11, hyp⟩ := x_chk hyp
  refine r_callV (ι := xI) (T := TX4) (N := 4) (ci := 4) (b := a8) (rest := []) (As := [.int x1, .int x2, .int x3, .int x4]) G hno tg_X4_eraseCircle (fun r w' h => ct_X4_eraseCircle (xhl G) _ _ _ _ _ _ r w' h) o11 hyp rfl ww_278 ww_280 ww_279 (by decide) (by decide) rfl rfl (xroom (Nat.le_of_ble_eq_true rfl)) dX6_erase_20 (push := (fun r10 => [.int r10])) (fun _ => rfl) (fun r10 w9 hyp => ?_)
  refine r_istore (lv' := [(5, .int r10), (0, .ref a0), (1, .int x1), (2, .int x2), (3, .int x3), (4, .int x4)]) G dX6_erase_23 (by decide) ⟨fun _ => rfl, fun _ => rfl, fun _ => rfl, fun _ => rfl, fun _ => rfl, trivial⟩ rfl ?_
  refine r_iload G 0 dX6_erase_25 rfl ?_
  refine r_bipush (v := (-2)) G dX6_erase_27 (by decide) ?_
  refine r_icmp_ne G 42 dX6_erase_29 (by decide) hyp (fun c12 hyp => ?_) (fun c12 hyp => ?_)
  · refine r_iload G 0 dX6_erase_42 rfl ?_
    refine r_bipush (v := (-3)) G dX6_erase_44 (by decide) ?_
    refine r_icmp_ne G 59 dX6_erase_46 (by decide) hyp (fun c13 hyp => ?_) (fun c13 hyp => ?_)
    · refine r_aload_n G 1 dX6_erase_59 rfl rfl ?_
      obtain ⟨v14, hv14, hyp⟩ := x_some hyp
      refine r_getv (C := RX6) (T := TX6) (N := 9) (ci := 6) G 1 (x_getr_e hv14) rfl uw_6 (Nat.le_of_ble_eq_true rfl) rfl ww_65 dX6_erase_60 ?_
      refine r_ref hyp (fun a15 ha15 hz => ?_)
      clear hyp; subst ha15; have hyp := hz; clear hz
      obtain ⟨o18, hyp⟩ := x_chk hyp
      refine r_callV (ι := xV) (T := TX2) (N := 3) (ci := 2) (b := a15) (rest := []) (As := []) G hno tg_X2_commit (fun r w' h => ct_X2_commit (xhl G) _ _ r w' h) o18 hyp rfl ww_135 ww_137 ww_136 (by decide) (by decide) rfl rfl (xroom (Nat.le_of_ble_eq_true rfl)) dX6_erase_63 (push := (fun _ => [])) (fun _ => rfl) (fun _ w16 hyp => ?_)
      refine r_iload G 0 dX6_erase_66 rfl ?_
      exact r_iret G hyp rfl (Nat.zero_le _) (Nat.zero_le _) dX6_erase_68
    · exact r_throw 5 G hno hyp th_RX6_70 lit_5 (by decide) dX6_erase_49 dX6_erase_52 dX6_erase_53 dX6_erase_55 dX6_erase_58
  · exact r_throw 3 G hno hyp th_RX6_89 lit_3 (by decide) dX6_erase_32 dX6_erase_35 dX6_erase_36 dX6_erase_38 dX6_erase_41
theorem tg_X6_erasedCells : xTgt yX6_erasedCells cX6_erasedCells 1 (some .int) 0 := ⟨ww_403, ww_86, by decide, by decide +kernel, by decide +kernel⟩
section
variable {Γ : xG} {p : Program} {l : Launch} {e : Env} {s : State} {m : MethodId} {args : Array Value} {below : List Frame} {meth : Method} {c : Code} {rF : Int32 ⊕ String} {wF : xW}
end
set_option maxRecDepth 100000 in
set_option maxHeartbeats 4000000 in
theorem ct_X6_erasedCells {Γ : xG} {l : Launch} (hl : l.stackTraces = false) (a0 : Nat) (w0 : xW) (rF : Int32 ⊕ String) (wF : xW) (hyp : f_X6_erasedCells a0 w0 = some (rF, wF)) : xMet Γ l yX6_erasedCells (xws yX6_erasedCells cX6_erasedCells 1 (some .int)) 0 xI [.ref a0] w0 rF wF (x_mc rF) (x_ms rF) := by
  refine xOfW tg_X6_erasedCells hl (lv0 := [(0, .ref a0)]) (Nat.le_of_ble_eq_true rfl) rfl ?_
  intro p e s m below meth c G hno hin
  rw [f_X6_erasedCells] at hyp
  refine r_aload_n G 0 dX6_erasedCells_0 rfl rfl ?_
  obtain ⟨v1, hv1, hyp⟩ := x_some hyp
  refine r_getv (C := RX6) (T := TX6) (N := 9) (ci := 6) G 0 (x_getr_e hv1) rfl uw_6 (Nat.le_of_ble_eq_true rfl) rfl ww_60 dX6_erasedCells_1 ?_
  refine r_ref hyp (fun a2 ha2 hz => ?_)
  clear hyp; subst ha2; have hyp := hz; clear hz
  obtain ⟨v3, hv3, hyp⟩ := x_some hyp
  refine r_getvN (C := RX4) (T := TX4) (N := 4) (ci := 4) G 3 (x_geti_e hv3) rfl uw_4 (Nat.le_of_ble_eq_true rfl) rfl ww_402 dX6_erasedCells_4 ?_
  exact r_iret G hyp rfl (Nat.zero_le _) (Nat.zero_le _) dX6_erasedCells_7
theorem tg_X6_errorPosition : xTgt yX6_errorPosition cX6_errorPosition 1 (some .int) 0 := ⟨ww_404, ww_86, by decide, by decide +kernel, by decide +kernel⟩
section
variable {Γ : xG} {p : Program} {l : Launch} {e : Env} {s : State} {m : MethodId} {args : Array Value} {below : List Frame} {meth : Method} {c : Code} {rF : Int32 ⊕ String} {wF : xW}
end
set_option maxRecDepth 100000 in
set_option maxHeartbeats 4000000 in
theorem ct_X6_errorPosition {Γ : xG} {l : Launch} (hl : l.stackTraces = false) (a0 : Nat) (w0 : xW) (rF : Int32 ⊕ String) (wF : xW) (hyp : f_X6_errorPosition a0 w0 = some (rF, wF)) : xMet Γ l yX6_errorPosition (xws yX6_errorPosition cX6_errorPosition 1 (some .int)) 6 xI [.ref a0] w0 rF wF (x_mc rF) (x_ms rF) := by
  refine xOfW tg_X6_errorPosition hl (lv0 := [(0, .ref a0)]) (Nat.le_of_ble_eq_true rfl) rfl ?_
  intro p e s m below meth c G hno hin
  rw [f_X6_errorPosition] at hyp
  refine r_aload_n G 0 dX6_errorPosition_0 rfl rfl ?_
  obtain ⟨v1, hv1, hyp⟩ := x_some hyp
  refine r_getv (C := RX6) (T := TX6) (N := 9) (ci := 6) G 7 (x_geti_e hv1) rfl uw_6 (Nat.le_of_ble_eq_true rfl) rfl ww_83 dX6_errorPosition_1 ?_
  refine r_iconst (v := (-1)) G dX6_errorPosition_4 (by decide) ?_
  refine r_icmp_ne G 19 dX6_errorPosition_5 (by decide) hyp (fun c2 hyp => ?_) (fun c2 hyp => ?_)
  · refine r_aload_n G 0 dX6_errorPosition_19 rfl rfl ?_
    obtain ⟨v3, hv3, hyp⟩ := x_some hyp
    refine r_getv (C := RX6) (T := TX6) (N := 9) (ci := 6) G 7 (x_geti_e hv3) rfl uw_6 (Nat.le_of_ble_eq_true rfl) rfl ww_83 dX6_errorPosition_20 ?_
    exact r_iret G hyp rfl (Nat.zero_le _) (Nat.zero_le _) dX6_errorPosition_23
  · exact r_throwXW 28 G hno hyp th_RX6_123 lit_28 (by decide) dX6_errorPosition_8 dX6_errorPosition_11 dX6_errorPosition_12 dX6_errorPosition_15 dX6_errorPosition_18
theorem tg_X6_failedCommand : xTgt yX6_failedCommand cX6_failedCommand 1 (some .int) 0 := ⟨ww_405, ww_86, by decide, by decide +kernel, by decide +kernel⟩
section
variable {Γ : xG} {p : Program} {l : Launch} {e : Env} {s : State} {m : MethodId} {args : Array Value} {below : List Frame} {meth : Method} {c : Code} {rF : Int32 ⊕ String} {wF : xW}
end
set_option maxRecDepth 100000 in
set_option maxHeartbeats 4000000 in
theorem ct_X6_failedCommand {Γ : xG} {l : Launch} (hl : l.stackTraces = false) (a0 : Nat) (w0 : xW) (rF : Int32 ⊕ String) (wF : xW) (hyp : f_X6_failedCommand a0 w0 = some (rF, wF)) : xMet Γ l yX6_failedCommand (xws yX6_failedCommand cX6_failedCommand 1 (some .int)) 6 xI [.ref a0] w0 rF wF (x_mc rF) (x_ms rF) := by
  refine xOfW tg_X6_failedCommand hl (lv0 := [(0, .ref a0)]) (Nat.le_of_ble_eq_true rfl) rfl ?_
  intro p e s m below meth c G hno hin
  rw [f_X6_failedCommand] at hyp
  refine r_aload_n G 0 dX6_failedCommand_0 rfl rfl ?_
  obtain ⟨v1, hv1, hyp⟩ := x_some hyp
  refine r_getv (C := RX6) (T := TX6) (N := 9) (ci := 6) G 8 (x_geti_e hv1) rfl uw_6 (Nat.le_of_ble_eq_true rfl) rfl ww_84 dX6_failedCommand_1 ?_
  refine r_iconst (v := (-1)) G dX6_failedCommand_4 (by decide) ?_
  refine r_icmp_ne G 19 dX6_failedCommand_5 (by decide) hyp (fun c2 hyp => ?_) (fun c2 hyp => ?_)
  · refine r_aload_n G 0 dX6_failedCommand_19 rfl rfl ?_
    obtain ⟨v3, hv3, hyp⟩ := x_some hyp
    refine r_getv (C := RX6) (T := TX6) (N := 9) (ci := 6) G 8 (x_geti_e hv3) rfl uw_6 (Nat.le_of_ble_eq_true rfl) rfl ww_84 dX6_failedCommand_20 ?_
    exact r_iret G hyp rfl (Nat.zero_le _) (Nat.zero_le _) dX6_failedCommand_23
  · exact r_throwXW 29 G hno hyp th_RX6_123 lit_29 (by decide) dX6_failedCommand_8 dX6_failedCommand_11 dX6_failedCommand_12 dX6_failedCommand_15 dX6_failedCommand_18
theorem tg_X0_append : xTgt yX0_append cX0_append 2 (some .int) 1 := ⟨ww_406, ww_12, by decide, by decide +kernel, by decide +kernel⟩
section
variable {Γ : xG} {p : Program} {l : Launch} {e : Env} {s : State} {m : MethodId} {args : Array Value} {below : List Frame} {meth : Method} {c : Code} {rF : Int32 ⊕ String} {wF : xW}
end
set_option maxRecDepth 100000 in
set_option maxHeartbeats 4000000 in
theorem ct_X0_append {Γ : xG} {l : Launch} (hl : l.stackTraces = false) (a0 : Nat) (x1 : Int32) (w0 : xW) (rF : Int32 ⊕ String) (wF : xW) (hyp : f_X0_append a0 x1 w0 = some (rF, wF)) : xMet Γ l yX0_append (xws yX0_append cX0_append 2 (some .int)) 0 xI [.ref a0, .int x1] w0 rF wF (x_mc rF) (x_ms rF) := by
  refine xOfW tg_X0_append hl (lv0 := [(0, .ref a0), (1, .int x1)]) (Nat.le_of_ble_eq_true rfl) rfl ?_
  intro p e s m below meth c G hno hin
  rw [f_X0_append] at hyp
  refine r_aload_n G 0 dX0_append_0 rfl rfl ?_
  obtain ⟨v1, hv1, hyp⟩ := x_some hyp
  refine r_getv (C := RX0) (T := TX0) (N := 6) (ci := 0) G 1 (x_geti_e hv1) rfl uw_0 (Nat.le_of_ble_eq_true rfl) rfl ww_5 dX0_append_1 ?_
  refine r_if_lt G 39 dX0_append_4 (by decide) hyp (fun c2 hyp => ?_) (fun c2 hyp => ?_)
  · refine r_aload_n G 0 dX0_append_39 rfl rfl ?_
    obtain ⟨v3, hv3, hyp⟩ := x_some hyp
    refine r_getv (C := RX0) (T := TX0) (N := 6) (ci := 0) G 1 (x_geti_e hv3) rfl uw_0 (Nat.le_of_ble_eq_true rfl) rfl ww_5 dX0_append_40 ?_
    exact r_iret G hyp rfl (Nat.zero_le _) (Nat.zero_le _) dX0_append_43
  · refine r_aload_n G 0 dX0_append_7 rfl rfl ?_
    obtain ⟨v4, hv4, hyp⟩ := x_some hyp
    refine r_getv (C := RX0) (T := TX0) (N := 6) (ci := 0) G 1 (x_geti_e hv4) rfl uw_0 (Nat.le_of_ble_eq_true rfl) rfl ww_5 dX0_append_8 ?_
    refine r_aload_n G 0 dX0_append_11 rfl rfl ?_
    obtain ⟨v5, hv5, hyp⟩ := x_some hyp
    refine r_getv (C := RX0) (T := TX0) (N := 6) (ci := 0) G 0 (x_getr_e hv5) rfl uw_0 (Nat.le_of_ble_eq_true rfl) rfl ww_4 dX0_append_12 ?_
    refine r_ref hyp (fun a6 ha6 hz => ?_)
    clear hyp; subst ha6; have hyp := hz; clear hz
    obtain ⟨v7, hv7, hyp⟩ := x_some hyp
    refine r_len G hv7 dX0_append_15 ?_
    refine r_icmp_ge G 39 dX0_append_16 (by decide) hyp (fun c8 hyp => ?_) (fun c8 hyp => ?_)
    · refine r_aload_n G 0 dX0_append_39 rfl rfl ?_
      obtain ⟨v9, hv9, hyp⟩ := x_some hyp
      refine r_getv (C := RX0) (T := TX0) (N := 6) (ci := 0) G 1 (x_geti_e hv9) rfl uw_0 (Nat.le_of_ble_eq_true rfl) rfl ww_5 dX0_append_40 ?_
      exact r_iret G hyp rfl (Nat.zero_le _) (Nat.zero_le _) dX0_append_43
    · refine r_aload_n G 0 dX0_append_19 rfl rfl ?_
      obtain ⟨v10, hv10, hyp⟩ := x_some hyp
      refine r_getv (C := RX0) (T := TX0) (N := 6) (ci := 0) G 0 (x_getr_e hv10) rfl uw_0 (Nat.le_of_ble_eq_true rfl) rfl ww_4 dX0_append_20 ?_
      refine r_aload_n G 0 dX0_append_23 rfl rfl ?_
      obtain ⟨v11, hv11, hyp⟩ := x_some hyp
      refine r_getv (C := RX0) (T := TX0) (N := 6) (ci := 0) G 1 (x_geti_e hv11) rfl uw_0 (Nat.le_of_ble_eq_true rfl) rfl ww_5 dX0_append_24 ?_
      refine r_iload_n G 1 dX0_append_27 rfl rfl ?_
      refine r_ref hyp (fun a12 ha12 hz => ?_)
      clear hyp; subst ha12; have hyp := hz; clear hz
      obtain ⟨w13, hw13, hyp⟩ := x_some hyp
      refine r_cast G hw13 dX0_append_28 ?_
      refine r_aload_n G 0 dX0_append_29 rfl rfl ?_
      refine r_dup G dX0_append_30 rfl ?_
      obtain ⟨v14, hv14, hyp⟩ := x_some hyp
      refine r_getv (C := RX0) (T := TX0) (N := 6) (ci := 0) G 1 (x_geti_e hv14) rfl uw_0 (Nat.le_of_ble_eq_true rfl) rfl ww_5 dX0_append_31 ?_
      refine r_iconst (v := 1) G dX0_append_34 (by decide) ?_
      refine r_iadd G dX0_append_35 ?_
      obtain ⟨w15, hw15, hyp⟩ := x_some hyp
      refine r_putv (C := RX0) (T := TX0) (N := 6) (ci := 0) G tyX0 tyX0_ok nmX0 1 hw15 rfl uw_0 (Nat.le_of_ble_eq_true rfl) rfl ww_5 rfl rfl rfl dX0_append_36 ?_
      refine r_aload_n G 0 dX0_append_39 rfl rfl ?_
      obtain ⟨v16, hv16, hyp⟩ := x_some hyp
      refine r_getv (C := RX0) (T := TX0) (N := 6) (ci := 0) G 1 (x_geti_e hv16) rfl uw_0 (Nat.le_of_ble_eq_true rfl) rfl ww_5 dX0_append_40 ?_
      exact r_iret G hyp rfl (Nat.zero_le _) (Nat.zero_le _) dX0_append_43
theorem tg_X0_isFull : xTgt yX0_isFull cX0_isFull 1 (some .boolean) 0 := ⟨ww_407, ww_12, by decide, by decide +kernel, by decide +kernel⟩
section
variable {Γ : xG} {p : Program} {l : Launch} {e : Env} {s : State} {m : MethodId} {args : Array Value} {below : List Frame} {meth : Method} {c : Code} {rF : Int32 ⊕ String} {wF : xW}
end
set_option maxRecDepth 100000 in
set_option maxHeartbeats 4000000 in
theorem ct_X0_isFull {Γ : xG} {l : Launch} (hl : l.stackTraces = false) (a0 : Nat) (w0 : xW) (rF : Int32 ⊕ String) (wF : xW) (hyp : f_X0_isFull a0 w0 = some (rF, wF)) : xMet Γ l yX0_isFull (xws yX0_isFull cX0_isFull 1 (some .boolean)) 0 xI [.ref a0] w0 rF wF (x_mc rF) (x_ms rF) := by
  refine xOfW tg_X0_isFull hl (lv0 := [(0, .ref a0)]) (Nat.le_of_ble_eq_true rfl) rfl ?_
  intro p e s m below meth c G hno hin
  rw [f_X0_isFull] at hyp
  refine r_aload_n G 0 dX0_isFull_0 rfl rfl ?_
  obtain ⟨v1, hv1, hyp⟩ := x_some hyp
  refine r_getv (C := RX0) (T := TX0) (N := 6) (ci := 0) G 1 (x_geti_e hv1) rfl uw_0 (Nat.le_of_ble_eq_true rfl) rfl ww_5 dX0_isFull_1 ?_
  refine r_bipush (v := 60) G dX0_isFull_4 (by decide) ?_
  refine r_icmp_lt G 13 dX0_isFull_6 (by decide) hyp (fun c2 hyp => ?_) (fun c2 hyp => ?_)
  · refine r_iconst (v := 0) G dX0_isFull_13 (by decide) ?_
    exact r_iret G hyp (by decide) (Nat.zero_le _) (Nat.zero_le _) dX0_isFull_14
  · refine r_iconst (v := 1) G dX0_isFull_9 (by decide) ?_
    refine r_goto G 14 dX0_isFull_10 (by decide) ?_
    exact r_iret G hyp (by decide) (Nat.zero_le _) (Nat.zero_le _) dX0_isFull_14
theorem tg_X6_feed : xTgt yX6_feed cX6_feed 2 (some .int) 1 := ⟨ww_414, ww_86, by decide, by decide +kernel, by decide +kernel⟩
section
variable {Γ : xG} {p : Program} {l : Launch} {e : Env} {s : State} {m : MethodId} {args : Array Value} {below : List Frame} {meth : Method} {c : Code} {rF : Int32 ⊕ String} {wF : xW}
end
set_option maxRecDepth 100000 in
set_option maxHeartbeats 4000000 in
theorem ct_X6_feed {Γ : xG} {l : Launch} (hl : l.stackTraces = false) (a0 : Nat) (x1 : Int32) (w0 : xW) (rF : Int32 ⊕ String) (wF : xW) (hyp : f_X6_feed a0 x1 w0 = some (rF, wF)) : xMet Γ l yX6_feed (xws yX6_feed cX6_feed 2 (some .int)) 6 xI [.ref a0, .int x1] w0 rF wF (x_mc rF) (x_ms rF) := by
  refine xOfW tg_X6_feed hl (lv0 := [(0, .ref a0), (1, .int x1)]) (Nat.le_of_ble_eq_true rfl) rfl ?_
  intro p e s m below meth c G hno hin
  rw [f_X6_feed] at hyp
  refine r_aload_n G 0 dX6_feed_0 rfl rfl ?_
  obtain ⟨v1, hv1, hyp⟩ := x_some hyp
  refine r_getv (C := RX6) (T := TX6) (N := 9) (ci := 6) G 5 (x_getr_e hv1) rfl uw_6 (Nat.le_of_ble_eq_true rfl) rfl ww_77 dX6_feed_1 ?_
  refine r_ref hyp (fun a2 ha2 hz => ?_)
  clear hyp; subst ha2; have hyp := hz; clear hz
  obtain ⟨o5, hyp⟩ := x_chk hyp
  refine r_callV (ι := xI) (T := TX0) (N := 6) (ci := 0) (b := a2) (rest := []) (As := []) G hno tg_X0_isFull (fun r w' h => ct_X0_isFull (xhl G) _ _ r w' h) o5 hyp rfl ww_408 ww_410 ww_409 (by decide) (by decide) rfl rfl (xroom (Nat.le_of_ble_eq_true rfl)) dX6_feed_4 (push := (fun r4 => [.int r4])) (fun _ => rfl) (fun r4 w3 hyp => ?_)
  refine r_if_eq G 21 dX6_feed_7 (by decide) hyp (fun c6 hyp => ?_) (fun c6 hyp => ?_)
  · refine r_aload_n G 0 dX6_feed_21 rfl rfl ?_
    obtain ⟨v7, hv7, hyp⟩ := x_some hyp
    refine r_getv (C := RX6) (T := TX6) (N := 9) (ci := 6) G 5 (x_getr_e hv7) rfl uw_6 (Nat.le_of_ble_eq_true rfl) rfl ww_77 dX6_feed_22 ?_
    refine r_iload_n G 1 dX6_feed_25 rfl rfl ?_
    refine r_ref hyp (fun a8 ha8 hz => ?_)
    clear hyp; subst ha8; have hyp := hz; clear hz
    obtain ⟨o11, hyp⟩ := x_chk hyp
    refine r_callV (ι := xI) (T := TX0) (N := 6) (ci := 0) (b := a8) (rest := []) (As := [.int x1]) G hno tg_X0_append (fun r w' h => ct_X0_append (xhl G) _ _ _ r w' h) o11 hyp rfl ww_411 ww_413 ww_412 (by decide) (by decide) rfl rfl (xroom (Nat.le_of_ble_eq_true rfl)) dX6_feed_26 (push := (fun r10 => [.int r10])) (fun _ => rfl) (fun r10 w9 hyp => ?_)
    exact r_iret G hyp rfl (Nat.zero_le _) (Nat.zero_le _) dX6_feed_29
  · exact r_throwW 17 G hno hyp th_RX6_77 lit_17 (by decide) dX6_feed_10 dX6_feed_13 dX6_feed_14 dX6_feed_17 dX6_feed_20
theorem tg_X6_hasTone : xTgt yX6_hasTone cX6_hasTone 4 (some .boolean) 3 := ⟨ww_416, ww_86, by decide, by decide +kernel, by decide +kernel⟩
section
variable {Γ : xG} {p : Program} {l : Launch} {e : Env} {s : State} {m : MethodId} {args : Array Value} {below : List Frame} {meth : Method} {c : Code} {rF : Int32 ⊕ String} {wF : xW}
end
set_option maxRecDepth 100000 in
set_option maxHeartbeats 4000000 in
theorem ct_X6_hasTone {Γ : xG} {l : Launch} (hl : l.stackTraces = false) (a0 : Nat) (x1 : Int32) (x2 : Int32) (x3 : Int32) (w0 : xW) (rF : Int32 ⊕ String) (wF : xW) (hyp : f_X6_hasTone a0 x1 x2 x3 w0 = some (rF, wF)) : xMet Γ l yX6_hasTone (xws yX6_hasTone cX6_hasTone 4 (some .boolean)) 7 xI [.ref a0, .int x1, .int x2, .int x3] w0 rF wF (x_mc rF) (x_ms rF) := by
  refine xOfW tg_X6_hasTone hl (lv0 := [(0, .ref a0), (1, .int x1), (2, .int x2), (3, .int x3)]) (Nat.le_of_ble_eq_true rfl) rfl ?_
  intro p e s m below meth c G hno hin
  rw [f_X6_hasTone] at hyp
  refine r_aload_n G 0 dX6_hasTone_0 rfl rfl ?_
  refine r_iload_n G 1 dX6_hasTone_1 rfl rfl ?_
  obtain ⟨o3, hyp⟩ := x_chk hyp
  refine r_callV (ι := xQ) (T := TX6) (N := 9) (ci := 6) (b := a0) (rest := []) (As := [.int x1]) G hno tg_X6_existingLayer (fun r w' h => ct_X6_existingLayer (xhl G) _ _ _ r w' h) o3 hyp rfl ww_394 ww_396 ww_395 (by decide) (by decide) rfl rfl (xroom (Nat.le_of_ble_eq_true rfl)) dX6_hasTone_2 (push := (fun r2 => [va_rf r2])) (fun _ => rfl) (fun r2 w1 hyp => ?_)
  refine r_iload_n G 2 dX6_hasTone_5 rfl rfl ?_
  refine r_iload_n G 3 dX6_hasTone_6 rfl rfl ?_
  refine r_callS (ι := xI) (rest := [va_rf r2]) (As := [.int x2, .int x3]) G hno tg_X6_existingCell (fun r w' h => ct_X6_existingCell (xhl G) _ _ _ r w' h) hyp ww_204 ww_205 (by decide) (by decide) rfl rfl (xroom (Nat.le_of_ble_eq_true rfl)) dX6_hasTone_7 (push := (fun r5 => [.int r5, va_rf r2])) (fun _ => rfl) (fun r5 w4 hyp => ?_)
  refine r_ref hyp (fun a6 ha6 hz => ?_)
  clear hyp; subst ha6; have hyp := hz; clear hz
  obtain ⟨o9, hyp⟩ := x_chk hyp
  refine r_callV (ι := xI) (T := TX3) (N := 3) (ci := 3) (b := a6) (rest := []) (As := [.int r5]) G hno tg_X3_toneAt (fun r w' h => ct_X3_toneAt (xhl G) _ _ _ r w' h) o9 hyp rfl ww_415 ww_143 ww_142 (by decide) (by decide) rfl rfl (xroom (Nat.le_of_ble_eq_true rfl)) dX6_hasTone_10 (push := (fun r8 => [.int r8])) (fun _ => rfl) (fun r8 w7 hyp => ?_)
  refine r_iconst (v := (-1)) G dX6_hasTone_13 (by decide) ?_
  refine r_icmp_eq G 21 dX6_hasTone_14 (by decide) hyp (fun c10 hyp => ?_) (fun c10 hyp => ?_)
  · refine r_iconst (v := 0) G dX6_hasTone_21 (by decide) ?_
    exact r_iret G hyp (by decide) (Nat.zero_le _) (Nat.zero_le _) dX6_hasTone_22
  · refine r_iconst (v := 1) G dX6_hasTone_17 (by decide) ?_
    refine r_goto G 22 dX6_hasTone_18 (by decide) ?_
    exact r_iret G hyp (by decide) (Nat.zero_le _) (Nat.zero_le _) dX6_hasTone_22
theorem tg_X6_hide : xTgt yX6_hide cX6_hide 3 (some .int) 1 := ⟨ww_417, ww_86, by decide, by decide +kernel, by decide +kernel⟩
section
variable {Γ : xG} {p : Program} {l : Launch} {e : Env} {s : State} {m : MethodId} {args : Array Value} {below : List Frame} {meth : Method} {c : Code} {rF : Int32 ⊕ String} {wF : xW}
end
set_option maxRecDepth 100000 in
set_option maxHeartbeats 4000000 in
theorem ct_X6_hide {Γ : xG} {l : Launch} (hl : l.stackTraces = false) (a0 : Nat) (x1 : Int32) (w0 : xW) (rF : Int32 ⊕ String) (wF : xW) (hyp : f_X6_hide a0 x1 w0 = some (rF, wF)) : xMet Γ l yX6_hide (xws yX6_hide cX6_hide 3 (some .int)) 6 xI [.ref a0, .int x1] w0 rF wF (x_mc rF) (x_ms rF) := by
  refine xOfW tg_X6_hide hl (lv0 := [(0, .ref a0), (1, .int x1)]) (Nat.le_of_ble_eq_true rfl) rfl ?_
  intro p e s m below meth c G hno hin
  rw [f_X6_hide] at hyp
  refine r_aload_n G 0 dX6_hide_0 rfl rfl ?_
  obtain ⟨v1, hv1, hyp⟩ := x_some hyp
  refine r_getv (C := RX6) (T := TX6) (N := 9) (ci := 6) G 1 (x_getr_e hv1) rfl uw_6 (Nat.le_of_ble_eq_true rfl) rfl ww_65 dX6_hide_1 ?_
  refine r_aload_n G 0 dX6_hide_4 rfl rfl ?_
  obtain ⟨v2, hv2, hyp⟩ := x_some hyp
  refine r_getv (C := RX6) (T := TX6) (N := 9) (ci := 6) G 0 (x_getr_e hv2) rfl uw_6 (Nat.le_of_ble_eq_true rfl) rfl ww_60 dX6_hide_5 ?_
  refine r_ref hyp (fun a3 ha3 hz => ?_)
  clear hyp; subst ha3; have hyp := hz; clear hz
  obtain ⟨o6, hyp⟩ := x_chk hyp
  refine r_callV (ι := xV) (T := TX2) (N := 3) (ci := 2) (b := a3) (rest := []) (As := [va_rf v2]) G hno tg_X2_prepare (fun r w' h => ct_X2_prepare (xhl G) _ _ _ r w' h) o6 hyp rfl ww_129 ww_131 ww_130 (by decide) (by decide) rfl rfl (xroom (Nat.le_of_ble_eq_true rfl)) dX6_hide_8 (push := (fun _ => [])) (fun _ => rfl) (fun _ w4 hyp => ?_)
  refine r_aload_n G 0 dX6_hide_11 rfl rfl ?_
  obtain ⟨v7, hv7, hyp⟩ := x_some hyp
  refine r_getv (C := RX6) (T := TX6) (N := 9) (ci := 6) G 0 (x_getr_e hv7) rfl uw_6 (Nat.le_of_ble_eq_true rfl) rfl ww_60 dX6_hide_12 ?_
  refine r_iload_n G 1 dX6_hide_15 rfl rfl ?_
  refine r_iconst (v := 0) G dX6_hide_16 (by decide) ?_
  refine r_ref hyp (fun a8 ha8 hz => ?_)
  clear hyp; subst ha8; have hyp := hz; clear hz
  obtain ⟨o11, hyp⟩ := x_chk hyp
  refine r_callV (ι := xI) (T := TX4) (N := 4) (ci := 4) (b := a8) (rest := []) (As := [.int x1, .int 0]) G hno tg_X4_turnVisible (fun r w' h => ct_X4_turnVisible (xhl G) _ _ _ _ r w' h) o11 hyp rfl ww_281 ww_283 ww_282 (by decide) (by decide) rfl rfl (xroom (Nat.le_of_ble_eq_true rfl)) dX6_hide_17 (push := (fun r10 => [.int r10])) (fun _ => rfl) (fun r10 w9 hyp => ?_)
  refine r_istore_n (lv' := [(2, .int r10), (0, .ref a0), (1, .int x1)]) G dX6_hide_20 rfl (by decide) ⟨fun _ => rfl, fun _ => rfl, trivial⟩ rfl ?_
  refine r_iload_n G 0 dX6_hide_21 rfl rfl ?_
  refine r_bipush (v := (-2)) G dX6_hide_22 (by decide) ?_
  refine r_icmp_ne G 37 dX6_hide_24 (by decide) hyp (fun c12 hyp => ?_) (fun c12 hyp => ?_)
  · refine r_iload_n G 0 dX6_hide_37 rfl rfl ?_
    refine r_bipush (v := (-4)) G dX6_hide_38 (by decide) ?_
    refine r_icmp_ne G 53 dX6_hide_40 (by decide) hyp (fun c13 hyp => ?_) (fun c13 hyp => ?_)
    · refine r_aload_n G 1 dX6_hide_53 rfl rfl ?_
      obtain ⟨v14, hv14, hyp⟩ := x_some hyp
      refine r_getv (C := RX6) (T := TX6) (N := 9) (ci := 6) G 1 (x_getr_e hv14) rfl uw_6 (Nat.le_of_ble_eq_true rfl) rfl ww_65 dX6_hide_54 ?_
      refine r_ref hyp (fun a15 ha15 hz => ?_)
      clear hyp; subst ha15; have hyp := hz; clear hz
      obtain ⟨o18, hyp⟩ := x_chk hyp
      refine r_callV (ι := xV) (T := TX2) (N := 3) (ci := 2) (b := a15) (rest := []) (As := []) G hno tg_X2_commit (fun r w' h => ct_X2_commit (xhl G) _ _ r w' h) o18 hyp rfl ww_135 ww_137 ww_136 (by decide) (by decide) rfl rfl (xroom (Nat.le_of_ble_eq_true rfl)) dX6_hide_57 (push := (fun _ => [])) (fun _ => rfl) (fun _ w16 hyp => ?_)
      refine r_iload_n G 0 dX6_hide_60 rfl rfl ?_
      exact r_iret G hyp rfl (Nat.zero_le _) (Nat.zero_le _) dX6_hide_61
    · exact r_throw 6 G hno hyp th_RX6_77 lit_6 (by decide) dX6_hide_43 dX6_hide_46 dX6_hide_47 dX6_hide_49 dX6_hide_52
  · exact r_throw 2 G hno hyp th_RX6_89 lit_2 (by decide) dX6_hide_27 dX6_hide_30 dX6_hide_31 dX6_hide_33 dX6_hide_36
theorem tg_X3_hides : xTgt yX3_hides cX3_hides 2 (some .boolean) 1 := ⟨ww_419, ww_28, by decide, by decide +kernel, by decide +kernel⟩
section
variable {Γ : xG} {p : Program} {l : Launch} {e : Env} {s : State} {m : MethodId} {args : Array Value} {below : List Frame} {meth : Method} {c : Code} {rF : Int32 ⊕ String} {wF : xW}
end
set_option maxRecDepth 100000 in
set_option maxHeartbeats 4000000 in
theorem ct_X3_hides {Γ : xG} {l : Launch} (hl : l.stackTraces = false) (a0 : Nat) (x1 : Int32) (w0 : xW) (rF : Int32 ⊕ String) (wF : xW) (hyp : f_X3_hides a0 x1 w0 = some (rF, wF)) : xMet Γ l yX3_hides (xws yX3_hides cX3_hides 2 (some .boolean)) 2 xI [.ref a0, .int x1] w0 rF wF (x_mc rF) (x_ms rF) := by
  refine xOfW tg_X3_hides hl (lv0 := [(0, .ref a0), (1, .int x1)]) (Nat.le_of_ble_eq_true rfl) rfl ?_
  intro p e s m below meth c G hno hin
  rw [f_X3_hides] at hyp
  refine r_aload_n G 0 dX3_hides_0 rfl rfl ?_
  obtain ⟨v1, hv1, hyp⟩ := x_some hyp
  refine r_getv (C := RX3) (T := TX3) (N := 3) (ci := 3) G 0 (x_geti_e hv1) rfl uw_3 (Nat.le_of_ble_eq_true rfl) rfl ww_24 dX3_hides_1 ?_
  refine r_bipush (v := 110) G dX3_hides_4 (by decide) ?_
  refine r_icmp_ne G 21 dX3_hides_6 (by decide) hyp (fun c2 hyp => ?_) (fun c2 hyp => ?_)
  · refine r_iconst (v := 0) G dX3_hides_21 (by decide) ?_
    exact r_iret G hyp (by decide) (Nat.zero_le _) (Nat.zero_le _) dX3_hides_22
  · refine r_aload_n G 0 dX3_hides_9 rfl rfl ?_
    refine r_iload_n G 1 dX3_hides_10 rfl rfl ?_
    obtain ⟨o5, hyp⟩ := x_chk hyp
    refine r_callV (ι := xI) (T := TX3) (N := 3) (ci := 3) (b := a0) (rest := []) (As := [.int x1]) G hno tg_X3_covers (fun r w' h => ct_X3_covers (xhl G) _ _ _ r w' h) o5 hyp rfl ww_418 ww_356 ww_355 (by decide) (by decide) rfl rfl (xroom (Nat.le_of_ble_eq_true rfl)) dX3_hides_11 (push := (fun r4 => [.int r4])) (fun _ => rfl) (fun r4 w3 hyp => ?_)
    refine r_if_eq G 21 dX3_hides_14 (by decide) hyp (fun c6 hyp => ?_) (fun c6 hyp => ?_)
    · refine r_iconst (v := 0) G dX3_hides_21 (by decide) ?_
      exact r_iret G hyp (by decide) (Nat.zero_le _) (Nat.zero_le _) dX3_hides_22
    · refine r_iconst (v := 1) G dX3_hides_17 (by decide) ?_
      refine r_goto G 22 dX3_hides_18 (by decide) ?_
      exact r_iret G hyp (by decide) (Nat.zero_le _) (Nat.zero_le _) dX3_hides_22
theorem tg_X4_toneFromTop : xTgt yX4_toneFromTop cX4_toneFromTop 4 (some .int) 1 := ⟨ww_424, ww_40, by decide, by decide +kernel, by decide +kernel⟩
section
variable {Γ : xG} {p : Program} {l : Launch} {e : Env} {s : State} {m : MethodId} {args : Array Value} {below : List Frame} {meth : Method} {c : Code} {rF : Int32 ⊕ String} {wF : xW}
set_option maxRecDepth 100000 in
set_option maxHeartbeats 4000000 in
theorem nd_X4_toneFromTop_L7 (G : xCx Γ p l s m args meth c RX4 cX4_toneFromTop 4 (some .int)) (hno : ∀ x ∈ c.exceptionTable.toList, False) : ∀ (n : Nat) (a0 : Nat) (x1 : Int32) (x2 : Int32) (w0 : xW), f_X4_toneFromTop_L7 n a0 x1 x2 w0 = some (rF, wF) → xAW Γ p l e (xRm 3 (x_mc rF) (x_ms rF)) s m args below meth c 4 (xQm Γ below xI rF wF args s (x_mc rF) (x_ms rF)) w0 0 0 7 [(0, .ref a0), (1, .int x1), (2, .int x2)] [] := by
  intro n
  induction n with
  | zero =>
    intro a0 x1 x2 w0 hyp
    cases (show (none : xO Int32) = some (rF, wF) from hyp)
  | succ n ih =>
    intro a0 x1 x2 w0 hyp
    rw [f_X4_toneFromTop_L7] at hyp
    refine r_iload_n G 2 dX4_toneFromTop_7 rfl rfl ?_
    refine r_if_lt G 42 dX4_toneFromTop_8 (by decide) hyp (fun c2 hyp => ?_) (fun c2 hyp => ?_)
    · refine r_aload_n G 0 dX4_toneFromTop_42 rfl rfl ?_
      refine r_iconst (v := 0) G dX4_toneFromTop_43 (by decide) ?_
      refine r_iload_n G 1 dX4_toneFromTop_44 rfl rfl ?_
      obtain ⟨o5, hyp⟩ := x_chk hyp
      refine r_callV (ι := xI) (T := TX4) (N := 4) (ci := 4) (b := a0) (rest := []) (As := [.int 0, .int x1]) G hno tg_X4_toneFrom (fun r w' h => ct_X4_toneFrom (xhl G) _ _ _ _ r w' h) o5 hyp rfl ww_420 ww_153 ww_152 (by decide) (by decide) rfl rfl (xroom (Nat.le_of_ble_eq_true rfl)) dX4_toneFromTop_45 (push := (fun r4 => [.int r4])) (fun _ => rfl) (fun r4 w3 hyp => ?_)
      exact r_iret G hyp rfl (Nat.zero_le _) (Nat.zero_le _) dX4_toneFromTop_48
    · refine r_aload_n G 0 dX4_toneFromTop_11 rfl rfl ?_
      refine r_iload_n G 2 dX4_toneFromTop_12 rfl rfl ?_
      obtain ⟨o8, hyp⟩ := x_chk hyp
      refine r_callV (ι := xQ) (T := TX4) (N := 4) (ci := 4) (b := a0) (rest := []) (As := [.int x2]) G hno tg_X4_at (fun r w' h => ct_X4_at (xhl G) _ _ _ r w' h) o8 hyp rfl ww_99 ww_101 ww_100 (by decide) (by decide) rfl rfl (xroom (Nat.le_of_ble_eq_true rfl)) dX4_toneFromTop_13 (push := (fun r7 => [va_rf r7])) (fun _ => rfl) (fun r7 w6 hyp => ?_)
      refine r_astore_nq (lv' := [(3, va_rf r7), (0, .ref a0), (1, .int x1), (2, .int x2)]) G dX4_toneFromTop_16 rfl (by decide) ⟨fun _ => rfl, fun _ => rfl, fun _ => rfl, trivial⟩ rfl ?_
      refine r_aload_nq G 0 dX4_toneFromTop_17 rfl rfl ?_
      refine r_ifnull G 36 dX4_toneFromTop_18 (by decide) hyp (fun hyp => ?_) (fun a9 ha9 hz => ?_)
      · refine r_iinc (v := (x2 + (-1))) (lv' := [(2, .int (x2 + (-1))), (3, va_rf r7), (0, .ref a0), (1, .int x1)]) G 3 dX4_toneFromTop_36 rfl rfl (by decide) ⟨fun _ => xcq _, fun _ => rfl, fun _ => rfl, fun _ => rfl, trivial⟩ rfl ?_
        refine r_goto G 7 dX4_toneFromTop_39 (by decide) ?_
        refine r_weak (lv' := [(0, .ref a0), (1, .int x1), (2, .int (x2 + (-1)))]) [2, 3, 0] rfl ?_
        exact ih a0 x1 (x2 + (-1)) w6 hyp
      · clear hyp; subst ha9; have hyp := hz; clear hz
        refine r_aload_n G 0 dX4_toneFromTop_21 rfl rfl ?_
        refine r_iload_n G 2 dX4_toneFromTop_22 rfl rfl ?_
        obtain ⟨o12, hyp⟩ := x_chk hyp
        refine r_callV (ι := xI) (T := TX3) (N := 3) (ci := 3) (b := a9) (rest := []) (As := [.int x1]) G hno tg_X3_hides (fun r w' h => ct_X3_hides (xhl G) _ _ _ r w' h) o12 hyp rfl ww_421 ww_423 ww_422 (by decide) (by decide) rfl rfl (xroom (Nat.le_of_ble_eq_true rfl)) dX4_toneFromTop_23 (push := (fun r11 => [.int r11])) (fun _ => rfl) (fun r11 w10 hyp => ?_)
        refine r_if_eq G 36 dX4_toneFromTop_26 (by decide) hyp (fun c13 hyp => ?_) (fun c13 hyp => ?_)
        · refine r_iinc (v := (x2 + (-1))) (lv' := [(2, .int (x2 + (-1))), (3, .ref a9), (0, .ref a0), (1, .int x1)]) G 3 dX4_toneFromTop_36 rfl rfl (by decide) ⟨fun _ => rfl, fun _ => rfl, fun _ => rfl, fun _ => rfl, trivial⟩ rfl ?_
          refine r_goto G 7 dX4_toneFromTop_39 (by decide) ?_
          refine r_weak (lv' := [(0, .ref a0), (1, .int x1), (2, .int (x2 + (-1)))]) [2, 3, 0] rfl ?_
          exact ih a0 x1 (x2 + (-1)) w10 hyp
        · refine r_aload_n G 1 dX4_toneFromTop_29 rfl rfl ?_
          refine r_iload_n G 3 dX4_toneFromTop_30 rfl rfl ?_
          refine r_iload_n G 2 dX4_toneFromTop_31 rfl rfl ?_
          obtain ⟨o16, hyp⟩ := x_chk hyp
          refine r_callV (ι := xI) (T := TX4) (N := 4) (ci := 4) (b := a0) (rest := []) (As := [.int x2, .int x1]) G hno tg_X4_toneFrom (fun r w' h => ct_X4_toneFrom (xhl G) _ _ _ _ r w' h) o16 hyp rfl ww_420 ww_153 ww_152 (by decide) (by decide) rfl rfl (xroom (Nat.le_of_ble_eq_true rfl)) dX4_toneFromTop_32 (push := (fun r15 => [.int r15])) (fun _ => rfl) (fun r15 w14 hyp => ?_)
          exact r_iret G hyp rfl (Nat.zero_le _) (Nat.zero_le _) dX4_toneFromTop_35
end
set_option maxRecDepth 100000 in
set_option maxHeartbeats 4000000 in
theorem ct_X4_toneFromTop {Γ : xG} {l : Launch} (hl : l.stackTraces = false) (a0 : Nat) (x1 : Int32) (w0 : xW) (rF : Int32 ⊕ String) (wF : xW) (hyp : f_X4_toneFromTop a0 x1 w0 = some (rF, wF)) : xMet Γ l yX4_toneFromTop (xws yX4_toneFromTop cX4_toneFromTop 4 (some .int)) 3 xI [.ref a0, .int x1] w0 rF wF (x_mc rF) (x_ms rF) := by
  refine xOfW tg_X4_toneFromTop hl (lv0 := [(0, .ref a0), (1, .int x1)]) (Nat.le_of_ble_eq_true rfl) rfl ?_
  intro p e s m below meth c G hno hin
  rw [f_X4_toneFromTop] at hyp
  refine r_aload_n G 0 dX4_toneFromTop_0 rfl rfl ?_
  obtain ⟨v1, hv1, hyp⟩ := x_some hyp
  refine r_getv (C := RX4) (T := TX4) (N := 4) (ci := 4) G 1 (x_geti_e hv1) rfl uw_4 (Nat.le_of_ble_eq_true rfl) rfl ww_32 dX4_toneFromTop_1 ?_
  refine r_iconst (v := 1) G dX4_toneFromTop_4 (by decide) ?_
  refine r_isub G dX4_toneFromTop_5 ?_
  refine r_istore_n (lv' := [(2, .int (v1 - 1)), (0, .ref a0), (1, .int x1)]) G dX4_toneFromTop_6 rfl (by decide) ⟨fun _ => rfl, fun _ => rfl, trivial⟩ rfl ?_
  refine r_weak (lv' := [(0, .ref a0), (1, .int x1), (2, .int (v1 - 1))]) [1, 2, 0] rfl ?_
  exact nd_X4_toneFromTop_L7 G hno xfuel a0 x1 (v1 - 1) w0 hyp
