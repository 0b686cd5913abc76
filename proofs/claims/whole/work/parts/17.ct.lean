theorem tg_X7_ends : xTgt yX7_ends cX7_ends 2 (some .int) 1 := ⟨ww_602, ww_574, by decide, by decide +kernel, by decide +kernel⟩
section
variable {Γ : xG} {p : Program} {l : Launch} {e : Env} {s : State} {m : MethodId} {args : Array Value} {below : List Frame} {meth : Method} {c : Code} {rF : Int32 ⊕ String} {wF : xW}
end
set_option maxRecDepth 100000 in
set_option maxHeartbeats 4000000 in
theorem ct_X7_ends {Γ : xG} {l : Launch} (hl : l.stackTraces = false) (a0 : Nat) (x1 : Int32) (w0 : xW) (rF : Int32 ⊕ String) (wF : xW) (hyp : f_X7_ends a0 x1 w0 = some (rF, wF)) : xMet Γ l yX7_ends (xws yX7_ends cX7_ends 2 (some .int)) 1 xI [.ref a0, .int x1] w0 rF wF (x_mc rF) (x_ms rF) := by
  refine xOfW tg_X7_ends hl (lv0 := [(0, .ref a0), (1, .int x1)]) (Nat.le_of_ble_eq_true rfl) rfl ?_
  intro p e s m below meth c G hno hin
  rw [f_X7_ends] at hyp
  refine r_iload_n G 1 dX7_ends_0 rfl rfl ?_
  refine r_if_ne G 15 dX7_ends_1 (by decide) hyp (fun c1 hyp => ?_) (fun c1 hyp => ?_)
  · refine r_aload_n G 0 dX7_ends_15 rfl rfl ?_
    refine r_iload_n G 1 dX7_ends_16 rfl rfl ?_
    obtain ⟨o4, hyp⟩ := x_chk hyp
    refine r_callV (ι := xI) (T := TX7) (N := 22) (ci := 7) (b := a0) (rest := []) (As := [.int x1]) G hno tg_X7_fails (fun r w' h => ct_X7_fails (xhl G) _ _ _ r w' h) o4 hyp rfl ww_596 ww_598 ww_597 (by decide) (by decide) rfl rfl (xroom (Nat.le_of_ble_eq_true rfl)) dX7_ends_17 (push := (fun r3 => [.int r3])) (fun _ => rfl) (fun r3 w2 hyp => ?_)
    exact r_iret G hyp rfl (Nat.zero_le _) (Nat.zero_le _) dX7_ends_20
  · refine r_aload_n G 0 dX7_ends_4 rfl rfl ?_
    refine r_aload_n G 0 dX7_ends_5 rfl rfl ?_
    obtain ⟨v5, hv5, hyp⟩ := x_some hyp
    refine r_getv (C := RX7) (T := TX7) (N := 22) (ci := 7) G 17 (x_geti_e hv5) rfl uw_7 (Nat.le_of_ble_eq_true rfl) rfl ww_580 dX7_ends_6 ?_
    obtain ⟨o8, hyp⟩ := x_chk hyp
    refine r_callV (ι := xI) (T := TX7) (N := 22) (ci := 7) (b := a0) (rest := []) (As := [.int v5]) G hno tg_X7_changed (fun r w' h => ct_X7_changed (xhl G) _ _ _ r w' h) o8 hyp rfl ww_599 ww_601 ww_600 (by decide) (by decide) rfl rfl (xroom (Nat.le_of_ble_eq_true rfl)) dX7_ends_9 (push := (fun r7 => [.int r7])) (fun _ => rfl) (fun r7 w6 hyp => ?_)
    refine r_goto G 20 dX7_ends_12 (by decide) ?_
    exact r_iret G hyp rfl (Nat.zero_le _) (Nat.zero_le _) dX7_ends_20
theorem tg_X7_remembers : xTgt yX7_remembers cX7_remembers 2 none 0 := ⟨ww_603, ww_574, by decide, by decide +kernel, by decide +kernel⟩
section
variable {Γ : xG} {p : Program} {l : Launch} {e : Env} {s : State} {m : MethodId} {args : Array Value} {below : List Frame} {meth : Method} {c : Code} {rF : Unit ⊕ String} {wF : xW}
set_option maxRecDepth 100000 in
set_option maxHeartbeats 4000000 in
theorem nd_X7_remembers_L7 (G : xCx Γ p l s m args meth c RX7 cX7_remembers 2 none) (hno : ∀ x ∈ c.exceptionTable.toList, False) : ∀ (n : Nat) (a0 : Nat) (x1 : Int32) (w0 : xW), f_X7_remembers_L7 n a0 x1 w0 = some (rF, wF) → xAW Γ p l e (xRm 0 (x_mc rF) (x_ms rF)) s m args below meth c 2 (xQm Γ below xV rF wF args s (x_mc rF) (x_ms rF)) w0 0 0 7 [(0, .ref a0), (1, .int x1)] [] := by
  intro n
  induction n with
  | zero =>
    intro a0 x1 w0 hyp
    cases (show (none : xO Unit) = some (rF, wF) from hyp)
  | succ n ih =>
    intro a0 x1 w0 hyp
    rw [f_X7_remembers_L7] at hyp
    refine r_iload_n G 1 dX7_remembers_7 rfl rfl ?_
    refine r_sipush (v := 303) G dX7_remembers_8 (by decide) ?_
    refine r_icmp_ge G 32 dX7_remembers_11 (by decide) hyp (fun c2 hyp => ?_) (fun c2 hyp => ?_)
    · exact r_vret G hyp (Nat.zero_le _) (Nat.zero_le _) dX7_remembers_32
    · refine r_aload_n G 0 dX7_remembers_14 rfl rfl ?_
      obtain ⟨v3, hv3, hyp⟩ := x_some hyp
      refine r_getv (C := RX7) (T := TX7) (N := 22) (ci := 7) G 2 (x_getr_e hv3) rfl uw_7 (Nat.le_of_ble_eq_true rfl) rfl ww_562 dX7_remembers_15 ?_
      refine r_iload_n G 1 dX7_remembers_18 rfl rfl ?_
      refine r_aload_n G 0 dX7_remembers_19 rfl rfl ?_
      obtain ⟨v4, hv4, hyp⟩ := x_some hyp
      refine r_getv (C := RX7) (T := TX7) (N := 22) (ci := 7) G 1 (x_getr_e hv4) rfl uw_7 (Nat.le_of_ble_eq_true rfl) rfl ww_561 dX7_remembers_20 ?_
      refine r_iload_n G 1 dX7_remembers_23 rfl rfl ?_
      refine r_ref hyp (fun a5 ha5 hz => ?_)
      clear hyp; subst ha5; have hyp := hz; clear hz
      obtain ⟨v6, hv6, hyp⟩ := x_some hyp
      refine r_iald G hv6 dX7_remembers_24 ?_
      refine r_ref hyp (fun a7 ha7 hz => ?_)
      clear hyp; subst ha7; have hyp := hz; clear hz
      obtain ⟨w8, hw8, hyp⟩ := x_some hyp
      refine r_iast G hw8 dX7_remembers_25 ?_
      refine r_iinc (v := (x1 + 1)) (lv' := [(1, .int (x1 + 1)), (0, .ref a0)]) G 1 dX7_remembers_26 rfl rfl (by decide) ⟨fun _ => rfl, fun _ => rfl, trivial⟩ rfl ?_
      refine r_goto G 7 dX7_remembers_29 (by decide) ?_
      refine r_weak (lv' := [(0, .ref a0), (1, .int (x1 + 1))]) [1, 0] rfl ?_
      exact ih a0 (x1 + 1) w8 hyp
end
set_option maxRecDepth 100000 in
set_option maxHeartbeats 4000000 in
theorem ct_X7_remembers {Γ : xG} {l : Launch} (hl : l.stackTraces = false) (a0 : Nat) (w0 : xW) (rF : Unit ⊕ String) (wF : xW) (hyp : f_X7_remembers a0 w0 = some (rF, wF)) : xMet Γ l yX7_remembers (xws yX7_remembers cX7_remembers 2 none) 0 xV [.ref a0] w0 rF wF (x_mc rF) (x_ms rF) := by
  refine xOfW tg_X7_remembers hl (lv0 := [(0, .ref a0)]) (Nat.le_of_ble_eq_true rfl) rfl ?_
  intro p e s m below meth c G hno hin
  rw [f_X7_remembers] at hyp
  refine r_aload_n G 0 dX7_remembers_0 rfl rfl ?_
  refine r_iconst (v := 0) G dX7_remembers_1 (by decide) ?_
  obtain ⟨w1, hw1, hyp⟩ := x_some hyp
  refine r_putv (C := RX7) (T := TX7) (N := 22) (ci := 7) G tyX7 tyX7_ok nmX7 0 hw1 rfl uw_7 (Nat.le_of_ble_eq_true rfl) rfl ww_594 rfl rfl rfl dX7_remembers_2 ?_
  refine r_iconst (v := 0) G dX7_remembers_5 (by decide) ?_
  refine r_istore_n (lv' := [(1, .int 0), (0, .ref a0)]) G dX7_remembers_6 rfl (by decide) ⟨fun _ => rfl, trivial⟩ rfl ?_
  refine r_weak (lv' := [(0, .ref a0), (1, .int 0)]) [1, 0] rfl ?_
  exact nd_X7_remembers_L7 G hno xfuel a0 0 w1 hyp
theorem tg_X7_addLayer : xTgt yX7_addLayer cX7_addLayer 2 (some .int) 1 := ⟨ww_613, ww_574, by decide, by decide +kernel, by decide +kernel⟩
section
variable {Γ : xG} {p : Program} {l : Launch} {e : Env} {s : State} {m : MethodId} {args : Array Value} {below : List Frame} {meth : Method} {c : Code} {rF : Int32 ⊕ String} {wF : xW}
end
set_option maxRecDepth 100000 in
set_option maxHeartbeats 4000000 in
theorem ct_X7_addLayer {Γ : xG} {l : Launch} (hl : l.stackTraces = false) (a0 : Nat) (x1 : Int32) (w0 : xW) (rF : Int32 ⊕ String) (wF : xW) (hyp : f_X7_addLayer a0 x1 w0 = some (rF, wF)) : xMet Γ l yX7_addLayer (xws yX7_addLayer cX7_addLayer 2 (some .int)) 3 xI [.ref a0, .int x1] w0 rF wF (x_mc rF) (x_ms rF) := by
  refine xOfW tg_X7_addLayer hl (lv0 := [(0, .ref a0), (1, .int x1)]) (Nat.le_of_ble_eq_true rfl) rfl ?_
  intro p e s m below meth c G hno hin
  rw [f_X7_addLayer] at hyp
  refine r_aload_n G 0 dX7_addLayer_0 rfl rfl ?_
  obtain ⟨o3, hyp⟩ := x_chk hyp
  refine r_callV (ι := xV) (T := TX7) (N := 22) (ci := 7) (b := a0) (rest := []) (As := []) G hno tg_X7_remembers (fun r w' h => ct_X7_remembers (xhl G) _ _ r w' h) o3 hyp rfl ww_604 ww_606 ww_605 (by decide) (by decide) rfl rfl (xroom (Nat.le_of_ble_eq_true rfl)) dX7_addLayer_1 (push := (fun _ => [])) (fun _ => rfl) (fun _ w1 hyp => ?_)
  refine r_aload_n G 0 dX7_addLayer_4 rfl rfl ?_
  refine r_aload_n G 0 dX7_addLayer_5 rfl rfl ?_
  refine r_iload_n G 1 dX7_addLayer_6 rfl rfl ?_
  obtain ⟨o6, hyp⟩ := x_chk hyp
  refine r_callV (ι := xI) (T := TX7) (N := 22) (ci := 7) (b := a0) (rest := [.ref a0]) (As := [.int x1]) G hno tg_X7_adds (fun r w' h => ct_X7_adds (xhl G) _ _ _ r w' h) o6 hyp rfl ww_607 ww_609 ww_608 (by decide) (by decide) rfl rfl (xroom (Nat.le_of_ble_eq_true rfl)) dX7_addLayer_7 (push := (fun r5 => [.int r5, .ref a0])) (fun _ => rfl) (fun r5 w4 hyp => ?_)
  obtain ⟨o9, hyp⟩ := x_chk hyp
  refine r_callV (ι := xI) (T := TX7) (N := 22) (ci := 7) (b := a0) (rest := []) (As := [.int r5]) G hno tg_X7_ends (fun r w' h => ct_X7_ends (xhl G) _ _ _ r w' h) o9 hyp rfl ww_610 ww_612 ww_611 (by decide) (by decide) rfl rfl (xroom (Nat.le_of_ble_eq_true rfl)) dX7_addLayer_10 (push := (fun r8 => [.int r8])) (fun _ => rfl) (fun r8 w7 hyp => ?_)
  exact r_iret G hyp rfl (Nat.zero_le _) (Nat.zero_le _) dX7_addLayer_13
theorem tg_X7_at : xTgt yX7_at cX7_at 3 (some .int) 2 := ⟨ww_614, ww_574, by decide, by decide +kernel, by decide +kernel⟩
section
variable {Γ : xG} {p : Program} {l : Launch} {e : Env} {s : State} {m : MethodId} {args : Array Value} {below : List Frame} {meth : Method} {c : Code} {rF : Int32 ⊕ String} {wF : xW}
end
set_option maxRecDepth 100000 in
set_option maxHeartbeats 4000000 in
theorem ct_X7_at {Γ : xG} {l : Launch} (hl : l.stackTraces = false) (a0 : Nat) (x1 : Int32) (x2 : Int32) (w0 : xW) (rF : Int32 ⊕ String) (wF : xW) (hyp : f_X7_at a0 x1 x2 w0 = some (rF, wF)) : xMet Γ l yX7_at (xws yX7_at cX7_at 3 (some .int)) 0 xI [.ref a0, .int x1, .int x2] w0 rF wF (x_mc rF) (x_ms rF) := by
  refine xOfW tg_X7_at hl (lv0 := [(0, .ref a0), (1, .int x1), (2, .int x2)]) (Nat.le_of_ble_eq_true rfl) rfl ?_
  intro p e s m below meth c G hno hin
  rw [f_X7_at] at hyp
  refine r_aload_n G 0 dX7_at_0 rfl rfl ?_
  obtain ⟨v1, hv1, hyp⟩ := x_some hyp
  refine r_getv (C := RX7) (T := TX7) (N := 22) (ci := 7) G 1 (x_getr_e hv1) rfl uw_7 (Nat.le_of_ble_eq_true rfl) rfl ww_561 dX7_at_1 ?_
  refine r_iconst (v := 3) G dX7_at_4 (by decide) ?_
  refine r_bipush (v := 50) G dX7_at_5 (by decide) ?_
  refine r_iload_n G 1 dX7_at_7 rfl rfl ?_
  refine r_imul G dX7_at_8 ?_
  refine r_iadd G dX7_at_9 ?_
  refine r_iconst (v := 2) G dX7_at_10 (by decide) ?_
  refine r_iadd G dX7_at_11 ?_
  refine r_iload_n G 2 dX7_at_12 rfl rfl ?_
  refine r_iadd G dX7_at_13 ?_
  refine r_ref hyp (fun a2 ha2 hz => ?_)
  clear hyp; subst ha2; have hyp := hz; clear hz
  obtain ⟨v3, hv3, hyp⟩ := x_some hyp
  refine r_iald G hv3 dX7_at_14 ?_
  exact r_iret G hyp rfl (Nat.zero_le _) (Nat.zero_le _) dX7_at_15
theorem tg_X7_blended : xTgt yX7_blended cX7_blended 3 (some .int) 3 := ⟨ww_615, ww_574, by decide, by decide +kernel, by decide +kernel⟩
section
variable {Γ : xG} {p : Program} {l : Launch} {e : Env} {s : State} {m : MethodId} {args : Array Value} {below : List Frame} {meth : Method} {c : Code} {rF : Int32 ⊕ String} {wF : xW}
end
set_option maxRecDepth 100000 in
set_option maxHeartbeats 4000000 in
theorem ct_X7_blended {Γ : xG} {l : Launch} (hl : l.stackTraces = false) (x0 : Int32) (x1 : Int32) (x2 : Int32) (w0 : xW) (rF : Int32 ⊕ String) (wF : xW) (hyp : f_X7_blended x0 x1 x2 w0 = some (rF, wF)) : xMet Γ l yX7_blended (xws yX7_blended cX7_blended 3 (some .int)) 0 xI [.int x0, .int x1, .int x2] w0 rF wF (x_mc rF) (x_ms rF) := by
  refine xOfW tg_X7_blended hl (lv0 := [(0, .int x0), (1, .int x1), (2, .int x2)]) (Nat.le_of_ble_eq_true rfl) rfl ?_
  intro p e s m below meth c G hno hin
  rw [f_X7_blended] at hyp
  refine r_iload_n G 0 dX7_blended_0 rfl rfl ?_
  rcases x_if hyp with ⟨k1, hyp⟩ | ⟨k1, hyp⟩
  · refine r_lkK G 97 k1 97 dX7_blended_1 (by decide) rfl (by decide) ?_
    refine r_iload_n G 1 dX7_blended_97 rfl rfl ?_
    refine r_iload_n G 2 dX7_blended_98 rfl rfl ?_
    refine r_iadd G dX7_blended_99 ?_
    refine r_iconst (v := 2) G dX7_blended_100 (by decide) ?_
    refine r_idiv G dX7_blended_101 (by decide) ?_
    exact r_iret G hyp rfl (Nat.zero_le _) (Nat.zero_le _) dX7_blended_102
  rcases x_if hyp with ⟨k2, hyp⟩ | ⟨k2, hyp⟩
  · refine r_lkK G 100 k2 75 dX7_blended_1 (by decide) rfl (by decide) ?_
    refine r_iload_n G 1 dX7_blended_75 rfl rfl ?_
    refine r_iload_n G 2 dX7_blended_76 rfl rfl ?_
    refine r_icmp_ge G 84 dX7_blended_77 (by decide) hyp (fun c3 hyp => ?_) (fun c3 hyp => ?_)
    · refine r_iload_n G 2 dX7_blended_84 rfl rfl ?_
      exact r_iret G hyp rfl (Nat.zero_le _) (Nat.zero_le _) dX7_blended_85
    · refine r_iload_n G 1 dX7_blended_80 rfl rfl ?_
      refine r_goto G 85 dX7_blended_81 (by decide) ?_
      exact r_iret G hyp rfl (Nat.zero_le _) (Nat.zero_le _) dX7_blended_85
  rcases x_if hyp with ⟨k4, hyp⟩ | ⟨k4, hyp⟩
  · refine r_lkK G 108 k4 86 dX7_blended_1 (by decide) rfl (by decide) ?_
    refine r_iload_n G 1 dX7_blended_86 rfl rfl ?_
    refine r_iload_n G 2 dX7_blended_87 rfl rfl ?_
    refine r_icmp_le G 95 dX7_blended_88 (by decide) hyp (fun c5 hyp => ?_) (fun c5 hyp => ?_)
    · refine r_iload_n G 2 dX7_blended_95 rfl rfl ?_
      exact r_iret G hyp rfl (Nat.zero_le _) (Nat.zero_le _) dX7_blended_96
    · refine r_iload_n G 1 dX7_blended_91 rfl rfl ?_
      refine r_goto G 96 dX7_blended_92 (by decide) ?_
      exact r_iret G hyp rfl (Nat.zero_le _) (Nat.zero_le _) dX7_blended_96
  rcases x_if hyp with ⟨k6, hyp⟩ | ⟨k6, hyp⟩
  · refine r_lkK G 109 k6 52 dX7_blended_1 (by decide) rfl (by decide) ?_
    refine r_iload_n G 1 dX7_blended_52 rfl rfl ?_
    refine r_iload_n G 2 dX7_blended_53 rfl rfl ?_
    refine r_imul G dX7_blended_54 ?_
    refine r_bipush (v := 15) G dX7_blended_55 (by decide) ?_
    refine r_idiv G dX7_blended_57 (by decide) ?_
    exact r_iret G hyp rfl (Nat.zero_le _) (Nat.zero_le _) dX7_blended_58
  rcases x_if hyp with ⟨k7, hyp⟩ | ⟨k7, hyp⟩
  · refine r_lkK G 115 k7 59 dX7_blended_1 (by decide) rfl (by decide) ?_
    refine r_bipush (v := 15) G dX7_blended_59 (by decide) ?_
    refine r_bipush (v := 15) G dX7_blended_61 (by decide) ?_
    refine r_iload_n G 1 dX7_blended_63 rfl rfl ?_
    refine r_isub G dX7_blended_64 ?_
    refine r_bipush (v := 15) G dX7_blended_65 (by decide) ?_
    refine r_iload_n G 2 dX7_blended_67 rfl rfl ?_
    refine r_isub G dX7_blended_68 ?_
    refine r_imul G dX7_blended_69 ?_
    refine r_bipush (v := 15) G dX7_blended_70 (by decide) ?_
    refine r_idiv G dX7_blended_72 (by decide) ?_
    refine r_isub G dX7_blended_73 ?_
    exact r_iret G hyp rfl (Nat.zero_le _) (Nat.zero_le _) dX7_blended_74
  refine r_lkD G [97, 100, 108, 109, 115] (by intro k hk; simp only [List.mem_cons, List.not_mem_nil, or_false] at hk; rcases hk with rfl | rfl | rfl | rfl | rfl <;> assumption) 103 dX7_blended_1 (by decide) (by decide) (by decide) ?_
  refine r_iload_n G 2 dX7_blended_103 rfl rfl ?_
  exact r_iret G hyp rfl (Nat.zero_le _) (Nat.zero_le _) dX7_blended_104
theorem tg_X7_mode0 : xTgt yX7_mode0 cX7_mode0 2 (some .int) 1 := ⟨ww_616, ww_574, by decide, by decide +kernel, by decide +kernel⟩
section
variable {Γ : xG} {p : Program} {l : Launch} {e : Env} {s : State} {m : MethodId} {args : Array Value} {below : List Frame} {meth : Method} {c : Code} {rF : Int32 ⊕ String} {wF : xW}
end
set_option maxRecDepth 100000 in
set_option maxHeartbeats 4000000 in
theorem ct_X7_mode0 {Γ : xG} {l : Launch} (hl : l.stackTraces = false) (a0 : Nat) (x1 : Int32) (w0 : xW) (rF : Int32 ⊕ String) (wF : xW) (hyp : f_X7_mode0 a0 x1 w0 = some (rF, wF)) : xMet Γ l yX7_mode0 (xws yX7_mode0 cX7_mode0 2 (some .int)) 0 xI [.ref a0, .int x1] w0 rF wF (x_mc rF) (x_ms rF) := by
  refine xOfW tg_X7_mode0 hl (lv0 := [(0, .ref a0), (1, .int x1)]) (Nat.le_of_ble_eq_true rfl) rfl ?_
  intro p e s m below meth c G hno hin
  rw [f_X7_mode0] at hyp
  refine r_aload_n G 0 dX7_mode0_0 rfl rfl ?_
  obtain ⟨v1, hv1, hyp⟩ := x_some hyp
  refine r_getv (C := RX7) (T := TX7) (N := 22) (ci := 7) G 1 (x_getr_e hv1) rfl uw_7 (Nat.le_of_ble_eq_true rfl) rfl ww_561 dX7_mode0_1 ?_
  refine r_iconst (v := 3) G dX7_mode0_4 (by decide) ?_
  refine r_bipush (v := 50) G dX7_mode0_5 (by decide) ?_
  refine r_iload_n G 1 dX7_mode0_7 rfl rfl ?_
  refine r_imul G dX7_mode0_8 ?_
  refine r_iadd G dX7_mode0_9 ?_
  refine r_ref hyp (fun a2 ha2 hz => ?_)
  clear hyp; subst ha2; have hyp := hz; clear hz
  obtain ⟨v3, hv3, hyp⟩ := x_some hyp
  refine r_iald G hv3 dX7_mode0_10 ?_
  exact r_iret G hyp rfl (Nat.zero_le _) (Nat.zero_le _) dX7_mode0_11
theorem tg_X7_shown : xTgt yX7_shown cX7_shown 2 (some .boolean) 1 := ⟨ww_617, ww_574, by decide, by decide +kernel, by decide +kernel⟩
section
variable {Γ : xG} {p : Program} {l : Launch} {e : Env} {s : State} {m : MethodId} {args : Array Value} {below : List Frame} {meth : Method} {c : Code} {rF : Int32 ⊕ String} {wF : xW}
end
set_option maxRecDepth 100000 in
set_option maxHeartbeats 4000000 in
theorem ct_X7_shown {Γ : xG} {l : Launch} (hl : l.stackTraces = false) (a0 : Nat) (x1 : Int32) (w0 : xW) (rF : Int32 ⊕ String) (wF : xW) (hyp : f_X7_shown a0 x1 w0 = some (rF, wF)) : xMet Γ l yX7_shown (xws yX7_shown cX7_shown 2 (some .boolean)) 0 xI [.ref a0, .int x1] w0 rF wF (x_mc rF) (x_ms rF) := by
  refine xOfW tg_X7_shown hl (lv0 := [(0, .ref a0), (1, .int x1)]) (Nat.le_of_ble_eq_true rfl) rfl ?_
  intro p e s m below meth c G hno hin
  rw [f_X7_shown] at hyp
  refine r_aload_n G 0 dX7_shown_0 rfl rfl ?_
  obtain ⟨v1, hv1, hyp⟩ := x_some hyp
  refine r_getv (C := RX7) (T := TX7) (N := 22) (ci := 7) G 1 (x_getr_e hv1) rfl uw_7 (Nat.le_of_ble_eq_true rfl) rfl ww_561 dX7_shown_1 ?_
  refine r_iconst (v := 3) G dX7_shown_4 (by decide) ?_
  refine r_bipush (v := 50) G dX7_shown_5 (by decide) ?_
  refine r_iload_n G 1 dX7_shown_7 rfl rfl ?_
  refine r_imul G dX7_shown_8 ?_
  refine r_iadd G dX7_shown_9 ?_
  refine r_iconst (v := 1) G dX7_shown_10 (by decide) ?_
  refine r_iadd G dX7_shown_11 ?_
  refine r_ref hyp (fun a2 ha2 hz => ?_)
  clear hyp; subst ha2; have hyp := hz; clear hz
  obtain ⟨v3, hv3, hyp⟩ := x_some hyp
  refine r_iald G hv3 dX7_shown_12 ?_
  refine r_iconst (v := 1) G dX7_shown_13 (by decide) ?_
  refine r_icmp_ne G 21 dX7_shown_14 (by decide) hyp (fun c4 hyp => ?_) (fun c4 hyp => ?_)
  · refine r_iconst (v := 0) G dX7_shown_21 (by decide) ?_
    exact r_iret G hyp (by decide) (Nat.zero_le _) (Nat.zero_le _) dX7_shown_22
  · refine r_iconst (v := 1) G dX7_shown_17 (by decide) ?_
    refine r_goto G 22 dX7_shown_18 (by decide) ?_
    exact r_iret G hyp (by decide) (Nat.zero_le _) (Nat.zero_le _) dX7_shown_22
theorem tg_X7_look : xTgt yX7_look cX7_look 4 (some .int) 1 := ⟨ww_629, ww_574, by decide, by decide +kernel, by decide +kernel⟩
section
variable {Γ : xG} {p : Program} {l : Launch} {e : Env} {s : State} {m : MethodId} {args : Array Value} {below : List Frame} {meth : Method} {c : Code} {rF : Int32 ⊕ String} {wF : xW}
set_option maxRecDepth 100000 in
set_option maxHeartbeats 4000000 in
theorem nd_X7_look_L5 (G : xCx Γ p l s m args meth c RX7 cX7_look 4 (some .int)) (hno : ∀ x ∈ c.exceptionTable.toList, False) : ∀ (n : Nat) (a0 : Nat) (x1 : Int32) (x2 : Int32) (x3 : Int32) (w0 : xW), f_X7_look_L5 n a0 x1 x2 x3 w0 = some (rF, wF) → xAW Γ p l e (xRm 1 (x_mc rF) (x_ms rF)) s m args below meth c 4 (xQm Γ below xI rF wF args s (x_mc rF) (x_ms rF)) w0 0 0 5 [(0, .ref a0), (1, .int x1), (2, .int x2), (3, .int x3)] [] := by
  intro n
  induction n with
  | zero =>
    intro a0 x1 x2 x3 w0 hyp
    cases (show (none : xO Int32) = some (rF, wF) from hyp)
  | succ n ih =>
    intro a0 x1 x2 x3 w0 hyp
    rw [f_X7_look_L5] at hyp
    refine r_iload_n G 3 dX7_look_5 rfl rfl ?_
    refine r_aload_n G 0 dX7_look_6 rfl rfl ?_
    obtain ⟨v1, hv1, hyp⟩ := x_some hyp
    refine r_getv (C := RX7) (T := TX7) (N := 22) (ci := 7) G 1 (x_getr_e hv1) rfl uw_7 (Nat.le_of_ble_eq_true rfl) rfl ww_561 dX7_look_7 ?_
    refine r_iconst (v := 0) G dX7_look_10 (by decide) ?_
    refine r_ref hyp (fun a2 ha2 hz => ?_)
    clear hyp; subst ha2; have hyp := hz; clear hz
    obtain ⟨v3, hv3, hyp⟩ := x_some hyp
    refine r_iald G hv3 dX7_look_11 ?_
    refine r_icmp_ge G 56 dX7_look_12 (by decide) hyp (fun c4 hyp => ?_) (fun c4 hyp => ?_)
    · refine r_iload_n G 2 dX7_look_56 rfl rfl ?_
      exact r_iret G hyp rfl (Nat.zero_le _) (Nat.zero_le _) dX7_look_57
    · refine r_aload_n G 0 dX7_look_15 rfl rfl ?_
      refine r_iload_n G 3 dX7_look_16 rfl rfl ?_
      obtain ⟨o7, hyp⟩ := x_chk hyp
      refine r_callV (ι := xI) (T := TX7) (N := 22) (ci := 7) (b := a0) (rest := []) (As := [.int x3]) G hno tg_X7_shown (fun r w' h => ct_X7_shown (xhl G) _ _ _ r w' h) o7 hyp rfl ww_618 ww_620 ww_619 (by decide) (by decide) rfl rfl (xroom (Nat.le_of_ble_eq_true rfl)) dX7_look_17 (push := (fun r6 => [.int r6])) (fun _ => rfl) (fun r6 w5 hyp => ?_)
      refine r_if_eq G 50 dX7_look_20 (by decide) hyp (fun c8 hyp => ?_) (fun c8 hyp => ?_)
      · refine r_iinc (v := (x3 + 1)) (lv' := [(3, .int (x3 + 1)), (0, .ref a0), (1, .int x1), (2, .int x2)]) G 3 dX7_look_50 rfl rfl (by decide) ⟨fun _ => rfl, fun _ => rfl, fun _ => rfl, fun _ => rfl, trivial⟩ rfl ?_
        refine r_goto G 5 dX7_look_53 (by decide) ?_
        refine r_weak (lv' := [(0, .ref a0), (1, .int x1), (2, .int x2), (3, .int (x3 + 1))]) [1, 2, 3, 0] rfl ?_
        exact ih a0 x1 x2 (x3 + 1) w5 hyp
      · refine r_aload_n G 0 dX7_look_23 rfl rfl ?_
        refine r_iload_n G 3 dX7_look_24 rfl rfl ?_
        refine r_iload_n G 1 dX7_look_25 rfl rfl ?_
        obtain ⟨o11, hyp⟩ := x_chk hyp
        refine r_callV (ι := xI) (T := TX7) (N := 22) (ci := 7) (b := a0) (rest := []) (As := [.int x3, .int x1]) G hno tg_X7_at (fun r w' h => ct_X7_at (xhl G) _ _ _ _ r w' h) o11 hyp rfl ww_621 ww_623 ww_622 (by decide) (by decide) rfl rfl (xroom (Nat.le_of_ble_eq_true rfl)) dX7_look_26 (push := (fun r10 => [.int r10])) (fun _ => rfl) (fun r10 w9 hyp => ?_)
        refine r_if_le G 50 dX7_look_29 (by decide) hyp (fun c12 hyp => ?_) (fun c12 hyp => ?_)
        · refine r_iinc (v := (x3 + 1)) (lv' := [(3, .int (x3 + 1)), (0, .ref a0), (1, .int x1), (2, .int x2)]) G 3 dX7_look_50 rfl rfl (by decide) ⟨fun _ => rfl, fun _ => rfl, fun _ => rfl, fun _ => rfl, trivial⟩ rfl ?_
          refine r_goto G 5 dX7_look_53 (by decide) ?_
          refine r_weak (lv' := [(0, .ref a0), (1, .int x1), (2, .int x2), (3, .int (x3 + 1))]) [1, 2, 3, 0] rfl ?_
          exact ih a0 x1 x2 (x3 + 1) w9 hyp
        · refine r_aload_n G 0 dX7_look_32 rfl rfl ?_
          refine r_iload_n G 3 dX7_look_33 rfl rfl ?_
          obtain ⟨o15, hyp⟩ := x_chk hyp
          refine r_callV (ι := xI) (T := TX7) (N := 22) (ci := 7) (b := a0) (rest := []) (As := [.int x3]) G hno tg_X7_mode0 (fun r w' h => ct_X7_mode0 (xhl G) _ _ _ r w' h) o15 hyp rfl ww_624 ww_626 ww_625 (by decide) (by decide) rfl rfl (xroom (Nat.le_of_ble_eq_true rfl)) dX7_look_34 (push := (fun r14 => [.int r14])) (fun _ => rfl) (fun r14 w13 hyp => ?_)
          refine r_iload_n G 2 dX7_look_37 rfl rfl ?_
          refine r_aload_n G 0 dX7_look_38 rfl rfl ?_
          refine r_iload_n G 3 dX7_look_39 rfl rfl ?_
          refine r_iload_n G 1 dX7_look_40 rfl rfl ?_
          obtain ⟨o18, hyp⟩ := x_chk hyp
          refine r_callV (ι := xI) (T := TX7) (N := 22) (ci := 7) (b := a0) (rest := [.int x2, .int r14]) (As := [.int x3, .int x1]) G hno tg_X7_at (fun r w' h => ct_X7_at (xhl G) _ _ _ _ r w' h) o18 hyp rfl ww_621 ww_623 ww_622 (by decide) (by decide) rfl rfl (xroom (Nat.le_of_ble_eq_true rfl)) dX7_look_41 (push := (fun r17 => [.int r17, .int x2, .int r14])) (fun _ => rfl) (fun r17 w16 hyp => ?_)
          refine r_iconst (v := 1) G dX7_look_44 (by decide) ?_
          refine r_isub G dX7_look_45 ?_
          refine r_callS (ι := xI) (rest := []) (As := [.int r14, .int x2, .int (r17 - 1)]) G hno tg_X7_blended (fun r w' h => ct_X7_blended (xhl G) _ _ _ _ r w' h) hyp ww_627 ww_628 (by decide) (by decide) rfl rfl (xroom (Nat.le_of_ble_eq_true rfl)) dX7_look_46 (push := (fun r20 => [.int r20])) (fun _ => rfl) (fun r20 w19 hyp => ?_)
          refine r_istore_n (lv' := [(2, .int r20), (0, .ref a0), (1, .int x1), (3, .int x3)]) G dX7_look_49 rfl (by decide) ⟨fun _ => rfl, fun _ => rfl, fun _ => rfl, fun _ => rfl, trivial⟩ rfl ?_
          refine r_iinc (v := (x3 + 1)) (lv' := [(3, .int (x3 + 1)), (2, .int r20), (0, .ref a0), (1, .int x1)]) G 3 dX7_look_50 rfl rfl (by decide) ⟨fun _ => rfl, fun _ => rfl, fun _ => rfl, fun _ => rfl, trivial⟩ rfl ?_
          refine r_goto G 5 dX7_look_53 (by decide) ?_
          refine r_weak (lv' := [(0, .ref a0), (1, .int x1), (2, .int r20), (3, .int (x3 + 1))]) [2, 3, 1, 0] rfl ?_
          exact ih a0 x1 r20 (x3 + 1) w19 hyp
end
set_option maxRecDepth 100000 in
set_option maxHeartbeats 4000000 in
theorem ct_X7_look {Γ : xG} {l : Launch} (hl : l.stackTraces = false) (a0 : Nat) (x1 : Int32) (w0 : xW) (rF : Int32 ⊕ String) (wF : xW) (hyp : f_X7_look a0 x1 w0 = some (rF, wF)) : xMet Γ l yX7_look (xws yX7_look cX7_look 4 (some .int)) 1 xI [.ref a0, .int x1] w0 rF wF (x_mc rF) (x_ms rF) := by
  refine xOfW tg_X7_look hl (lv0 := [(0, .ref a0), (1, .int x1)]) (Nat.le_of_ble_eq_true rfl) rfl ?_
  intro p e s m below meth c G hno hin
  rw [f_X7_look] at hyp
  refine r_bipush (v := 15) G dX7_look_0 (by decide) ?_
  refine r_istore_n (lv' := [(2, .int 15), (0, .ref a0), (1, .int x1)]) G dX7_look_2 rfl (by decide) ⟨fun _ => rfl, fun _ => rfl, trivial⟩ rfl ?_
  refine r_iconst (v := 0) G dX7_look_3 (by decide) ?_
  refine r_istore_n (lv' := [(3, .int 0), (2, .int 15), (0, .ref a0), (1, .int x1)]) G dX7_look_4 rfl (by decide) ⟨fun _ => rfl, fun _ => rfl, fun _ => rfl, trivial⟩ rfl ?_
  refine r_weak (lv' := [(0, .ref a0), (1, .int x1), (2, .int 15), (3, .int 0)]) [2, 3, 1, 0] rfl ?_
  exact nd_X7_look_L5 G hno xfuel a0 x1 15 0 w0 hyp
theorem tg_X7_joins : xTgt yX7_joins cX7_joins 4 (some .boolean) 2 := ⟨ww_633, ww_574, by decide, by decide +kernel, by decide +kernel⟩
section
variable {Γ : xG} {p : Program} {l : Launch} {e : Env} {s : State} {m : MethodId} {args : Array Value} {below : List Frame} {meth : Method} {c : Code} {rF : Int32 ⊕ String} {wF : xW}
end
set_option maxRecDepth 100000 in
set_option maxHeartbeats 4000000 in
theorem ct_X7_joins {Γ : xG} {l : Launch} (hl : l.stackTraces = false) (a0 : Nat) (x1 : Int32) (x2 : Int32) (w0 : xW) (rF : Int32 ⊕ String) (wF : xW) (hyp : f_X7_joins a0 x1 x2 w0 = some (rF, wF)) : xMet Γ l yX7_joins (xws yX7_joins cX7_joins 4 (some .boolean)) 2 xI [.ref a0, .int x1, .int x2] w0 rF wF (x_mc rF) (x_ms rF) := by
  refine xOfW tg_X7_joins hl (lv0 := [(0, .ref a0), (1, .int x1), (2, .int x2)]) (Nat.le_of_ble_eq_true rfl) rfl ?_
  intro p e s m below meth c G hno hin
  rw [f_X7_joins] at hyp
  refine r_aload_n G 0 dX7_joins_0 rfl rfl ?_
  obtain ⟨v1, hv1, hyp⟩ := x_some hyp
  refine r_getv (C := RX7) (T := TX7) (N := 22) (ci := 7) G 11 (x_getr_e hv1) rfl uw_7 (Nat.le_of_ble_eq_true rfl) rfl ww_569 dX7_joins_1 ?_
  refine r_iload_n G 1 dX7_joins_4 rfl rfl ?_
  refine r_ref hyp (fun a2 ha2 hz => ?_)
  clear hyp; subst ha2; have hyp := hz; clear hz
  obtain ⟨v3, hv3, hyp⟩ := x_some hyp
  refine r_iald G hv3 dX7_joins_5 ?_
  refine r_aload_n G 0 dX7_joins_6 rfl rfl ?_
  obtain ⟨v4, hv4, hyp⟩ := x_some hyp
  refine r_getv (C := RX7) (T := TX7) (N := 22) (ci := 7) G 11 (x_getr_e hv4) rfl uw_7 (Nat.le_of_ble_eq_true rfl) rfl ww_569 dX7_joins_7 ?_
  refine r_iload_n G 2 dX7_joins_10 rfl rfl ?_
  refine r_ref hyp (fun a5 ha5 hz => ?_)
  clear hyp; subst ha5; have hyp := hz; clear hz
  obtain ⟨v6, hv6, hyp⟩ := x_some hyp
  refine r_iald G hv6 dX7_joins_11 ?_
  refine r_icmp_eq G 28 dX7_joins_12 (by decide) hyp (fun c7 hyp => ?_) (fun c7 hyp => ?_)
  · refine r_iconst (v := 0) G dX7_joins_28 (by decide) ?_
    exact r_iret G hyp (by decide) (Nat.zero_le _) (Nat.zero_le _) dX7_joins_29
  · refine r_aload_n G 0 dX7_joins_15 rfl rfl ?_
    refine r_iload_n G 1 dX7_joins_16 rfl rfl ?_
    obtain ⟨o10, hyp⟩ := x_chk hyp
    refine r_callV (ι := xI) (T := TX7) (N := 22) (ci := 7) (b := a0) (rest := []) (As := [.int x1]) G hno tg_X7_look (fun r w' h => ct_X7_look (xhl G) _ _ _ r w' h) o10 hyp rfl ww_630 ww_632 ww_631 (by decide) (by decide) rfl rfl (xroom (Nat.le_of_ble_eq_true rfl)) dX7_joins_17 (push := (fun r9 => [.int r9])) (fun _ => rfl) (fun r9 w8 hyp => ?_)
    refine r_aload_n G 0 dX7_joins_20 rfl rfl ?_
    refine r_iload_n G 2 dX7_joins_21 rfl rfl ?_
    obtain ⟨o13, hyp⟩ := x_chk hyp
    refine r_callV (ι := xI) (T := TX7) (N := 22) (ci := 7) (b := a0) (rest := [.int r9]) (As := [.int x2]) G hno tg_X7_look (fun r w' h => ct_X7_look (xhl G) _ _ _ r w' h) o13 hyp rfl ww_630 ww_632 ww_631 (by decide) (by decide) rfl rfl (xroom (Nat.le_of_ble_eq_true rfl)) dX7_joins_22 (push := (fun r12 => [.int r12, .int r9])) (fun _ => rfl) (fun r12 w11 hyp => ?_)
    refine r_icmp_eq G 30 dX7_joins_25 (by decide) hyp (fun c14 hyp => ?_) (fun c14 hyp => ?_)
    · refine r_aload_n G 0 dX7_joins_30 rfl rfl ?_
      obtain ⟨v15, hv15, hyp⟩ := x_some hyp
      refine r_getv (C := RX7) (T := TX7) (N := 22) (ci := 7) G 11 (x_getr_e hv15) rfl uw_7 (Nat.le_of_ble_eq_true rfl) rfl ww_569 dX7_joins_31 ?_
      refine r_iload_n G 1 dX7_joins_34 rfl rfl ?_
      refine r_ref hyp (fun a16 ha16 hz => ?_)
      clear hyp; subst ha16; have hyp := hz; clear hz
      obtain ⟨v17, hv17, hyp⟩ := x_some hyp
      refine r_iald G hv17 dX7_joins_35 ?_
      refine r_aload_n G 0 dX7_joins_36 rfl rfl ?_
      obtain ⟨v18, hv18, hyp⟩ := x_some hyp
      refine r_getv (C := RX7) (T := TX7) (N := 22) (ci := 7) G 11 (x_getr_e hv18) rfl uw_7 (Nat.le_of_ble_eq_true rfl) rfl ww_569 dX7_joins_37 ?_
      refine r_iload_n G 2 dX7_joins_40 rfl rfl ?_
      refine r_ref hyp (fun a19 ha19 hz => ?_)
      clear hyp; subst ha19; have hyp := hz; clear hz
      obtain ⟨v20, hv20, hyp⟩ := x_some hyp
      refine r_iald G hv20 dX7_joins_41 ?_
      refine r_icmp_ge G 54 dX7_joins_42 (by decide) hyp (fun c21 hyp => ?_) (fun c21 hyp => ?_)
      · refine r_aload_n G 0 dX7_joins_54 rfl rfl ?_
        obtain ⟨v22, hv22, hyp⟩ := x_some hyp
        refine r_getv (C := RX7) (T := TX7) (N := 22) (ci := 7) G 11 (x_getr_e hv22) rfl uw_7 (Nat.le_of_ble_eq_true rfl) rfl ww_569 dX7_joins_55 ?_
        refine r_iload_n G 2 dX7_joins_58 rfl rfl ?_
        refine r_ref hyp (fun a23 ha23 hz => ?_)
        clear hyp; subst ha23; have hyp := hz; clear hz
        obtain ⟨v24, hv24, hyp⟩ := x_some hyp
        refine r_iald G hv24 dX7_joins_59 ?_
        refine r_istore_n (lv' := [(3, .int v24), (0, .ref a0), (1, .int x1), (2, .int x2)]) G dX7_joins_60 rfl (by decide) ⟨fun _ => rfl, fun _ => rfl, fun _ => rfl, trivial⟩ rfl ?_
        refine r_aload_n G 1 dX7_joins_61 rfl rfl ?_
        obtain ⟨v25, hv25, hyp⟩ := x_some hyp
        refine r_getv (C := RX7) (T := TX7) (N := 22) (ci := 7) G 11 (x_getr_e hv25) rfl uw_7 (Nat.le_of_ble_eq_true rfl) rfl ww_569 dX7_joins_62 ?_
        refine r_iload_n G 2 dX7_joins_65 rfl rfl ?_
        refine r_iload_n G 0 dX7_joins_66 rfl rfl ?_
        refine r_ref hyp (fun a26 ha26 hz => ?_)
        clear hyp; subst ha26; have hyp := hz; clear hz
        obtain ⟨w27, hw27, hyp⟩ := x_some hyp
        refine r_iast G hw27 dX7_joins_67 ?_
        refine r_aload_n G 1 dX7_joins_68 rfl rfl ?_
        obtain ⟨v28, hv28, hyp⟩ := x_some hyp
        refine r_getv (C := RX7) (T := TX7) (N := 22) (ci := 7) G 11 (x_getr_e hv28) rfl uw_7 (Nat.le_of_ble_eq_true rfl) rfl ww_569 dX7_joins_69 ?_
        refine r_iload_n G 3 dX7_joins_72 rfl rfl ?_
        refine r_iload_n G 0 dX7_joins_73 rfl rfl ?_
        refine r_ref hyp (fun a29 ha29 hz => ?_)
        clear hyp; subst ha29; have hyp := hz; clear hz
        obtain ⟨w30, hw30, hyp⟩ := x_some hyp
        refine r_iast G hw30 dX7_joins_74 ?_
        refine r_iconst (v := 1) G dX7_joins_75 (by decide) ?_
        exact r_iret G hyp (by decide) (Nat.zero_le _) (Nat.zero_le _) dX7_joins_76
      · refine r_aload_n G 0 dX7_joins_45 rfl rfl ?_
        obtain ⟨v31, hv31, hyp⟩ := x_some hyp
        refine r_getv (C := RX7) (T := TX7) (N := 22) (ci := 7) G 11 (x_getr_e hv31) rfl uw_7 (Nat.le_of_ble_eq_true rfl) rfl ww_569 dX7_joins_46 ?_
        refine r_iload_n G 1 dX7_joins_49 rfl rfl ?_
        refine r_ref hyp (fun a32 ha32 hz => ?_)
        clear hyp; subst ha32; have hyp := hz; clear hz
        obtain ⟨v33, hv33, hyp⟩ := x_some hyp
        refine r_iald G hv33 dX7_joins_50 ?_
        refine r_goto G 60 dX7_joins_51 (by decide) ?_
        refine r_istore_n (lv' := [(3, .int v33), (0, .ref a0), (1, .int x1), (2, .int x2)]) G dX7_joins_60 rfl (by decide) ⟨fun _ => rfl, fun _ => rfl, fun _ => rfl, trivial⟩ rfl ?_
        refine r_aload_n G 1 dX7_joins_61 rfl rfl ?_
        obtain ⟨v34, hv34, hyp⟩ := x_some hyp
        refine r_getv (C := RX7) (T := TX7) (N := 22) (ci := 7) G 11 (x_getr_e hv34) rfl uw_7 (Nat.le_of_ble_eq_true rfl) rfl ww_569 dX7_joins_62 ?_
        refine r_iload_n G 2 dX7_joins_65 rfl rfl ?_
        refine r_iload_n G 0 dX7_joins_66 rfl rfl ?_
        refine r_ref hyp (fun a35 ha35 hz => ?_)
        clear hyp; subst ha35; have hyp := hz; clear hz
        obtain ⟨w36, hw36, hyp⟩ := x_some hyp
        refine r_iast G hw36 dX7_joins_67 ?_
        refine r_aload_n G 1 dX7_joins_68 rfl rfl ?_
        obtain ⟨v37, hv37, hyp⟩ := x_some hyp
        refine r_getv (C := RX7) (T := TX7) (N := 22) (ci := 7) G 11 (x_getr_e hv37) rfl uw_7 (Nat.le_of_ble_eq_true rfl) rfl ww_569 dX7_joins_69 ?_
        refine r_iload_n G 3 dX7_joins_72 rfl rfl ?_
        refine r_iload_n G 0 dX7_joins_73 rfl rfl ?_
        refine r_ref hyp (fun a38 ha38 hz => ?_)
        clear hyp; subst ha38; have hyp := hz; clear hz
        obtain ⟨w39, hw39, hyp⟩ := x_some hyp
        refine r_iast G hw39 dX7_joins_74 ?_
        refine r_iconst (v := 1) G dX7_joins_75 (by decide) ?_
        exact r_iret G hyp (by decide) (Nat.zero_le _) (Nat.zero_le _) dX7_joins_76
    · refine r_iconst (v := 0) G dX7_joins_28 (by decide) ?_
      exact r_iret G hyp (by decide) (Nat.zero_le _) (Nat.zero_le _) dX7_joins_29
theorem tg_X7_labels : xTgt yX7_labels cX7_labels 3 none 0 := ⟨ww_637, ww_574, by decide, by decide +kernel, by decide +kernel⟩
section
variable {Γ : xG} {p : Program} {l : Launch} {e : Env} {s : State} {m : MethodId} {args : Array Value} {below : List Frame} {meth : Method} {c : Code} {rF : Unit ⊕ String} {wF : xW}
set_option maxRecDepth 100000 in
set_option maxHeartbeats 4000000 in
theorem nd_X7_labels_J57 {k23 : Nat → Int32 → xW → xO Unit} {k31 : Nat → Int32 → Int32 → xW → xO Unit} (G : xCx Γ p l s m args meth c RX7 cX7_labels 3 none) (hno : ∀ x ∈ c.exceptionTable.toList, False) (hk23 : ∀ (a0 : Nat) (x1 : Int32) (w : xW), k23 a0 x1 w = some (rF, wF) → xAW Γ p l e (xRm 3 (x_mc rF) (x_ms rF)) s m args below meth c 3 (xQm Γ below xV rF wF args s (x_mc rF) (x_ms rF)) w 0 0 23 [(0, .ref a0), (1, .int x1)] []) (hk31 : ∀ (a0 : Nat) (x1 : Int32) (x2 : Int32) (w : xW), k31 a0 x1 x2 w = some (rF, wF) → xAW Γ p l e (xRm 3 (x_mc rF) (x_ms rF)) s m args below meth c 3 (xQm Γ below xV rF wF args s (x_mc rF) (x_ms rF)) w 0 0 31 [(0, .ref a0), (1, .int x1), (2, .int x2)] []) (a0 : Nat) (x1 : Int32) (x2 : Int32) (w0 : xW) (hyp : f_X7_labels_J57 k23 k31 a0 x1 x2 w0 = some (rF, wF)) : xAW Γ p l e (xRm 3 (x_mc rF) (x_ms rF)) s m args below meth c 3 (xQm Γ below xV rF wF args s (x_mc rF) (x_ms rF)) w0 0 0 57 [(0, .ref a0), (1, .int x1), (2, .int x2)] [] := by
  rw [f_X7_labels_J57] at hyp
  refine r_iload_n G 2 dX7_labels_57 rfl rfl ?_
  refine r_bipush (v := 8) G dX7_labels_58 (by decide) ?_
  refine r_icmp_lt G 77 dX7_labels_60 (by decide) hyp (fun c5 hyp => ?_) (fun c5 hyp => ?_)
  · refine r_iinc (v := (x2 + 1)) (lv' := [(2, .int (x2 + 1)), (0, .ref a0), (1, .int x1)]) G 2 dX7_labels_77 rfl rfl (by decide) ⟨fun _ => rfl, fun _ => rfl, fun _ => rfl, trivial⟩ rfl ?_
    refine r_goto G 31 dX7_labels_80 (by decide) ?_
    refine r_weak (lv' := [(0, .ref a0), (1, .int x1), (2, .int (x2 + 1))]) [1, 2, 0] rfl ?_
    exact hk31 a0 x1 (x2 + 1) w0 hyp
  · refine r_aload_n G 0 dX7_labels_63 rfl rfl ?_
    refine r_iload_n G 2 dX7_labels_64 rfl rfl ?_
    refine r_iload_n G 2 dX7_labels_65 rfl rfl ?_
    refine r_bipush (v := 8) G dX7_labels_66 (by decide) ?_
    refine r_isub G dX7_labels_68 ?_
    obtain ⟨o8, hyp⟩ := x_chk hyp
    refine r_callV (ι := xI) (T := TX7) (N := 22) (ci := 7) (b := a0) (rest := []) (As := [.int x2, .int (x2 - 8)]) G hno tg_X7_joins (fun r w' h => ct_X7_joins (xhl G) _ _ _ _ r w' h) o8 hyp rfl ww_634 ww_636 ww_635 (by decide) (by decide) rfl rfl (xroom (Nat.le_of_ble_eq_true rfl)) dX7_labels_69 (push := (fun r7 => [.int r7])) (fun _ => rfl) (fun r7 w6 hyp => ?_)
    refine r_if_eq G 77 dX7_labels_72 (by decide) hyp (fun c9 hyp => ?_) (fun c9 hyp => ?_)
    · refine r_iinc (v := (x2 + 1)) (lv' := [(2, .int (x2 + 1)), (0, .ref a0), (1, .int x1)]) G 2 dX7_labels_77 rfl rfl (by decide) ⟨fun _ => rfl, fun _ => rfl, fun _ => rfl, trivial⟩ rfl ?_
      refine r_goto G 31 dX7_labels_80 (by decide) ?_
      refine r_weak (lv' := [(0, .ref a0), (1, .int x1), (2, .int (x2 + 1))]) [1, 2, 0] rfl ?_
      exact hk31 a0 x1 (x2 + 1) w6 hyp
    · refine r_iconst (v := 1) G dX7_labels_75 (by decide) ?_
      refine r_istore_n (lv' := [(1, .int 1), (0, .ref a0), (2, .int x2)]) G dX7_labels_76 rfl (by decide) ⟨fun _ => rfl, fun _ => rfl, fun _ => rfl, trivial⟩ rfl ?_
      refine r_iinc (v := (x2 + 1)) (lv' := [(2, .int (x2 + 1)), (1, .int 1), (0, .ref a0)]) G 2 dX7_labels_77 rfl rfl (by decide) ⟨fun _ => rfl, fun _ => rfl, fun _ => rfl, trivial⟩ rfl ?_
      refine r_goto G 31 dX7_labels_80 (by decide) ?_
      refine r_weak (lv' := [(0, .ref a0), (1, .int 1), (2, .int (x2 + 1))]) [2, 1, 0] rfl ?_
      exact hk31 a0 1 (x2 + 1) w6 hyp
set_option maxRecDepth 100000 in
set_option maxHeartbeats 4000000 in
theorem nd_X7_labels_L31 {k23 : Nat → Int32 → xW → xO Unit} (G : xCx Γ p l s m args meth c RX7 cX7_labels 3 none) (hno : ∀ x ∈ c.exceptionTable.toList, False) (hk23 : ∀ (a0 : Nat) (x1 : Int32) (w : xW), k23 a0 x1 w = some (rF, wF) → xAW Γ p l e (xRm 3 (x_mc rF) (x_ms rF)) s m args below meth c 3 (xQm Γ below xV rF wF args s (x_mc rF) (x_ms rF)) w 0 0 23 [(0, .ref a0), (1, .int x1)] []) : ∀ (n : Nat) (a0 : Nat) (x1 : Int32) (x2 : Int32) (w0 : xW), f_X7_labels_L31 k23 n a0 x1 x2 w0 = some (rF, wF) → xAW Γ p l e (xRm 3 (x_mc rF) (x_ms rF)) s m args below meth c 3 (xQm Γ below xV rF wF args s (x_mc rF) (x_ms rF)) w0 0 0 31 [(0, .ref a0), (1, .int x1), (2, .int x2)] [] := by
  intro n
  induction n with
  | zero =>
    intro a0 x1 x2 w0 hyp
    cases (show (none : xO Unit) = some (rF, wF) from hyp)
  | succ n ih =>
    intro a0 x1 x2 w0 hyp
    rw [f_X7_labels_L31] at hyp
    refine r_iload_n G 2 dX7_labels_31 rfl rfl ?_
    refine r_bipush (v := 48) G dX7_labels_32 (by decide) ?_
    refine r_icmp_ge G 83 dX7_labels_34 (by decide) hyp (fun c3 hyp => ?_) (fun c3 hyp => ?_)
    · refine r_goto G 23 dX7_labels_83 (by decide) ?_
      refine r_weak (lv' := [(0, .ref a0), (1, .int x1)]) [0, 1] rfl ?_
      exact hk23 a0 x1 w0 hyp
    · refine r_iload_n G 2 dX7_labels_37 rfl rfl ?_
      refine r_bipush (v := 8) G dX7_labels_38 (by decide) ?_
      refine r_irem G dX7_labels_40 (by decide) ?_
      refine r_if_le G 57 dX7_labels_41 (by decide) hyp (fun c4 hyp => ?_) (fun c4 hyp => ?_)
      · exact nd_X7_labels_J57 G hno hk23 ih a0 x1 x2 w0 hyp
      · refine r_aload_n G 0 dX7_labels_44 rfl rfl ?_
        refine r_iload_n G 2 dX7_labels_45 rfl rfl ?_
        refine r_iload_n G 2 dX7_labels_46 rfl rfl ?_
        refine r_iconst (v := 1) G dX7_labels_47 (by decide) ?_
        refine r_isub G dX7_labels_48 ?_
        obtain ⟨o12, hyp⟩ := x_chk hyp
        refine r_callV (ι := xI) (T := TX7) (N := 22) (ci := 7) (b := a0) (rest := []) (As := [.int x2, .int (x2 - 1)]) G hno tg_X7_joins (fun r w' h => ct_X7_joins (xhl G) _ _ _ _ r w' h) o12 hyp rfl ww_634 ww_636 ww_635 (by decide) (by decide) rfl rfl (xroom (Nat.le_of_ble_eq_true rfl)) dX7_labels_49 (push := (fun r11 => [.int r11])) (fun _ => rfl) (fun r11 w10 hyp => ?_)
        refine r_if_eq G 57 dX7_labels_52 (by decide) hyp (fun c13 hyp => ?_) (fun c13 hyp => ?_)
        · exact nd_X7_labels_J57 G hno hk23 ih a0 x1 x2 w10 hyp
        · refine r_iconst (v := 1) G dX7_labels_55 (by decide) ?_
          refine r_istore_n (lv' := [(1, .int 1), (0, .ref a0), (2, .int x2)]) G dX7_labels_56 rfl (by decide) ⟨fun _ => rfl, fun _ => rfl, fun _ => rfl, trivial⟩ rfl ?_
          refine r_weak (lv' := [(0, .ref a0), (1, .int 1), (2, .int x2)]) [1, 0, 2] rfl ?_
          exact nd_X7_labels_J57 G hno hk23 ih a0 1 x2 w10 hyp
set_option maxRecDepth 100000 in
set_option maxHeartbeats 4000000 in
theorem nd_X7_labels_L23 (G : xCx Γ p l s m args meth c RX7 cX7_labels 3 none) (hno : ∀ x ∈ c.exceptionTable.toList, False) : ∀ (n : Nat) (a0 : Nat) (x1 : Int32) (w0 : xW), f_X7_labels_L23 n a0 x1 w0 = some (rF, wF) → xAW Γ p l e (xRm 3 (x_mc rF) (x_ms rF)) s m args below meth c 3 (xQm Γ below xV rF wF args s (x_mc rF) (x_ms rF)) w0 0 0 23 [(0, .ref a0), (1, .int x1)] [] := by
  intro n
  induction n with
  | zero =>
    intro a0 x1 w0 hyp
    cases (show (none : xO Unit) = some (rF, wF) from hyp)
  | succ n ih =>
    intro a0 x1 w0 hyp
    rw [f_X7_labels_L23] at hyp
    refine r_iload_n G 1 dX7_labels_23 rfl rfl ?_
    refine r_if_eq G 86 dX7_labels_24 (by decide) hyp (fun c2 hyp => ?_) (fun c2 hyp => ?_)
    · exact r_vret G hyp (Nat.zero_le _) (Nat.zero_le _) dX7_labels_86
    · refine r_iconst (v := 0) G dX7_labels_27 (by decide) ?_
      refine r_istore_n (lv' := [(1, .int 0), (0, .ref a0)]) G dX7_labels_28 rfl (by decide) ⟨fun _ => rfl, fun _ => rfl, trivial⟩ rfl ?_
      refine r_iconst (v := 0) G dX7_labels_29 (by decide) ?_
      refine r_istore_n (lv' := [(2, .int 0), (1, .int 0), (0, .ref a0)]) G dX7_labels_30 rfl (by decide) ⟨fun _ => rfl, fun _ => rfl, trivial⟩ rfl ?_
      refine r_weak (lv' := [(0, .ref a0), (1, .int 0), (2, .int 0)]) [2, 1, 0] rfl ?_
      exact nd_X7_labels_L31 G hno ih xfuel a0 0 0 w0 hyp
set_option maxRecDepth 100000 in
set_option maxHeartbeats 4000000 in
theorem nd_X7_labels_L2 (G : xCx Γ p l s m args meth c RX7 cX7_labels 3 none) (hno : ∀ x ∈ c.exceptionTable.toList, False) : ∀ (n : Nat) (a0 : Nat) (x1 : Int32) (w0 : xW), f_X7_labels_L2 n a0 x1 w0 = some (rF, wF) → xAW Γ p l e (xRm 3 (x_mc rF) (x_ms rF)) s m args below meth c 3 (xQm Γ below xV rF wF args s (x_mc rF) (x_ms rF)) w0 0 0 2 [(0, .ref a0), (1, .int x1)] [] := by
  intro n
  induction n with
  | zero =>
    intro a0 x1 w0 hyp
    cases (show (none : xO Unit) = some (rF, wF) from hyp)
  | succ n ih =>
    intro a0 x1 w0 hyp
    rw [f_X7_labels_L2] at hyp
    refine r_iload_n G 1 dX7_labels_2 rfl rfl ?_
    refine r_bipush (v := 48) G dX7_labels_3 (by decide) ?_
    refine r_icmp_ge G 21 dX7_labels_5 (by decide) hyp (fun c1 hyp => ?_) (fun c1 hyp => ?_)
    · refine r_iconst (v := 1) G dX7_labels_21 (by decide) ?_
      refine r_istore_n (lv' := [(1, .int 1), (0, .ref a0)]) G dX7_labels_22 rfl (by decide) ⟨fun _ => rfl, fun _ => rfl, trivial⟩ rfl ?_
      refine r_weak (lv' := [(0, .ref a0), (1, .int 1)]) [1, 0] rfl ?_
      exact nd_X7_labels_L23 G hno xfuel a0 1 w0 hyp
    · refine r_aload_n G 0 dX7_labels_8 rfl rfl ?_
      obtain ⟨v14, hv14, hyp⟩ := x_some hyp
      refine r_getv (C := RX7) (T := TX7) (N := 22) (ci := 7) G 11 (x_getr_e hv14) rfl uw_7 (Nat.le_of_ble_eq_true rfl) rfl ww_569 dX7_labels_9 ?_
      refine r_iload_n G 1 dX7_labels_12 rfl rfl ?_
      refine r_iload_n G 1 dX7_labels_13 rfl rfl ?_
      refine r_ref hyp (fun a15 ha15 hz => ?_)
      clear hyp; subst ha15; have hyp := hz; clear hz
      obtain ⟨w16, hw16, hyp⟩ := x_some hyp
      refine r_iast G hw16 dX7_labels_14 ?_
      refine r_iinc (v := (x1 + 1)) (lv' := [(1, .int (x1 + 1)), (0, .ref a0)]) G 1 dX7_labels_15 rfl rfl (by decide) ⟨fun _ => rfl, fun _ => rfl, trivial⟩ rfl ?_
      refine r_goto G 2 dX7_labels_18 (by decide) ?_
      refine r_weak (lv' := [(0, .ref a0), (1, .int (x1 + 1))]) [1, 0] rfl ?_
      exact ih a0 (x1 + 1) w16 hyp
end
set_option maxRecDepth 100000 in
set_option maxHeartbeats 4000000 in
theorem ct_X7_labels {Γ : xG} {l : Launch} (hl : l.stackTraces = false) (a0 : Nat) (w0 : xW) (rF : Unit ⊕ String) (wF : xW) (hyp : f_X7_labels a0 w0 = some (rF, wF)) : xMet Γ l yX7_labels (xws yX7_labels cX7_labels 3 none) 3 xV [.ref a0] w0 rF wF (x_mc rF) (x_ms rF) := by
  refine xOfW tg_X7_labels hl (lv0 := [(0, .ref a0)]) (Nat.le_of_ble_eq_true rfl) rfl ?_
  intro p e s m below meth c G hno hin
  rw [f_X7_labels] at hyp
  refine r_iconst (v := 0) G dX7_labels_0 (by decide) ?_
  refine r_istore_n (lv' := [(1, .int 0), (0, .ref a0)]) G dX7_labels_1 rfl (by decide) ⟨fun _ => rfl, trivial⟩ rfl ?_
  refine r_weak (lv' := [(0, .ref a0), (1, .int 0)]) [1, 0] rfl ?_
  exact nd_X7_labels_L2 G hno xfuel a0 0 w0 hyp
theorem tg_X7_areaCount : xTgt yX7_areaCount cX7_areaCount 3 (some .int) 0 := ⟨ww_641, ww_574, by decide, by decide +kernel, by decide +kernel⟩
section
variable {Γ : xG} {p : Program} {l : Launch} {e : Env} {s : State} {m : MethodId} {args : Array Value} {below : List Frame} {meth : Method} {c : Code} {rF : Int32 ⊕ String} {wF : xW}
set_option maxRecDepth 100000 in
set_option maxHeartbeats 4000000 in
theorem nd_X7_areaCount_L13 (G : xCx Γ p l s m args meth c RX7 cX7_areaCount 3 (some .int)) (hno : ∀ x ∈ c.exceptionTable.toList, False) : ∀ (n : Nat) (a0 : Nat) (x1 : Int32) (x2 : Int32) (w0 : xW), f_X7_areaCount_L13 n a0 x1 x2 w0 = some (rF, wF) → xAW Γ p l e (xRm 4 (x_mc rF) (x_ms rF)) s m args below meth c 3 (xQm Γ below xI rF wF args s (x_mc rF) (x_ms rF)) w0 0 0 13 [(0, .ref a0), (1, .int x1), (2, .int x2)] [] := by
  intro n
  induction n with
  | zero =>
    intro a0 x1 x2 w0 hyp
    cases (show (none : xO Int32) = some (rF, wF) from hyp)
  | succ n ih =>
    intro a0 x1 x2 w0 hyp
    rw [f_X7_areaCount_L13] at hyp
    refine r_iload_n G 2 dX7_areaCount_13 rfl rfl ?_
    refine r_bipush (v := 48) G dX7_areaCount_14 (by decide) ?_
    refine r_icmp_ge G 43 dX7_areaCount_16 (by decide) hyp (fun c5 hyp => ?_) (fun c5 hyp => ?_)
    · refine r_iload_n G 1 dX7_areaCount_43 rfl rfl ?_
      exact r_iret G hyp rfl (Nat.zero_le _) (Nat.zero_le _) dX7_areaCount_44
    · refine r_iload_n G 1 dX7_areaCount_19 rfl rfl ?_
      refine r_aload_n G 0 dX7_areaCount_20 rfl rfl ?_
      obtain ⟨v6, hv6, hyp⟩ := x_some hyp
      refine r_getv (C := RX7) (T := TX7) (N := 22) (ci := 7) G 11 (x_getr_e hv6) rfl uw_7 (Nat.le_of_ble_eq_true rfl) rfl ww_569 dX7_areaCount_21 ?_
      refine r_iload_n G 2 dX7_areaCount_24 rfl rfl ?_
      refine r_ref hyp (fun a7 ha7 hz => ?_)
      clear hyp; subst ha7; have hyp := hz; clear hz
      obtain ⟨v8, hv8, hyp⟩ := x_some hyp
      refine r_iald G hv8 dX7_areaCount_25 ?_
      refine r_iload_n G 2 dX7_areaCount_26 rfl rfl ?_
      refine r_icmp_ne G 34 dX7_areaCount_27 (by decide) hyp (fun c9 hyp => ?_) (fun c9 hyp => ?_)
      · refine r_iconst (v := 0) G dX7_areaCount_34 (by decide) ?_
        refine r_iadd G dX7_areaCount_35 ?_
        refine r_istore_n (lv' := [(1, .int (x1 + 0)), (0, .ref a0), (2, .int x2)]) G dX7_areaCount_36 rfl (by decide) ⟨fun _ => rfl, fun _ => rfl, fun _ => rfl, trivial⟩ rfl ?_
        refine r_iinc (v := (x2 + 1)) (lv' := [(2, .int (x2 + 1)), (1, .int (x1 + 0)), (0, .ref a0)]) G 2 dX7_areaCount_37 rfl rfl (by decide) ⟨fun _ => rfl, fun _ => rfl, fun _ => rfl, trivial⟩ rfl ?_
        refine r_goto G 13 dX7_areaCount_40 (by decide) ?_
        refine r_weak (lv' := [(0, .ref a0), (1, .int (x1 + 0)), (2, .int (x2 + 1))]) [2, 1, 0] rfl ?_
        exact ih a0 (x1 + 0) (x2 + 1) w0 hyp
      · refine r_iconst (v := 1) G dX7_areaCount_30 (by decide) ?_
        refine r_goto G 35 dX7_areaCount_31 (by decide) ?_
        refine r_iadd G dX7_areaCount_35 ?_
        refine r_istore_n (lv' := [(1, .int (x1 + 1)), (0, .ref a0), (2, .int x2)]) G dX7_areaCount_36 rfl (by decide) ⟨fun _ => rfl, fun _ => rfl, fun _ => rfl, trivial⟩ rfl ?_
        refine r_iinc (v := (x2 + 1)) (lv' := [(2, .int (x2 + 1)), (1, .int (x1 + 1)), (0, .ref a0)]) G 2 dX7_areaCount_37 rfl rfl (by decide) ⟨fun _ => rfl, fun _ => rfl, fun _ => rfl, trivial⟩ rfl ?_
        refine r_goto G 13 dX7_areaCount_40 (by decide) ?_
        refine r_weak (lv' := [(0, .ref a0), (1, .int (x1 + 1)), (2, .int (x2 + 1))]) [2, 1, 0] rfl ?_
        exact ih a0 (x1 + 1) (x2 + 1) w0 hyp
end
set_option maxRecDepth 100000 in
set_option maxHeartbeats 4000000 in
theorem ct_X7_areaCount {Γ : xG} {l : Launch} (hl : l.stackTraces = false) (a0 : Nat) (w0 : xW) (rF : Int32 ⊕ String) (wF : xW) (hyp : f_X7_areaCount a0 w0 = some (rF, wF)) : xMet Γ l yX7_areaCount (xws yX7_areaCount cX7_areaCount 3 (some .int)) 4 xI [.ref a0] w0 rF wF (x_mc rF) (x_ms rF) := by
  refine xOfW tg_X7_areaCount hl (lv0 := [(0, .ref a0)]) (Nat.le_of_ble_eq_true rfl) rfl ?_
  intro p e s m below meth c G hno hin
  rw [f_X7_areaCount] at hyp
  refine r_aload_n G 0 dX7_areaCount_0 rfl rfl ?_
  refine r_iconst (v := 0) G dX7_areaCount_1 (by decide) ?_
  obtain ⟨w1, hw1, hyp⟩ := x_some hyp
  refine r_putv (C := RX7) (T := TX7) (N := 22) (ci := 7) G tyX7 tyX7_ok nmX7 0 hw1 rfl uw_7 (Nat.le_of_ble_eq_true rfl) rfl ww_594 rfl rfl rfl dX7_areaCount_2 ?_
  refine r_aload_n G 0 dX7_areaCount_5 rfl rfl ?_
  obtain ⟨o4, hyp⟩ := x_chk hyp
  refine r_callV (ι := xV) (T := TX7) (N := 22) (ci := 7) (b := a0) (rest := []) (As := []) G hno tg_X7_labels (fun r w' h => ct_X7_labels (xhl G) _ _ r w' h) o4 hyp rfl ww_638 ww_640 ww_639 (by decide) (by decide) rfl rfl (xroom (Nat.le_of_ble_eq_true rfl)) dX7_areaCount_6 (push := (fun _ => [])) (fun _ => rfl) (fun _ w2 hyp => ?_)
  refine r_iconst (v := 0) G dX7_areaCount_9 (by decide) ?_
  refine r_istore_n (lv' := [(1, .int 0), (0, .ref a0)]) G dX7_areaCount_10 rfl (by decide) ⟨fun _ => rfl, trivial⟩ rfl ?_
  refine r_iconst (v := 0) G dX7_areaCount_11 (by decide) ?_
  refine r_istore_n (lv' := [(2, .int 0), (1, .int 0), (0, .ref a0)]) G dX7_areaCount_12 rfl (by decide) ⟨fun _ => rfl, fun _ => rfl, trivial⟩ rfl ?_
  refine r_weak (lv' := [(0, .ref a0), (1, .int 0), (2, .int 0)]) [2, 1, 0] rfl ?_
  exact nd_X7_areaCount_L13 G hno xfuel a0 0 0 w2 hyp
theorem tg_X7_areaCountByJoining : xTgt yX7_areaCountByJoining cX7_areaCountByJoining 1 (some .int) 0 := ⟨ww_645, ww_574, by decide, by decide +kernel, by decide +kernel⟩
section
variable {Γ : xG} {p : Program} {l : Launch} {e : Env} {s : State} {m : MethodId} {args : Array Value} {below : List Frame} {meth : Method} {c : Code} {rF : Int32 ⊕ String} {wF : xW}
end
set_option maxRecDepth 100000 in
set_option maxHeartbeats 4000000 in
theorem ct_X7_areaCountByJoining {Γ : xG} {l : Launch} (hl : l.stackTraces = false) (a0 : Nat) (w0 : xW) (rF : Int32 ⊕ String) (wF : xW) (hyp : f_X7_areaCountByJoining a0 w0 = some (rF, wF)) : xMet Γ l yX7_areaCountByJoining (xws yX7_areaCountByJoining cX7_areaCountByJoining 1 (some .int)) 5 xI [.ref a0] w0 rF wF (x_mc rF) (x_ms rF) := by
  refine xOfW tg_X7_areaCountByJoining hl (lv0 := [(0, .ref a0)]) (Nat.le_of_ble_eq_true rfl) rfl ?_
  intro p e s m below meth c G hno hin
  rw [f_X7_areaCountByJoining] at hyp
  refine r_aload_n G 0 dX7_areaCountByJoining_0 rfl rfl ?_
  obtain ⟨o3, hyp⟩ := x_chk hyp
  refine r_callV (ι := xI) (T := TX7) (N := 22) (ci := 7) (b := a0) (rest := []) (As := []) G hno tg_X7_areaCount (fun r w' h => ct_X7_areaCount (xhl G) _ _ r w' h) o3 hyp rfl ww_642 ww_644 ww_643 (by decide) (by decide) rfl rfl (xroom (Nat.le_of_ble_eq_true rfl)) dX7_areaCountByJoining_1 (push := (fun r2 => [.int r2])) (fun _ => rfl) (fun r2 w1 hyp => ?_)
  exact r_iret G hyp rfl (Nat.zero_le _) (Nat.zero_le _) dX7_areaCountByJoining_4
theorem tg_X7_in : xTgt yX7_in cX7_in 3 (some .boolean) 3 := ⟨ww_646, ww_574, by decide, by decide +kernel, by decide +kernel⟩
section
variable {Γ : xG} {p : Program} {l : Launch} {e : Env} {s : State} {m : MethodId} {args : Array Value} {below : List Frame} {meth : Method} {c : Code} {rF : Int32 ⊕ String} {wF : xW}
end
set_option maxRecDepth 100000 in
set_option maxHeartbeats 4000000 in
theorem ct_X7_in {Γ : xG} {l : Launch} (hl : l.stackTraces = false) (x0 : Int32) (x1 : Int32) (x2 : Int32) (w0 : xW) (rF : Int32 ⊕ String) (wF : xW) (hyp : f_X7_in x0 x1 x2 w0 = some (rF, wF)) : xMet Γ l yX7_in (xws yX7_in cX7_in 3 (some .boolean)) 0 xI [.int x0, .int x1, .int x2] w0 rF wF (x_mc rF) (x_ms rF) := by
  refine xOfW tg_X7_in hl (lv0 := [(0, .int x0), (1, .int x1), (2, .int x2)]) (Nat.le_of_ble_eq_true rfl) rfl ?_
  intro p e s m below meth c G hno hin
  rw [f_X7_in] at hyp
  refine r_iload_n G 0 dX7_in_0 rfl rfl ?_
  refine r_iload_n G 1 dX7_in_1 rfl rfl ?_
  refine r_icmp_lt G 14 dX7_in_2 (by decide) hyp (fun c1 hyp => ?_) (fun c1 hyp => ?_)
  · refine r_iconst (v := 0) G dX7_in_14 (by decide) ?_
    exact r_iret G hyp (by decide) (Nat.zero_le _) (Nat.zero_le _) dX7_in_15
  · refine r_iload_n G 0 dX7_in_5 rfl rfl ?_
    refine r_iload_n G 2 dX7_in_6 rfl rfl ?_
    refine r_icmp_gt G 14 dX7_in_7 (by decide) hyp (fun c2 hyp => ?_) (fun c2 hyp => ?_)
    · refine r_iconst (v := 0) G dX7_in_14 (by decide) ?_
      exact r_iret G hyp (by decide) (Nat.zero_le _) (Nat.zero_le _) dX7_in_15
    · refine r_iconst (v := 1) G dX7_in_10 (by decide) ?_
      refine r_goto G 15 dX7_in_11 (by decide) ?_
      exact r_iret G hyp (by decide) (Nat.zero_le _) (Nat.zero_le _) dX7_in_15
theorem tg_X7_isCell : xTgt yX7_isCell cX7_isCell 2 (some .boolean) 2 := ⟨ww_649, ww_574, by decide, by decide +kernel, by decide +kernel⟩
section
variable {Γ : xG} {p : Program} {l : Launch} {e : Env} {s : State} {m : MethodId} {args : Array Value} {below : List Frame} {meth : Method} {c : Code} {rF : Int32 ⊕ String} {wF : xW}
end
set_option maxRecDepth 100000 in
set_option maxHeartbeats 4000000 in
theorem ct_X7_isCell {Γ : xG} {l : Launch} (hl : l.stackTraces = false) (x0 : Int32) (x1 : Int32) (w0 : xW) (rF : Int32 ⊕ String) (wF : xW) (hyp : f_X7_isCell x0 x1 w0 = some (rF, wF)) : xMet Γ l yX7_isCell (xws yX7_isCell cX7_isCell 2 (some .boolean)) 1 xI [.int x0, .int x1] w0 rF wF (x_mc rF) (x_ms rF) := by
  refine xOfW tg_X7_isCell hl (lv0 := [(0, .int x0), (1, .int x1)]) (Nat.le_of_ble_eq_true rfl) rfl ?_
  intro p e s m below meth c G hno hin
  rw [f_X7_isCell] at hyp
  refine r_iload_n G 0 dX7_isCell_0 rfl rfl ?_
  refine r_iconst (v := 0) G dX7_isCell_1 (by decide) ?_
  refine r_bipush (v := 7) G dX7_isCell_2 (by decide) ?_
  refine r_callS (ι := xI) (rest := []) (As := [.int x0, .int 0, .int 7]) G hno tg_X7_in (fun r w' h => ct_X7_in (xhl G) _ _ _ _ r w' h) hyp ww_647 ww_648 (by decide) (by decide) rfl rfl (xroom (Nat.le_of_ble_eq_true rfl)) dX7_isCell_4 (push := (fun r2 => [.int r2])) (fun _ => rfl) (fun r2 w1 hyp => ?_)
  refine r_if_eq G 23 dX7_isCell_7 (by decide) hyp (fun c3 hyp => ?_) (fun c3 hyp => ?_)
  · refine r_iconst (v := 0) G dX7_isCell_23 (by decide) ?_
    exact r_iret G hyp (by decide) (Nat.zero_le _) (Nat.zero_le _) dX7_isCell_24
  · refine r_iload_n G 1 dX7_isCell_10 rfl rfl ?_
    refine r_iconst (v := 0) G dX7_isCell_11 (by decide) ?_
    refine r_iconst (v := 5) G dX7_isCell_12 (by decide) ?_
    refine r_callS (ι := xI) (rest := []) (As := [.int x1, .int 0, .int 5]) G hno tg_X7_in (fun r w' h => ct_X7_in (xhl G) _ _ _ _ r w' h) hyp ww_647 ww_648 (by decide) (by decide) rfl rfl (xroom (Nat.le_of_ble_eq_true rfl)) dX7_isCell_13 (push := (fun r5 => [.int r5])) (fun _ => rfl) (fun r5 w4 hyp => ?_)
    refine r_if_eq G 23 dX7_isCell_16 (by decide) hyp (fun c6 hyp => ?_) (fun c6 hyp => ?_)
    · refine r_iconst (v := 0) G dX7_isCell_23 (by decide) ?_
      exact r_iret G hyp (by decide) (Nat.zero_le _) (Nat.zero_le _) dX7_isCell_24
    · refine r_iconst (v := 1) G dX7_isCell_19 (by decide) ?_
      refine r_goto G 24 dX7_isCell_20 (by decide) ?_
      exact r_iret G hyp (by decide) (Nat.zero_le _) (Nat.zero_le _) dX7_isCell_24
theorem tg_X7_labelled : xTgt yX7_labelled cX7_labelled 4 (some .int) 1 := ⟨ww_650, ww_574, by decide, by decide +kernel, by decide +kernel⟩
section
variable {Γ : xG} {p : Program} {l : Launch} {e : Env} {s : State} {m : MethodId} {args : Array Value} {below : List Frame} {meth : Method} {c : Code} {rF : Int32 ⊕ String} {wF : xW}
set_option maxRecDepth 100000 in
set_option maxHeartbeats 4000000 in
theorem nd_X7_labelled_L4 (G : xCx Γ p l s m args meth c RX7 cX7_labelled 4 (some .int)) (hno : ∀ x ∈ c.exceptionTable.toList, False) : ∀ (n : Nat) (a0 : Nat) (x1 : Int32) (x2 : Int32) (x3 : Int32) (w0 : xW), f_X7_labelled_L4 n a0 x1 x2 x3 w0 = some (rF, wF) → xAW Γ p l e (xRm 0 (x_mc rF) (x_ms rF)) s m args below meth c 4 (xQm Γ below xI rF wF args s (x_mc rF) (x_ms rF)) w0 0 0 4 [(0, .ref a0), (1, .int x1), (2, .int x2), (3, .int x3)] [] := by
  intro n
  induction n with
  | zero =>
    intro a0 x1 x2 x3 w0 hyp
    cases (show (none : xO Int32) = some (rF, wF) from hyp)
  | succ n ih =>
    intro a0 x1 x2 x3 w0 hyp
    rw [f_X7_labelled_L4] at hyp
    refine r_iload_n G 3 dX7_labelled_4 rfl rfl ?_
    refine r_bipush (v := 48) G dX7_labelled_5 (by decide) ?_
    refine r_icmp_ge G 39 dX7_labelled_7 (by decide) hyp (fun c1 hyp => ?_) (fun c1 hyp => ?_)
    · refine r_iload_n G 2 dX7_labelled_39 rfl rfl ?_
      exact r_iret G hyp rfl (Nat.zero_le _) (Nat.zero_le _) dX7_labelled_40
    · refine r_iload_n G 2 dX7_labelled_10 rfl rfl ?_
      refine r_aload_n G 0 dX7_labelled_11 rfl rfl ?_
      obtain ⟨v2, hv2, hyp⟩ := x_some hyp
      refine r_getv (C := RX7) (T := TX7) (N := 22) (ci := 7) G 11 (x_getr_e hv2) rfl uw_7 (Nat.le_of_ble_eq_true rfl) rfl ww_569 dX7_labelled_12 ?_
      refine r_iload_n G 3 dX7_labelled_15 rfl rfl ?_
      refine r_ref hyp (fun a3 ha3 hz => ?_)
      clear hyp; subst ha3; have hyp := hz; clear hz
      obtain ⟨v4, hv4, hyp⟩ := x_some hyp
      refine r_iald G hv4 dX7_labelled_16 ?_
      refine r_aload_n G 0 dX7_labelled_17 rfl rfl ?_
      obtain ⟨v5, hv5, hyp⟩ := x_some hyp
      refine r_getv (C := RX7) (T := TX7) (N := 22) (ci := 7) G 11 (x_getr_e hv5) rfl uw_7 (Nat.le_of_ble_eq_true rfl) rfl ww_569 dX7_labelled_18 ?_
      refine r_iload_n G 1 dX7_labelled_21 rfl rfl ?_
      refine r_ref hyp (fun a6 ha6 hz => ?_)
      clear hyp; subst ha6; have hyp := hz; clear hz
      obtain ⟨v7, hv7, hyp⟩ := x_some hyp
      refine r_iald G hv7 dX7_labelled_22 ?_
      refine r_icmp_ne G 30 dX7_labelled_23 (by decide) hyp (fun c8 hyp => ?_) (fun c8 hyp => ?_)
      · refine r_iconst (v := 0) G dX7_labelled_30 (by decide) ?_
        refine r_iadd G dX7_labelled_31 ?_
        refine r_istore_n (lv' := [(2, .int (x2 + 0)), (0, .ref a0), (1, .int x1), (3, .int x3)]) G dX7_labelled_32 rfl (by decide) ⟨fun _ => rfl, fun _ => rfl, fun _ => rfl, fun _ => rfl, trivial⟩ rfl ?_
        refine r_iinc (v := (x3 + 1)) (lv' := [(3, .int (x3 + 1)), (2, .int (x2 + 0)), (0, .ref a0), (1, .int x1)]) G 3 dX7_labelled_33 rfl rfl (by decide) ⟨fun _ => rfl, fun _ => rfl, fun _ => rfl, fun _ => rfl, trivial⟩ rfl ?_
        refine r_goto G 4 dX7_labelled_36 (by decide) ?_
        refine r_weak (lv' := [(0, .ref a0), (1, .int x1), (2, .int (x2 + 0)), (3, .int (x3 + 1))]) [2, 3, 1, 0] rfl ?_
        exact ih a0 x1 (x2 + 0) (x3 + 1) w0 hyp
      · refine r_iconst (v := 1) G dX7_labelled_26 (by decide) ?_
        refine r_goto G 31 dX7_labelled_27 (by decide) ?_
        refine r_iadd G dX7_labelled_31 ?_
        refine r_istore_n (lv' := [(2, .int (x2 + 1)), (0, .ref a0), (1, .int x1), (3, .int x3)]) G dX7_labelled_32 rfl (by decide) ⟨fun _ => rfl, fun _ => rfl, fun _ => rfl, fun _ => rfl, trivial⟩ rfl ?_
        refine r_iinc (v := (x3 + 1)) (lv' := [(3, .int (x3 + 1)), (2, .int (x2 + 1)), (0, .ref a0), (1, .int x1)]) G 3 dX7_labelled_33 rfl rfl (by decide) ⟨fun _ => rfl, fun _ => rfl, fun _ => rfl, fun _ => rfl, trivial⟩ rfl ?_
        refine r_goto G 4 dX7_labelled_36 (by decide) ?_
        refine r_weak (lv' := [(0, .ref a0), (1, .int x1), (2, .int (x2 + 1)), (3, .int (x3 + 1))]) [2, 3, 1, 0] rfl ?_
        exact ih a0 x1 (x2 + 1) (x3 + 1) w0 hyp
end
set_option maxRecDepth 100000 in
set_option maxHeartbeats 4000000 in
theorem ct_X7_labelled {Γ : xG} {l : Launch} (hl : l.stackTraces = false) (a0 : Nat) (x1 : Int32) (w0 : xW) (rF : Int32 ⊕ String) (wF : xW) (hyp : f_X7_labelled a0 x1 w0 = some (rF, wF)) : xMet Γ l yX7_labelled (xws yX7_labelled cX7_labelled 4 (some .int)) 0 xI [.ref a0, .int x1] w0 rF wF (x_mc rF) (x_ms rF) := by
  refine xOfW tg_X7_labelled hl (lv0 := [(0, .ref a0), (1, .int x1)]) (Nat.le_of_ble_eq_true rfl) rfl ?_
  intro p e s m below meth c G hno hin
  rw [f_X7_labelled] at hyp
  refine r_iconst (v := 0) G dX7_labelled_0 (by decide) ?_
  refine r_istore_n (lv' := [(2, .int 0), (0, .ref a0), (1, .int x1)]) G dX7_labelled_1 rfl (by decide) ⟨fun _ => rfl, fun _ => rfl, trivial⟩ rfl ?_
  refine r_iconst (v := 0) G dX7_labelled_2 (by decide) ?_
  refine r_istore_n (lv' := [(3, .int 0), (2, .int 0), (0, .ref a0), (1, .int x1)]) G dX7_labelled_3 rfl (by decide) ⟨fun _ => rfl, fun _ => rfl, fun _ => rfl, trivial⟩ rfl ?_
  refine r_weak (lv' := [(0, .ref a0), (1, .int x1), (2, .int 0), (3, .int 0)]) [2, 3, 1, 0] rfl ?_
  exact nd_X7_labelled_L4 G hno xfuel a0 x1 0 0 w0 hyp
theorem tg_X7_areaSize : xTgt yX7_areaSize cX7_areaSize 3 (some .int) 2 := ⟨ww_656, ww_574, by decide, by decide +kernel, by decide +kernel⟩
section
variable {Γ : xG} {p : Program} {l : Launch} {e : Env} {s : State} {m : MethodId} {args : Array Value} {below : List Frame} {meth : Method} {c : Code} {rF : Int32 ⊕ String} {wF : xW}
set_option maxRecDepth 100000 in
set_option maxHeartbeats 4000000 in
theorem nd_X7_areaSize_J14 (G : xCx Γ p l s m args meth c RX7 cX7_areaSize 3 (some .int)) (hno : ∀ x ∈ c.exceptionTable.toList, False) (a0 : Nat) (x1 : Int32) (x2 : Int32) (s0 : Int32) (s1 : Option Nat) (w0 : xW) (hyp : f_X7_areaSize_J14 a0 x1 x2 s0 s1 w0 = some (rF, wF)) : xAW Γ p l e (xRm 4 (x_mc rF) (x_ms rF)) s m args below meth c 3 (xQm Γ below xI rF wF args s (x_mc rF) (x_ms rF)) w0 0 0 14 [(0, .ref a0), (1, .int x1), (2, .int x2)] [.int s0, va_rf s1] := by
  rw [f_X7_areaSize_J14] at hyp
  refine r_ref hyp (fun a4 ha4 hz => ?_)
  clear hyp; subst ha4; have hyp := hz; clear hz
  obtain ⟨w5, hw5, hyp⟩ := x_some hyp
  refine r_putv (C := RX7) (T := TX7) (N := 22) (ci := 7) G tyX7 tyX7_ok nmX7 0 hw5 rfl uw_7 (Nat.le_of_ble_eq_true rfl) rfl ww_594 rfl rfl rfl dX7_areaSize_14 ?_
  refine r_aload_n G 0 dX7_areaSize_17 rfl rfl ?_
  obtain ⟨v6, hv6, hyp⟩ := x_some hyp
  refine r_getv (C := RX7) (T := TX7) (N := 22) (ci := 7) G 0 (x_geti_e hv6) rfl uw_7 (Nat.le_of_ble_eq_true rfl) rfl ww_594 dX7_areaSize_18 ?_
  refine r_if_le G 26 dX7_areaSize_21 (by decide) hyp (fun c7 hyp => ?_) (fun c7 hyp => ?_)
  · refine r_aload_n G 0 dX7_areaSize_26 rfl rfl ?_
    obtain ⟨o10, hyp⟩ := x_chk hyp
    refine r_callV (ι := xV) (T := TX7) (N := 22) (ci := 7) (b := a0) (rest := []) (As := []) G hno tg_X7_labels (fun r w' h => ct_X7_labels (xhl G) _ _ r w' h) o10 hyp rfl ww_638 ww_640 ww_639 (by decide) (by decide) rfl rfl (xroom (Nat.le_of_ble_eq_true rfl)) dX7_areaSize_27 (push := (fun _ => [])) (fun _ => rfl) (fun _ w8 hyp => ?_)
    refine r_aload_n G 0 dX7_areaSize_30 rfl rfl ?_
    refine r_bipush (v := 8) G dX7_areaSize_31 (by decide) ?_
    refine r_iload_n G 2 dX7_areaSize_33 rfl rfl ?_
    refine r_imul G dX7_areaSize_34 ?_
    refine r_iload_n G 1 dX7_areaSize_35 rfl rfl ?_
    refine r_iadd G dX7_areaSize_36 ?_
    obtain ⟨o13, hyp⟩ := x_chk hyp
    refine r_callV (ι := xI) (T := TX7) (N := 22) (ci := 7) (b := a0) (rest := []) (As := [.int ((8 * x2) + x1)]) G hno tg_X7_labelled (fun r w' h => ct_X7_labelled (xhl G) _ _ _ r w' h) o13 hyp rfl ww_653 ww_655 ww_654 (by decide) (by decide) rfl rfl (xroom (Nat.le_of_ble_eq_true rfl)) dX7_areaSize_37 (push := (fun r12 => [.int r12])) (fun _ => rfl) (fun r12 w11 hyp => ?_)
    exact r_iret G hyp rfl (Nat.zero_le _) (Nat.zero_le _) dX7_areaSize_40
  · refine r_iconst (v := 0) G dX7_areaSize_24 (by decide) ?_
    exact r_iret G hyp rfl (Nat.zero_le _) (Nat.zero_le _) dX7_areaSize_25
end
set_option maxRecDepth 100000 in
set_option maxHeartbeats 4000000 in
theorem ct_X7_areaSize {Γ : xG} {l : Launch} (hl : l.stackTraces = false) (a0 : Nat) (x1 : Int32) (x2 : Int32) (w0 : xW) (rF : Int32 ⊕ String) (wF : xW) (hyp : f_X7_areaSize a0 x1 x2 w0 = some (rF, wF)) : xMet Γ l yX7_areaSize (xws yX7_areaSize cX7_areaSize 3 (some .int)) 4 xI [.ref a0, .int x1, .int x2] w0 rF wF (x_mc rF) (x_ms rF) := by
  refine xOfW tg_X7_areaSize hl (lv0 := [(0, .ref a0), (1, .int x1), (2, .int x2)]) (Nat.le_of_ble_eq_true rfl) rfl ?_
  intro p e s m below meth c G hno hin
  rw [f_X7_areaSize] at hyp
  refine r_aload_n G 0 dX7_areaSize_0 rfl rfl ?_
  refine r_iload_n G 1 dX7_areaSize_1 rfl rfl ?_
  refine r_iload_n G 2 dX7_areaSize_2 rfl rfl ?_
  refine r_callS (ι := xI) (rest := [.ref a0]) (As := [.int x1, .int x2]) G hno tg_X7_isCell (fun r w' h => ct_X7_isCell (xhl G) _ _ _ r w' h) hyp ww_651 ww_652 (by decide) (by decide) rfl rfl (xroom (Nat.le_of_ble_eq_true rfl)) dX7_areaSize_3 (push := (fun r2 => [.int r2, .ref a0])) (fun _ => rfl) (fun r2 w1 hyp => ?_)
  refine r_if_eq G 13 dX7_areaSize_6 (by decide) hyp (fun c3 hyp => ?_) (fun c3 hyp => ?_)
  · refine r_iconst (v := 1) G dX7_areaSize_13 (by decide) ?_
    exact nd_X7_areaSize_J14 G hno a0 x1 x2 1 (some a0) w1 hyp
  · refine r_iconst (v := 0) G dX7_areaSize_9 (by decide) ?_
    refine r_goto G 14 dX7_areaSize_10 (by decide) ?_
    exact nd_X7_areaSize_J14 G hno a0 x1 x2 0 (some a0) w1 hyp
theorem tg_X7_here : xTgt yX7_here cX7_here 2 (some .int) 1 := ⟨ww_659, ww_574, by decide, by decide +kernel, by decide +kernel⟩
section
variable {Γ : xG} {p : Program} {l : Launch} {e : Env} {s : State} {m : MethodId} {args : Array Value} {below : List Frame} {meth : Method} {c : Code} {rF : Int32 ⊕ String} {wF : xW}
end
set_option maxRecDepth 100000 in
set_option maxHeartbeats 4000000 in
theorem ct_X7_here {Γ : xG} {l : Launch} (hl : l.stackTraces = false) (a0 : Nat) (x1 : Int32) (w0 : xW) (rF : Int32 ⊕ String) (wF : xW) (hyp : f_X7_here a0 x1 w0 = some (rF, wF)) : xMet Γ l yX7_here (xws yX7_here cX7_here 2 (some .int)) 0 xI [.ref a0, .int x1] w0 rF wF (x_mc rF) (x_ms rF) := by
  refine xOfW tg_X7_here hl (lv0 := [(0, .ref a0), (1, .int x1)]) (Nat.le_of_ble_eq_true rfl) rfl ?_
  intro p e s m below meth c G hno hin
  rw [f_X7_here] at hyp
  refine r_aload_n G 0 dX7_here_0 rfl rfl ?_
  obtain ⟨v1, hv1, hyp⟩ := x_some hyp
  refine r_getv (C := RX7) (T := TX7) (N := 22) (ci := 7) G 18 (x_geti_e hv1) rfl uw_7 (Nat.le_of_ble_eq_true rfl) rfl ww_657 dX7_here_1 ?_
  refine r_iload_n G 1 dX7_here_4 rfl rfl ?_
  refine r_iadd G dX7_here_5 ?_
  refine r_aload_n G 0 dX7_here_6 rfl rfl ?_
  obtain ⟨v2, hv2, hyp⟩ := x_some hyp
  refine r_getv (C := RX7) (T := TX7) (N := 22) (ci := 7) G 19 (x_geti_e hv2) rfl uw_7 (Nat.le_of_ble_eq_true rfl) rfl ww_658 dX7_here_7 ?_
  refine r_icmp_ge G 27 dX7_here_10 (by decide) hyp (fun c3 hyp => ?_) (fun c3 hyp => ?_)
  · refine r_iconst (v := (-1)) G dX7_here_27 (by decide) ?_
    exact r_iret G hyp rfl (Nat.zero_le _) (Nat.zero_le _) dX7_here_28
  · refine r_aload_n G 0 dX7_here_13 rfl rfl ?_
    obtain ⟨v4, hv4, hyp⟩ := x_some hyp
    refine r_getv (C := RX7) (T := TX7) (N := 22) (ci := 7) G 7 (x_getr_e hv4) rfl uw_7 (Nat.le_of_ble_eq_true rfl) rfl ww_565 dX7_here_14 ?_
    refine r_aload_n G 0 dX7_here_17 rfl rfl ?_
    obtain ⟨v5, hv5, hyp⟩ := x_some hyp
    refine r_getv (C := RX7) (T := TX7) (N := 22) (ci := 7) G 18 (x_geti_e hv5) rfl uw_7 (Nat.le_of_ble_eq_true rfl) rfl ww_657 dX7_here_18 ?_
    refine r_iload_n G 1 dX7_here_21 rfl rfl ?_
    refine r_iadd G dX7_here_22 ?_
    refine r_ref hyp (fun a6 ha6 hz => ?_)
    clear hyp; subst ha6; have hyp := hz; clear hz
    obtain ⟨v7, hv7, hyp⟩ := x_some hyp
    refine r_iald G hv7 dX7_here_23 ?_
    refine r_goto G 28 dX7_here_24 (by decide) ?_
    exact r_iret G hyp rfl (Nat.zero_le _) (Nat.zero_le _) dX7_here_28
theorem tg_X7_number : xTgt yX7_number cX7_number 5 none 2 := ⟨ww_665, ww_574, by decide, by decide +kernel, by decide +kernel⟩
section
variable {Γ : xG} {p : Program} {l : Launch} {e : Env} {s : State} {m : MethodId} {args : Array Value} {below : List Frame} {meth : Method} {c : Code} {rF : Unit ⊕ String} {wF : xW}
set_option maxRecDepth 100000 in
set_option maxHeartbeats 4000000 in
theorem nd_X7_number_J63 (G : xCx Γ p l s m args meth c RX7 cX7_number 5 none) (hno : ∀ x ∈ c.exceptionTable.toList, False) (a0 : Nat) (x1 : Int32) (x3 : Int32) (x4 : Int32) (w0 : xW) (hyp : f_X7_number_J63 a0 x1 x3 x4 w0 = some (rF, wF)) : xAW Γ p l e (xRm 1 (x_mc rF) (x_ms rF)) s m args below meth c 5 (xQm Γ below xV rF wF args s (x_mc rF) (x_ms rF)) w0 0 0 63 [(0, .ref a0), (1, .int x1), (3, .int x3), (4, .int x4)] [] := by
  rw [f_X7_number_J63] at hyp
  refine r_aload_n G 0 dX7_number_63 rfl rfl ?_
  refine r_aload_n G 0 dX7_number_64 rfl rfl ?_
  obtain ⟨v3, hv3, hyp⟩ := x_some hyp
  refine r_getv (C := RX7) (T := TX7) (N := 22) (ci := 7) G 21 (x_geti_e hv3) rfl uw_7 (Nat.le_of_ble_eq_true rfl) rfl ww_660 dX7_number_65 ?_
  refine r_if_ne G 76 dX7_number_68 (by decide) hyp (fun c4 hyp => ?_) (fun c4 hyp => ?_)
  · refine r_iconst (v := 1) G dX7_number_76 (by decide) ?_
    refine r_goto G 81 dX7_number_77 (by decide) ?_
    obtain ⟨w5, hw5, hyp⟩ := x_some hyp
    refine r_putv (C := RX7) (T := TX7) (N := 22) (ci := 7) G tyX7 tyX7_ok nmX7 21 hw5 rfl uw_7 (Nat.le_of_ble_eq_true rfl) rfl ww_660 rfl (by decide) (by decide) dX7_number_81 ?_
    refine r_aload_n G 0 dX7_number_84 rfl rfl ?_
    obtain ⟨v6, hv6, hyp⟩ := x_some hyp
    refine r_getv (C := RX7) (T := TX7) (N := 22) (ci := 7) G 8 (x_getr_e hv6) rfl uw_7 (Nat.le_of_ble_eq_true rfl) rfl ww_566 dX7_number_85 ?_
    refine r_bipush (v := 7) G dX7_number_88 (by decide) ?_
    refine r_aload_n G 0 dX7_number_90 rfl rfl ?_
    obtain ⟨v7, hv7, hyp⟩ := x_some hyp
    refine r_getv (C := RX7) (T := TX7) (N := 22) (ci := 7) G 20 (x_geti_e hv7) rfl uw_7 (Nat.le_of_ble_eq_true rfl) rfl ww_661 dX7_number_91 ?_
    refine r_imul G dX7_number_94 ?_
    refine r_iload_n G 1 dX7_number_95 rfl rfl ?_
    refine r_iadd G dX7_number_96 ?_
    refine r_iload_n G 2 dX7_number_97 rfl rfl ?_
    refine r_ref hyp (fun a8 ha8 hz => ?_)
    clear hyp; subst ha8; have hyp := hz; clear hz
    obtain ⟨w9, hw9, hyp⟩ := x_some hyp
    refine r_iast G hw9 dX7_number_98 ?_
    exact r_vret G hyp (Nat.zero_le _) (Nat.zero_le _) dX7_number_99
  · refine r_iload G 3 dX7_number_71 rfl ?_
    refine r_if_ne G 80 dX7_number_73 (by decide) hyp (fun c10 hyp => ?_) (fun c10 hyp => ?_)
    · refine r_iconst (v := 0) G dX7_number_80 (by decide) ?_
      obtain ⟨w11, hw11, hyp⟩ := x_some hyp
      refine r_putv (C := RX7) (T := TX7) (N := 22) (ci := 7) G tyX7 tyX7_ok nmX7 21 hw11 rfl uw_7 (Nat.le_of_ble_eq_true rfl) rfl ww_660 rfl (by decide) (by decide) dX7_number_81 ?_
      refine r_aload_n G 0 dX7_number_84 rfl rfl ?_
      obtain ⟨v12, hv12, hyp⟩ := x_some hyp
      refine r_getv (C := RX7) (T := TX7) (N := 22) (ci := 7) G 8 (x_getr_e hv12) rfl uw_7 (Nat.le_of_ble_eq_true rfl) rfl ww_566 dX7_number_85 ?_
      refine r_bipush (v := 7) G dX7_number_88 (by decide) ?_
      refine r_aload_n G 0 dX7_number_90 rfl rfl ?_
      obtain ⟨v13, hv13, hyp⟩ := x_some hyp
      refine r_getv (C := RX7) (T := TX7) (N := 22) (ci := 7) G 20 (x_geti_e hv13) rfl uw_7 (Nat.le_of_ble_eq_true rfl) rfl ww_661 dX7_number_91 ?_
      refine r_imul G dX7_number_94 ?_
      refine r_iload_n G 1 dX7_number_95 rfl rfl ?_
      refine r_iadd G dX7_number_96 ?_
      refine r_iload_n G 2 dX7_number_97 rfl rfl ?_
      refine r_ref hyp (fun a14 ha14 hz => ?_)
      clear hyp; subst ha14; have hyp := hz; clear hz
      obtain ⟨w15, hw15, hyp⟩ := x_some hyp
      refine r_iast G hw15 dX7_number_98 ?_
      exact r_vret G hyp (Nat.zero_le _) (Nat.zero_le _) dX7_number_99
    · refine r_iconst (v := 1) G dX7_number_76 (by decide) ?_
      refine r_goto G 81 dX7_number_77 (by decide) ?_
      obtain ⟨w16, hw16, hyp⟩ := x_some hyp
      refine r_putv (C := RX7) (T := TX7) (N := 22) (ci := 7) G tyX7 tyX7_ok nmX7 21 hw16 rfl uw_7 (Nat.le_of_ble_eq_true rfl) rfl ww_660 rfl (by decide) (by decide) dX7_number_81 ?_
      refine r_aload_n G 0 dX7_number_84 rfl rfl ?_
      obtain ⟨v17, hv17, hyp⟩ := x_some hyp
      refine r_getv (C := RX7) (T := TX7) (N := 22) (ci := 7) G 8 (x_getr_e hv17) rfl uw_7 (Nat.le_of_ble_eq_true rfl) rfl ww_566 dX7_number_85 ?_
      refine r_bipush (v := 7) G dX7_number_88 (by decide) ?_
      refine r_aload_n G 0 dX7_number_90 rfl rfl ?_
      obtain ⟨v18, hv18, hyp⟩ := x_some hyp
      refine r_getv (C := RX7) (T := TX7) (N := 22) (ci := 7) G 20 (x_geti_e hv18) rfl uw_7 (Nat.le_of_ble_eq_true rfl) rfl ww_661 dX7_number_91 ?_
      refine r_imul G dX7_number_94 ?_
      refine r_iload_n G 1 dX7_number_95 rfl rfl ?_
      refine r_iadd G dX7_number_96 ?_
      refine r_iload_n G 2 dX7_number_97 rfl rfl ?_
      refine r_ref hyp (fun a19 ha19 hz => ?_)
      clear hyp; subst ha19; have hyp := hz; clear hz
      obtain ⟨w20, hw20, hyp⟩ := x_some hyp
      refine r_iast G hw20 dX7_number_98 ?_
      exact r_vret G hyp (Nat.zero_le _) (Nat.zero_le _) dX7_number_99
set_option maxRecDepth 100000 in
set_option maxHeartbeats 4000000 in
theorem nd_X7_number_L5 (G : xCx Γ p l s m args meth c RX7 cX7_number 5 none) (hno : ∀ x ∈ c.exceptionTable.toList, False) : ∀ (n : Nat) (a0 : Nat) (x1 : Int32) (x2 : Int32) (x3 : Int32) (x4 : Int32) (w0 : xW), f_X7_number_L5 n a0 x1 x2 x3 x4 w0 = some (rF, wF) → xAW Γ p l e (xRm 1 (x_mc rF) (x_ms rF)) s m args below meth c 5 (xQm Γ below xV rF wF args s (x_mc rF) (x_ms rF)) w0 0 0 5 [(0, .ref a0), (1, .int x1), (2, .int x2), (3, .int x3), (4, .int x4)] [] := by
  intro n
  induction n with
  | zero =>
    intro a0 x1 x2 x3 x4 w0 hyp
    cases (show (none : xO Unit) = some (rF, wF) from hyp)
  | succ n ih =>
    intro a0 x1 x2 x3 x4 w0 hyp
    rw [f_X7_number_L5] at hyp
    refine r_aload_n G 0 dX7_number_5 rfl rfl ?_
    obtain ⟨v1, hv1, hyp⟩ := x_some hyp
    refine r_getv (C := RX7) (T := TX7) (N := 22) (ci := 7) G 21 (x_geti_e hv1) rfl uw_7 (Nat.le_of_ble_eq_true rfl) rfl ww_660 dX7_number_6 ?_
    refine r_if_ne G 63 dX7_number_9 (by decide) hyp (fun c2 hyp => ?_) (fun c2 hyp => ?_)
    · refine r_weak (lv' := [(0, .ref a0), (1, .int x1), (3, .int x3), (4, .int x4)]) [0, 1, 3, 4] rfl ?_
      exact nd_X7_number_J63 G hno a0 x1 x3 x4 w0 hyp
    · refine r_iload G 4 dX7_number_12 rfl ?_
      refine r_iload_n G 2 dX7_number_14 rfl rfl ?_
      refine r_icmp_ge G 63 dX7_number_15 (by decide) hyp (fun c21 hyp => ?_) (fun c21 hyp => ?_)
      · refine r_weak (lv' := [(0, .ref a0), (1, .int x1), (3, .int x3), (4, .int x4)]) [0, 1, 3, 4] rfl ?_
        exact nd_X7_number_J63 G hno a0 x1 x3 x4 w0 hyp
      · refine r_aload_n G 0 dX7_number_18 rfl rfl ?_
        refine r_iconst (v := 0) G dX7_number_19 (by decide) ?_
        obtain ⟨o24, hyp⟩ := x_chk hyp
        refine r_callV (ι := xI) (T := TX7) (N := 22) (ci := 7) (b := a0) (rest := []) (As := [.int 0]) G hno tg_X7_here (fun r w' h => ct_X7_here (xhl G) _ _ _ r w' h) o24 hyp rfl ww_662 ww_664 ww_663 (by decide) (by decide) rfl rfl (xroom (Nat.le_of_ble_eq_true rfl)) dX7_number_20 (push := (fun r23 => [.int r23])) (fun _ => rfl) (fun r23 w22 hyp => ?_)
        refine r_bipush (v := 48) G dX7_number_23 (by decide) ?_
        refine r_bipush (v := 57) G dX7_number_25 (by decide) ?_
        refine r_callS (ι := xI) (rest := []) (As := [.int r23, .int 48, .int 57]) G hno tg_X7_in (fun r w' h => ct_X7_in (xhl G) _ _ _ _ r w' h) hyp ww_647 ww_648 (by decide) (by decide) rfl rfl (xroom (Nat.le_of_ble_eq_true rfl)) dX7_number_27 (push := (fun r26 => [.int r26])) (fun _ => rfl) (fun r26 w25 hyp => ?_)
        refine r_if_eq G 63 dX7_number_30 (by decide) hyp (fun c27 hyp => ?_) (fun c27 hyp => ?_)
        · refine r_weak (lv' := [(0, .ref a0), (1, .int x1), (3, .int x3), (4, .int x4)]) [0, 1, 3, 4] rfl ?_
          exact nd_X7_number_J63 G hno a0 x1 x3 x4 w25 hyp
        · refine r_bipush (v := 10) G dX7_number_33 (by decide) ?_
          refine r_iload_n G 3 dX7_number_35 rfl rfl ?_
          refine r_imul G dX7_number_36 ?_
          refine r_aload_n G 0 dX7_number_37 rfl rfl ?_
          refine r_iconst (v := 0) G dX7_number_38 (by decide) ?_
          obtain ⟨o30, hyp⟩ := x_chk hyp
          refine r_callV (ι := xI) (T := TX7) (N := 22) (ci := 7) (b := a0) (rest := [.int (10 * x3)]) (As := [.int 0]) G hno tg_X7_here (fun r w' h => ct_X7_here (xhl G) _ _ _ r w' h) o30 hyp rfl ww_662 ww_664 ww_663 (by decide) (by decide) rfl rfl (xroom (Nat.le_of_ble_eq_true rfl)) dX7_number_39 (push := (fun r29 => [.int r29, .int (10 * x3)])) (fun _ => rfl) (fun r29 w28 hyp => ?_)
          refine r_iadd G dX7_number_42 ?_
          refine r_bipush (v := 48) G dX7_number_43 (by decide) ?_
          refine r_isub G dX7_number_45 ?_
          refine r_istore_n (lv' := [(3, .int (((10 * x3) + r29) - 48)), (0, .ref a0), (1, .int x1), (2, .int x2), (4, .int x4)]) G dX7_number_46 rfl (by decide) ⟨fun _ => rfl, fun _ => rfl, fun _ => rfl, fun _ => rfl, fun _ => rfl, trivial⟩ rfl ?_
          refine r_aload_n G 1 dX7_number_47 rfl rfl ?_
          refine r_dup G dX7_number_48 rfl ?_
          obtain ⟨v31, hv31, hyp⟩ := x_some hyp
          refine r_getv (C := RX7) (T := TX7) (N := 22) (ci := 7) G 18 (x_geti_e hv31) rfl uw_7 (Nat.le_of_ble_eq_true rfl) rfl ww_657 dX7_number_49 ?_
          refine r_iconst (v := 1) G dX7_number_52 (by decide) ?_
          refine r_iadd G dX7_number_53 ?_
          obtain ⟨w32, hw32, hyp⟩ := x_some hyp
          refine r_putv (C := RX7) (T := TX7) (N := 22) (ci := 7) G tyX7 tyX7_ok nmX7 18 hw32 rfl uw_7 (Nat.le_of_ble_eq_true rfl) rfl ww_657 rfl rfl rfl dX7_number_54 ?_
          refine r_iinc (v := (x4 + 1)) (lv' := [(4, .int (x4 + 1)), (3, .int (((10 * x3) + r29) - 48)), (0, .ref a0), (1, .int x1), (2, .int x2)]) G 4 dX7_number_57 rfl rfl (by decide) ⟨fun _ => rfl, fun _ => rfl, fun _ => rfl, fun _ => rfl, fun _ => rfl, trivial⟩ rfl ?_
          refine r_goto G 5 dX7_number_60 (by decide) ?_
          refine r_weak (lv' := [(0, .ref a0), (1, .int x1), (2, .int x2), (3, .int (((10 * x3) + r29) - 48)), (4, .int (x4 + 1))]) [2, 3, 4, 1, 0] rfl ?_
          exact ih a0 x1 x2 (((10 * x3) + r29) - 48) (x4 + 1) w32 hyp
end
set_option maxRecDepth 100000 in
set_option maxHeartbeats 4000000 in
theorem ct_X7_number {Γ : xG} {l : Launch} (hl : l.stackTraces = false) (a0 : Nat) (x1 : Int32) (x2 : Int32) (w0 : xW) (rF : Unit ⊕ String) (wF : xW) (hyp : f_X7_number a0 x1 x2 w0 = some (rF, wF)) : xMet Γ l yX7_number (xws yX7_number cX7_number 5 none) 1 xV [.ref a0, .int x1, .int x2] w0 rF wF (x_mc rF) (x_ms rF) := by
  refine xOfW tg_X7_number hl (lv0 := [(0, .ref a0), (1, .int x1), (2, .int x2)]) (Nat.le_of_ble_eq_true rfl) rfl ?_
  intro p e s m below meth c G hno hin
  rw [f_X7_number] at hyp
  refine r_iconst (v := 0) G dX7_number_0 (by decide) ?_
  refine r_istore_n (lv' := [(3, .int 0), (0, .ref a0), (1, .int x1), (2, .int x2)]) G dX7_number_1 rfl (by decide) ⟨fun _ => rfl, fun _ => rfl, fun _ => rfl, trivial⟩ rfl ?_
  refine r_iconst (v := 0) G dX7_number_2 (by decide) ?_
  refine r_istore (lv' := [(4, .int 0), (3, .int 0), (0, .ref a0), (1, .int x1), (2, .int x2)]) G dX7_number_3 (by decide) ⟨fun _ => rfl, fun _ => rfl, fun _ => rfl, fun _ => rfl, trivial⟩ rfl ?_
  refine r_weak (lv' := [(0, .ref a0), (1, .int x1), (2, .int x2), (3, .int 0), (4, .int 0)]) [2, 3, 4, 1, 0] rfl ?_
  exact nd_X7_number_L5 G hno xfuel a0 x1 x2 0 0 w0 hyp
theorem tg_X7_says : xTgt yX7_says cX7_says 3 none 1 := ⟨ww_668, ww_574, by decide, by decide +kernel, by decide +kernel⟩
section
variable {Γ : xG} {p : Program} {l : Launch} {e : Env} {s : State} {m : MethodId} {args : Array Value} {below : List Frame} {meth : Method} {c : Code} {rF : Unit ⊕ String} {wF : xW}
set_option maxRecDepth 100000 in
set_option maxHeartbeats 4000000 in
theorem nd_X7_says_J36 {k2 : Nat → Nat → Int32 → xW → xO Unit} (G : xCx Γ p l s m args meth c RX7 cX7_says 3 none) (hno : ∀ x ∈ c.exceptionTable.toList, False) (hk2 : ∀ (a0 : Nat) (x1 : Nat) (x2 : Int32) (w : xW), k2 a0 x1 x2 w = some (rF, wF) → xAW Γ p l e (xRm 4 (x_mc rF) (x_ms rF)) s m args below meth c 3 (xQm Γ below xV rF wF args s (x_mc rF) (x_ms rF)) w 0 0 2 [(0, .ref a0), (1, .ref (Γ.2.2.2.1 x1)), (2, .int x2)] []) (a0 : Nat) (x1 : Nat) (x2 : Int32) (s0 : Int32) (s1 : Option Nat) (w0 : xW) (hyp : f_X7_says_J36 k2 a0 x1 x2 s0 s1 w0 = some (rF, wF)) : xAW Γ p l e (xRm 4 (x_mc rF) (x_ms rF)) s m args below meth c 3 (xQm Γ below xV rF wF args s (x_mc rF) (x_ms rF)) w0 0 0 36 [(0, .ref a0), (1, .ref (Γ.2.2.2.1 x1)), (2, .int x2)] [.int s0, va_rf s1] := by
  rw [f_X7_says_J36] at hyp
  refine r_ref hyp (fun a14 ha14 hz => ?_)
  clear hyp; subst ha14; have hyp := hz; clear hz
  obtain ⟨h15, hyp⟩ := x_chk hyp
  obtain ⟨w16, hw16, hyp⟩ := x_some hyp
  refine r_putv (C := RX7) (T := TX7) (N := 22) (ci := 7) G tyX7 tyX7_ok nmX7 21 hw16 rfl uw_7 (Nat.le_of_ble_eq_true rfl) rfl ww_660 rfl (xnz h15).1 (xnz h15).2 dX7_says_36 ?_
  refine r_aload_n G 0 dX7_says_39 rfl rfl ?_
  refine r_dup G dX7_says_40 rfl ?_
  obtain ⟨v17, hv17, hyp⟩ := x_some hyp
  refine r_getv (C := RX7) (T := TX7) (N := 22) (ci := 7) G 18 (x_geti_e hv17) rfl uw_7 (Nat.le_of_ble_eq_true rfl) rfl ww_657 dX7_says_41 ?_
  refine r_aload_n G 0 dX7_says_44 rfl rfl ?_
  obtain ⟨v18, hv18, hyp⟩ := x_some hyp
  refine r_getv (C := RX7) (T := TX7) (N := 22) (ci := 7) G 21 (x_geti_e hv18) rfl uw_7 (Nat.le_of_ble_eq_true rfl) rfl ww_660 dX7_says_45 ?_
  refine r_if_eq G 55 dX7_says_48 (by decide) hyp (fun c19 hyp => ?_) (fun c19 hyp => ?_)
  · refine r_iconst (v := 1) G dX7_says_55 (by decide) ?_
    refine r_iadd G dX7_says_56 ?_
    obtain ⟨w20, hw20, hyp⟩ := x_some hyp
    refine r_putv (C := RX7) (T := TX7) (N := 22) (ci := 7) G tyX7 tyX7_ok nmX7 18 hw20 rfl uw_7 (Nat.le_of_ble_eq_true rfl) rfl ww_657 rfl rfl rfl dX7_says_57 ?_
    refine r_iinc (v := (x2 + 1)) (lv' := [(2, .int (x2 + 1)), (0, .ref a0), (1, .ref (Γ.2.2.2.1 x1))]) G 2 dX7_says_60 rfl rfl (by decide) ⟨fun _ => rfl, fun _ => rfl, fun _ => rfl, trivial⟩ rfl ?_
    refine r_goto G 2 dX7_says_63 (by decide) ?_
    refine r_weak (lv' := [(0, .ref a0), (1, .ref (Γ.2.2.2.1 x1)), (2, .int (x2 + 1))]) [1, 2, 0] rfl ?_
    exact hk2 a0 x1 (x2 + 1) w20 hyp
  · refine r_iconst (v := 0) G dX7_says_51 (by decide) ?_
    refine r_goto G 56 dX7_says_52 (by decide) ?_
    refine r_iadd G dX7_says_56 ?_
    obtain ⟨w21, hw21, hyp⟩ := x_some hyp
    refine r_putv (C := RX7) (T := TX7) (N := 22) (ci := 7) G tyX7 tyX7_ok nmX7 18 hw21 rfl uw_7 (Nat.le_of_ble_eq_true rfl) rfl ww_657 rfl rfl rfl dX7_says_57 ?_
    refine r_iinc (v := (x2 + 1)) (lv' := [(2, .int (x2 + 1)), (0, .ref a0), (1, .ref (Γ.2.2.2.1 x1))]) G 2 dX7_says_60 rfl rfl (by decide) ⟨fun _ => rfl, fun _ => rfl, fun _ => rfl, trivial⟩ rfl ?_
    refine r_goto G 2 dX7_says_63 (by decide) ?_
    refine r_weak (lv' := [(0, .ref a0), (1, .ref (Γ.2.2.2.1 x1)), (2, .int (x2 + 1))]) [1, 2, 0] rfl ?_
    exact hk2 a0 x1 (x2 + 1) w21 hyp
set_option maxRecDepth 100000 in
set_option maxHeartbeats 4000000 in
theorem nd_X7_says_L2 (G : xCx Γ p l s m args meth c RX7 cX7_says 3 none) (hno : ∀ x ∈ c.exceptionTable.toList, False) : ∀ (n : Nat) (a0 : Nat) (x1 : Nat) (x2 : Int32) (w0 : xW), f_X7_says_L2 n a0 x1 x2 w0 = some (rF, wF) → xAW Γ p l e (xRm 4 (x_mc rF) (x_ms rF)) s m args below meth c 3 (xQm Γ below xV rF wF args s (x_mc rF) (x_ms rF)) w0 0 0 2 [(0, .ref a0), (1, .ref (Γ.2.2.2.1 x1)), (2, .int x2)] [] := by
  intro n
  induction n with
  | zero =>
    intro a0 x1 x2 w0 hyp
    cases (show (none : xO Unit) = some (rF, wF) from hyp)
  | succ n ih =>
    intro a0 x1 x2 w0 hyp
    rw [f_X7_says_L2] at hyp
    refine r_iload_n G 2 dX7_says_2 rfl rfl ?_
    refine r_aload_n G 1 dX7_says_3 rfl rfl ?_
    obtain ⟨o3, hyp⟩ := x_chk hyp
    refine r_callStr (ι := xI) (i := x1) (rest := [.int x2]) (As := []) G hno o3 rfl tg_J0_length_8abf5 (fun r w' h => ct_J0_length_8abf5 (xhl G) _ _ r w' h) hyp ww_666 ww_304 ww_305 (by decide) (by decide) rfl rfl (xroom (Nat.le_of_ble_eq_true rfl)) dX7_says_4 (push := (fun r2 => [.int r2, .int x2])) (fun _ => rfl) (fun r2 w1 hyp => ?_)
    refine r_icmp_ge G 66 dX7_says_7 (by decide) hyp (fun c4 hyp => ?_) (fun c4 hyp => ?_)
    · exact r_vret G hyp (Nat.zero_le _) (Nat.zero_le _) dX7_says_66
    · refine r_aload_n G 0 dX7_says_10 rfl rfl ?_
      obtain ⟨v5, hv5, hyp⟩ := x_some hyp
      refine r_getv (C := RX7) (T := TX7) (N := 22) (ci := 7) G 21 (x_geti_e hv5) rfl uw_7 (Nat.le_of_ble_eq_true rfl) rfl ww_660 dX7_says_11 ?_
      refine r_if_ne G 66 dX7_says_14 (by decide) hyp (fun c6 hyp => ?_) (fun c6 hyp => ?_)
      · exact r_vret G hyp (Nat.zero_le _) (Nat.zero_le _) dX7_says_66
      · refine r_aload_n G 0 dX7_says_17 rfl rfl ?_
        refine r_aload_n G 0 dX7_says_18 rfl rfl ?_
        refine r_iconst (v := 0) G dX7_says_19 (by decide) ?_
        obtain ⟨o9, hyp⟩ := x_chk hyp
        refine r_callV (ι := xI) (T := TX7) (N := 22) (ci := 7) (b := a0) (rest := [.ref a0]) (As := [.int 0]) G hno tg_X7_here (fun r w' h => ct_X7_here (xhl G) _ _ _ r w' h) o9 hyp rfl ww_662 ww_664 ww_663 (by decide) (by decide) rfl rfl (xroom (Nat.le_of_ble_eq_true rfl)) dX7_says_20 (push := (fun r8 => [.int r8, .ref a0])) (fun _ => rfl) (fun r8 w7 hyp => ?_)
        refine r_aload_n G 1 dX7_says_23 rfl rfl ?_
        refine r_iload_n G 2 dX7_says_24 rfl rfl ?_
        obtain ⟨o12, hyp⟩ := x_chk hyp
        refine r_callStr (ι := xI) (i := x1) (rest := [.int r8, .ref a0]) (As := [.int x2]) G hno o12 rfl tg_J0_charAt_5068e (fun r w' h => ct_J0_charAt_5068e (xhl G) _ _ _ r w' h) hyp ww_667 ww_307 ww_308 (by decide) (by decide) rfl rfl (xroom (Nat.le_of_ble_eq_true rfl)) dX7_says_25 (push := (fun r11 => [.int r11, .int r8, .ref a0])) (fun _ => rfl) (fun r11 w10 hyp => ?_)
        refine r_icmp_eq G 35 dX7_says_28 (by decide) hyp (fun c13 hyp => ?_) (fun c13 hyp => ?_)
        · refine r_iconst (v := 0) G dX7_says_35 (by decide) ?_
          exact nd_X7_says_J36 G hno ih a0 x1 x2 0 (some a0) w10 hyp
        · refine r_iconst (v := 1) G dX7_says_31 (by decide) ?_
          refine r_goto G 36 dX7_says_32 (by decide) ?_
          exact nd_X7_says_J36 G hno ih a0 x1 x2 1 (some a0) w10 hyp
end
set_option maxRecDepth 100000 in
set_option maxHeartbeats 4000000 in
theorem ct_X7_says {Γ : xG} {l : Launch} (hl : l.stackTraces = false) (a0 : Nat) (x1 : Nat) (w0 : xW) (rF : Unit ⊕ String) (wF : xW) (hyp : f_X7_says a0 x1 w0 = some (rF, wF)) : xMet Γ l yX7_says (xws yX7_says cX7_says 3 none) 4 xV [.ref a0, .ref (Γ.2.2.2.1 x1)] w0 rF wF (x_mc rF) (x_ms rF) := by
  refine xOfW tg_X7_says hl (lv0 := [(0, .ref a0), (1, .ref (Γ.2.2.2.1 x1))]) (Nat.le_of_ble_eq_true rfl) rfl ?_
  intro p e s m below meth c G hno hin
  rw [f_X7_says] at hyp
  refine r_iconst (v := 0) G dX7_says_0 (by decide) ?_
  refine r_istore_n (lv' := [(2, .int 0), (0, .ref a0), (1, .ref (Γ.2.2.2.1 x1))]) G dX7_says_1 rfl (by decide) ⟨fun _ => rfl, fun _ => rfl, trivial⟩ rfl ?_
  refine r_weak (lv' := [(0, .ref a0), (1, .ref (Γ.2.2.2.1 x1)), (2, .int 0)]) [1, 2, 0] rfl ?_
  exact nd_X7_says_L2 G hno xfuel a0 x1 0 w0 hyp
theorem tg_X7_begun : xTgt yX7_begun cX7_begun 3 none 2 := ⟨ww_675, ww_574, by decide, by decide +kernel, by decide +kernel⟩
section
variable {Γ : xG} {p : Program} {l : Launch} {e : Env} {s : State} {m : MethodId} {args : Array Value} {below : List Frame} {meth : Method} {c : Code} {rF : Unit ⊕ String} {wF : xW}
end
set_option maxRecDepth 100000 in
set_option maxHeartbeats 4000000 in
theorem ct_X7_begun {Γ : xG} {l : Launch} (hl : l.stackTraces = false) (a0 : Nat) (x1 : Int32) (x2 : Nat) (w0 : xW) (rF : Unit ⊕ String) (wF : xW) (hyp : f_X7_begun a0 x1 x2 w0 = some (rF, wF)) : xMet Γ l yX7_begun (xws yX7_begun cX7_begun 3 none) 5 xV [.ref a0, .int x1, .ref (Γ.2.2.2.1 x2)] w0 rF wF (x_mc rF) (x_ms rF) := by
  refine xOfW tg_X7_begun hl (lv0 := [(0, .ref a0), (1, .int x1), (2, .ref (Γ.2.2.2.1 x2))]) (Nat.le_of_ble_eq_true rfl) rfl ?_
  intro p e s m below meth c G hno hin
  rw [f_X7_begun] at hyp
  refine r_aload_n G 0 dX7_begun_0 rfl rfl ?_
  obtain ⟨v1, hv1, hyp⟩ := x_some hyp
  refine r_getv (C := RX7) (T := TX7) (N := 22) (ci := 7) G 8 (x_getr_e hv1) rfl uw_7 (Nat.le_of_ble_eq_true rfl) rfl ww_566 dX7_begun_1 ?_
  refine r_bipush (v := 7) G dX7_begun_4 (by decide) ?_
  refine r_aload_n G 0 dX7_begun_6 rfl rfl ?_
  obtain ⟨v2, hv2, hyp⟩ := x_some hyp
  refine r_getv (C := RX7) (T := TX7) (N := 22) (ci := 7) G 20 (x_geti_e hv2) rfl uw_7 (Nat.le_of_ble_eq_true rfl) rfl ww_661 dX7_begun_7 ?_
  refine r_imul G dX7_begun_10 ?_
  refine r_iload_n G 1 dX7_begun_11 rfl rfl ?_
  refine r_ref hyp (fun a3 ha3 hz => ?_)
  clear hyp; subst ha3; have hyp := hz; clear hz
  obtain ⟨w4, hw4, hyp⟩ := x_some hyp
  refine r_iast G hw4 dX7_begun_12 ?_
  refine r_aload_n G 0 dX7_begun_13 rfl rfl ?_
  refine r_aload_n G 2 dX7_begun_14 rfl rfl ?_
  obtain ⟨o7, hyp⟩ := x_chk hyp
  refine r_callV (ι := xV) (T := TX7) (N := 22) (ci := 7) (b := a0) (rest := []) (As := [.ref (Γ.2.2.2.1 x2)]) G hno tg_X7_says (fun r w' h => ct_X7_says (xhl G) _ _ _ r w' h) o7 hyp rfl ww_669 ww_671 ww_670 (by decide) (by decide) rfl rfl (xroom (Nat.le_of_ble_eq_true rfl)) dX7_begun_15 (push := (fun _ => [])) (fun _ => rfl) (fun _ w5 hyp => ?_)
  refine r_aload_n G 0 dX7_begun_18 rfl rfl ?_
  refine r_ldcs G 36 dX7_begun_19 lit_36 ?_
  obtain ⟨o10, hyp⟩ := x_chk hyp
  refine r_callV (ι := xV) (T := TX7) (N := 22) (ci := 7) (b := a0) (rest := []) (As := [.ref (Γ.2.2.2.1 36)]) G hno tg_X7_says (fun r w' h => ct_X7_says (xhl G) _ _ _ r w' h) o10 hyp rfl ww_669 ww_671 ww_670 (by decide) (by decide) rfl rfl (xroom (Nat.le_of_ble_eq_true rfl)) dX7_begun_21 (push := (fun _ => [])) (fun _ => rfl) (fun _ w8 hyp => ?_)
  refine r_aload_n G 0 dX7_begun_24 rfl rfl ?_
  refine r_iconst (v := 1) G dX7_begun_25 (by decide) ?_
  refine r_iconst (v := 1) G dX7_begun_26 (by decide) ?_
  obtain ⟨o13, hyp⟩ := x_chk hyp
  refine r_callV (ι := xV) (T := TX7) (N := 22) (ci := 7) (b := a0) (rest := []) (As := [.int 1, .int 1]) G hno tg_X7_number (fun r w' h => ct_X7_number (xhl G) _ _ _ _ r w' h) o13 hyp rfl ww_672 ww_674 ww_673 (by decide) (by decide) rfl rfl (xroom (Nat.le_of_ble_eq_true rfl)) dX7_begun_27 (push := (fun _ => [])) (fun _ => rfl) (fun _ w11 hyp => ?_)
  exact r_vret G hyp (Nat.zero_le _) (Nat.zero_le _) dX7_begun_30
theorem tg_X7_full : xTgt yX7_full cX7_full 4 (some .int) 1 := ⟨ww_676, ww_574, by decide, by decide +kernel, by decide +kernel⟩
section
variable {Γ : xG} {p : Program} {l : Launch} {e : Env} {s : State} {m : MethodId} {args : Array Value} {below : List Frame} {meth : Method} {c : Code} {rF : Int32 ⊕ String} {wF : xW}
set_option maxRecDepth 100000 in
set_option maxHeartbeats 4000000 in
theorem nd_X7_full_L4 (G : xCx Γ p l s m args meth c RX7 cX7_full 4 (some .int)) (hno : ∀ x ∈ c.exceptionTable.toList, False) : ∀ (n : Nat) (a0 : Nat) (x1 : Int32) (x2 : Int32) (x3 : Int32) (w0 : xW), f_X7_full_L4 n a0 x1 x2 x3 w0 = some (rF, wF) → xAW Γ p l e (xRm 1 (x_mc rF) (x_ms rF)) s m args below meth c 4 (xQm Γ below xI rF wF args s (x_mc rF) (x_ms rF)) w0 0 0 4 [(0, .ref a0), (1, .int x1), (2, .int x2), (3, .int x3)] [] := by
  intro n
  induction n with
  | zero =>
    intro a0 x1 x2 x3 w0 hyp
    cases (show (none : xO Int32) = some (rF, wF) from hyp)
  | succ n ih =>
    intro a0 x1 x2 x3 w0 hyp
    rw [f_X7_full_L4] at hyp
    refine r_iload_n G 3 dX7_full_4 rfl rfl ?_
    refine r_bipush (v := 48) G dX7_full_5 (by decide) ?_
    refine r_icmp_ge G 33 dX7_full_7 (by decide) hyp (fun c1 hyp => ?_) (fun c1 hyp => ?_)
    · refine r_iload_n G 2 dX7_full_33 rfl rfl ?_
      exact r_iret G hyp rfl (Nat.zero_le _) (Nat.zero_le _) dX7_full_34
    · refine r_iload_n G 2 dX7_full_10 rfl rfl ?_
      refine r_aload_n G 0 dX7_full_11 rfl rfl ?_
      refine r_iload_n G 1 dX7_full_12 rfl rfl ?_
      refine r_iload_n G 3 dX7_full_13 rfl rfl ?_
      obtain ⟨o4, hyp⟩ := x_chk hyp
      refine r_callV (ι := xI) (T := TX7) (N := 22) (ci := 7) (b := a0) (rest := [.int x2]) (As := [.int x1, .int x3]) G hno tg_X7_at (fun r w' h => ct_X7_at (xhl G) _ _ _ _ r w' h) o4 hyp rfl ww_621 ww_623 ww_622 (by decide) (by decide) rfl rfl (xroom (Nat.le_of_ble_eq_true rfl)) dX7_full_14 (push := (fun r3 => [.int r3, .int x2])) (fun _ => rfl) (fun r3 w2 hyp => ?_)
      refine r_if_le G 24 dX7_full_17 (by decide) hyp (fun c5 hyp => ?_) (fun c5 hyp => ?_)
      · refine r_iconst (v := 0) G dX7_full_24 (by decide) ?_
        refine r_iadd G dX7_full_25 ?_
        refine r_istore_n (lv' := [(2, .int (x2 + 0)), (0, .ref a0), (1, .int x1), (3, .int x3)]) G dX7_full_26 rfl (by decide) ⟨fun _ => rfl, fun _ => rfl, fun _ => rfl, fun _ => rfl, trivial⟩ rfl ?_
        refine r_iinc (v := (x3 + 1)) (lv' := [(3, .int (x3 + 1)), (2, .int (x2 + 0)), (0, .ref a0), (1, .int x1)]) G 3 dX7_full_27 rfl rfl (by decide) ⟨fun _ => rfl, fun _ => rfl, fun _ => rfl, fun _ => rfl, trivial⟩ rfl ?_
        refine r_goto G 4 dX7_full_30 (by decide) ?_
        refine r_weak (lv' := [(0, .ref a0), (1, .int x1), (2, .int (x2 + 0)), (3, .int (x3 + 1))]) [2, 3, 1, 0] rfl ?_
        exact ih a0 x1 (x2 + 0) (x3 + 1) w2 hyp
      · refine r_iconst (v := 1) G dX7_full_20 (by decide) ?_
        refine r_goto G 25 dX7_full_21 (by decide) ?_
        refine r_iadd G dX7_full_25 ?_
        refine r_istore_n (lv' := [(2, .int (x2 + 1)), (0, .ref a0), (1, .int x1), (3, .int x3)]) G dX7_full_26 rfl (by decide) ⟨fun _ => rfl, fun _ => rfl, fun _ => rfl, fun _ => rfl, trivial⟩ rfl ?_
        refine r_iinc (v := (x3 + 1)) (lv' := [(3, .int (x3 + 1)), (2, .int (x2 + 1)), (0, .ref a0), (1, .int x1)]) G 3 dX7_full_27 rfl rfl (by decide) ⟨fun _ => rfl, fun _ => rfl, fun _ => rfl, fun _ => rfl, trivial⟩ rfl ?_
        refine r_goto G 4 dX7_full_30 (by decide) ?_
        refine r_weak (lv' := [(0, .ref a0), (1, .int x1), (2, .int (x2 + 1)), (3, .int (x3 + 1))]) [2, 3, 1, 0] rfl ?_
        exact ih a0 x1 (x2 + 1) (x3 + 1) w2 hyp
end
set_option maxRecDepth 100000 in
set_option maxHeartbeats 4000000 in
theorem ct_X7_full {Γ : xG} {l : Launch} (hl : l.stackTraces = false) (a0 : Nat) (x1 : Int32) (w0 : xW) (rF : Int32 ⊕ String) (wF : xW) (hyp : f_X7_full a0 x1 w0 = some (rF, wF)) : xMet Γ l yX7_full (xws yX7_full cX7_full 4 (some .int)) 1 xI [.ref a0, .int x1] w0 rF wF (x_mc rF) (x_ms rF) := by
  refine xOfW tg_X7_full hl (lv0 := [(0, .ref a0), (1, .int x1)]) (Nat.le_of_ble_eq_true rfl) rfl ?_
  intro p e s m below meth c G hno hin
  rw [f_X7_full] at hyp
  refine r_iconst (v := 0) G dX7_full_0 (by decide) ?_
  refine r_istore_n (lv' := [(2, .int 0), (0, .ref a0), (1, .int x1)]) G dX7_full_1 rfl (by decide) ⟨fun _ => rfl, fun _ => rfl, trivial⟩ rfl ?_
  refine r_iconst (v := 0) G dX7_full_2 (by decide) ?_
  refine r_istore_n (lv' := [(3, .int 0), (2, .int 0), (0, .ref a0), (1, .int x1)]) G dX7_full_3 rfl (by decide) ⟨fun _ => rfl, fun _ => rfl, fun _ => rfl, trivial⟩ rfl ?_
  refine r_weak (lv' := [(0, .ref a0), (1, .int x1), (2, .int 0), (3, .int 0)]) [2, 3, 1, 0] rfl ?_
  exact nd_X7_full_L4 G hno xfuel a0 x1 0 0 w0 hyp
theorem tg_X7_isLayer : xTgt yX7_isLayer cX7_isLayer 2 (some .boolean) 1 := ⟨ww_677, ww_574, by decide, by decide +kernel, by decide +kernel⟩
section
variable {Γ : xG} {p : Program} {l : Launch} {e : Env} {s : State} {m : MethodId} {args : Array Value} {below : List Frame} {meth : Method} {c : Code} {rF : Int32 ⊕ String} {wF : xW}
end
set_option maxRecDepth 100000 in
set_option maxHeartbeats 4000000 in
theorem ct_X7_isLayer {Γ : xG} {l : Launch} (hl : l.stackTraces = false) (a0 : Nat) (x1 : Int32) (w0 : xW) (rF : Int32 ⊕ String) (wF : xW) (hyp : f_X7_isLayer a0 x1 w0 = some (rF, wF)) : xMet Γ l yX7_isLayer (xws yX7_isLayer cX7_isLayer 2 (some .boolean)) 1 xI [.ref a0, .int x1] w0 rF wF (x_mc rF) (x_ms rF) := by
  refine xOfW tg_X7_isLayer hl (lv0 := [(0, .ref a0), (1, .int x1)]) (Nat.le_of_ble_eq_true rfl) rfl ?_
  intro p e s m below meth c G hno hin
  rw [f_X7_isLayer] at hyp
  refine r_iload_n G 1 dX7_isLayer_0 rfl rfl ?_
  refine r_iconst (v := 0) G dX7_isLayer_1 (by decide) ?_
  refine r_aload_n G 0 dX7_isLayer_2 rfl rfl ?_
  obtain ⟨v1, hv1, hyp⟩ := x_some hyp
  refine r_getv (C := RX7) (T := TX7) (N := 22) (ci := 7) G 1 (x_getr_e hv1) rfl uw_7 (Nat.le_of_ble_eq_true rfl) rfl ww_561 dX7_isLayer_3 ?_
  refine r_iconst (v := 0) G dX7_isLayer_6 (by decide) ?_
  refine r_ref hyp (fun a2 ha2 hz => ?_)
  clear hyp; subst ha2; have hyp := hz; clear hz
  obtain ⟨v3, hv3, hyp⟩ := x_some hyp
  refine r_iald G hv3 dX7_isLayer_7 ?_
  refine r_iconst (v := 1) G dX7_isLayer_8 (by decide) ?_
  refine r_isub G dX7_isLayer_9 ?_
  refine r_callS (ι := xI) (rest := []) (As := [.int x1, .int 0, .int (v3 - 1)]) G hno tg_X7_in (fun r w' h => ct_X7_in (xhl G) _ _ _ _ r w' h) hyp ww_647 ww_648 (by decide) (by decide) rfl rfl (xroom (Nat.le_of_ble_eq_true rfl)) dX7_isLayer_10 (push := (fun r5 => [.int r5])) (fun _ => rfl) (fun r5 w4 hyp => ?_)
  obtain ⟨h6, hyp⟩ := x_chk hyp
  exact r_iret G hyp (xnz h6).1 (Nat.zero_le _) (Nat.zero_le _) dX7_isLayer_13
theorem tg_X7_casts : xTgt yX7_casts cX7_casts 7 (some .int) 2 := ⟨ww_684, ww_574, by decide, by decide +kernel, by decide +kernel⟩
section
variable {Γ : xG} {p : Program} {l : Launch} {e : Env} {s : State} {m : MethodId} {args : Array Value} {below : List Frame} {meth : Method} {c : Code} {rF : Int32 ⊕ String} {wF : xW}
set_option maxRecDepth 100000 in
set_option maxHeartbeats 4000000 in
theorem nd_X7_casts_L57 (G : xCx Γ p l s m args meth c RX7 cX7_casts 7 (some .int)) (hno : ∀ x ∈ c.exceptionTable.toList, False) : ∀ (n : Nat) (a0 : Nat) (x1 : Int32) (x2 : Int32) (x3 : Int32) (x4 : Int32) (w0 : xW), f_X7_casts_L57 n a0 x1 x2 x3 x4 w0 = some (rF, wF) → xAW Γ p l e (xRm 2 (x_mc rF) (x_ms rF)) s m args below meth c 7 (xQm Γ below xI rF wF args s (x_mc rF) (x_ms rF)) w0 0 0 57 [(0, .ref a0), (1, .int x1), (2, .int x2), (3, .int x3), (4, .int x4)] [] := by
  intro n
  induction n with
  | zero =>
    intro a0 x1 x2 x3 x4 w0 hyp
    cases (show (none : xO Int32) = some (rF, wF) from hyp)
  | succ n ih =>
    intro a0 x1 x2 x3 x4 w0 hyp
    rw [f_X7_casts_L57] at hyp
    refine r_iload G 4 dX7_casts_57 rfl ?_
    refine r_bipush (v := 48) G dX7_casts_59 (by decide) ?_
    refine r_icmp_ge G 126 dX7_casts_61 (by decide) hyp (fun c18 hyp => ?_) (fun c18 hyp => ?_)
    · refine r_aload_n G 0 dX7_casts_126 rfl rfl ?_
      obtain ⟨v19, hv19, hyp⟩ := x_some hyp
      refine r_getv (C := RX7) (T := TX7) (N := 22) (ci := 7) G 1 (x_getr_e hv19) rfl uw_7 (Nat.le_of_ble_eq_true rfl) rfl ww_561 dX7_casts_127 ?_
      refine r_iconst (v := 1) G dX7_casts_130 (by decide) ?_
      refine r_dup2 G dX7_casts_131 rfl (xcq _) ?_
      refine r_ref hyp (fun a20 ha20 hz => ?_)
      clear hyp; subst ha20; have hyp := hz; clear hz
      obtain ⟨v21, hv21, hyp⟩ := x_some hyp
      refine r_iald G hv21 dX7_casts_132 ?_
      refine r_aload_n G 0 dX7_casts_133 rfl rfl ?_
      refine r_iload_n G 3 dX7_casts_134 rfl rfl ?_
      obtain ⟨o24, hyp⟩ := x_chk hyp
      refine r_callV (ι := xI) (T := TX7) (N := 22) (ci := 7) (b := a0) (rest := [.int v21, .int 1, .ref a20]) (As := [.int x3]) G hno tg_X7_full (fun r w' h => ct_X7_full (xhl G) _ _ _ r w' h) o24 hyp rfl ww_681 ww_683 ww_682 (by decide) (by decide) rfl rfl (xroom (Nat.le_of_ble_eq_true rfl)) dX7_casts_135 (push := (fun r23 => [.int r23, .int v21, .int 1, .ref a20])) (fun _ => rfl) (fun r23 w22 hyp => ?_)
      refine r_iadd G dX7_casts_138 ?_
      obtain ⟨w25, hw25, hyp⟩ := x_some hyp
      refine r_iast G hw25 dX7_casts_139 ?_
      refine r_aload_n G 0 dX7_casts_140 rfl rfl ?_
      refine r_aload_n G 0 dX7_casts_141 rfl rfl ?_
      refine r_iload_n G 3 dX7_casts_142 rfl rfl ?_
      obtain ⟨o28, hyp⟩ := x_chk hyp
      refine r_callV (ι := xI) (T := TX7) (N := 22) (ci := 7) (b := a0) (rest := [.ref a0]) (As := [.int x3]) G hno tg_X7_full (fun r w' h => ct_X7_full (xhl G) _ _ _ r w' h) o28 hyp rfl ww_681 ww_683 ww_682 (by decide) (by decide) rfl rfl (xroom (Nat.le_of_ble_eq_true rfl)) dX7_casts_143 (push := (fun r27 => [.int r27, .ref a0])) (fun _ => rfl) (fun r27 w26 hyp => ?_)
      obtain ⟨o31, hyp⟩ := x_chk hyp
      refine r_callV (ι := xI) (T := TX7) (N := 22) (ci := 7) (b := a0) (rest := []) (As := [.int r27]) G hno tg_X7_done (fun r w' h => ct_X7_done (xhl G) _ _ _ r w' h) o31 hyp rfl ww_588 ww_590 ww_589 (by decide) (by decide) rfl rfl (xroom (Nat.le_of_ble_eq_true rfl)) dX7_casts_146 (push := (fun r30 => [.int r30])) (fun _ => rfl) (fun r30 w29 hyp => ?_)
      exact r_iret G hyp rfl (Nat.zero_le _) (Nat.zero_le _) dX7_casts_149
    · refine r_iload G 4 dX7_casts_64 rfl ?_
      refine r_bipush (v := 8) G dX7_casts_66 (by decide) ?_
      refine r_irem G dX7_casts_68 (by decide) ?_
      refine r_iload_n G 2 dX7_casts_69 rfl rfl ?_
      refine r_iadd G dX7_casts_70 ?_
      refine r_bipush (v := 12) G dX7_casts_71 (by decide) ?_
      refine r_isub G dX7_casts_73 ?_
      refine r_istore (lv' := [(5, .int (((x4 - x4 / 8 * 8) + x2) - 12)), (0, .ref a0), (1, .int x1), (2, .int x2), (3, .int x3), (4, .int x4)]) G dX7_casts_74 (by decide) ⟨fun _ => rfl, fun _ => rfl, fun _ => rfl, fun _ => rfl, fun _ => rfl, trivial⟩ rfl ?_
      refine r_iload G 5 dX7_casts_76 rfl ?_
      refine r_bipush (v := 8) G dX7_casts_78 (by decide) ?_
      refine r_idiv G dX7_casts_80 (by decide) ?_
      refine r_iconst (v := 1) G dX7_casts_81 (by decide) ?_
      refine r_iadd G dX7_casts_82 ?_
      refine r_istore (lv' := [(6, .int ((x4 / 8) + 1)), (5, .int (((x4 - x4 / 8 * 8) + x2) - 12)), (0, .ref a0), (1, .int x1), (2, .int x2), (3, .int x3), (4, .int x4)]) G dX7_casts_83 (by decide) ⟨fun _ => rfl, fun _ => rfl, fun _ => rfl, fun _ => rfl, fun _ => rfl, fun _ => rfl, trivial⟩ rfl ?_
      refine r_aload_n G 2 dX7_casts_85 rfl rfl ?_
      refine r_iload_n G 3 dX7_casts_86 rfl rfl ?_
      refine r_iload G 6 dX7_casts_87 rfl ?_
      obtain ⟨o34, hyp⟩ := x_chk hyp
      refine r_callV (ι := xI) (T := TX7) (N := 22) (ci := 7) (b := a0) (rest := []) (As := [.int x1, .int x4]) G hno tg_X7_at (fun r w' h => ct_X7_at (xhl G) _ _ _ _ r w' h) o34 hyp rfl ww_621 ww_623 ww_622 (by decide) (by decide) rfl rfl (xroom (Nat.le_of_ble_eq_true rfl)) dX7_casts_89 (push := (fun r33 => [.int r33])) (fun _ => rfl) (fun r33 w32 hyp => ?_)
      refine r_if_le G 120 dX7_casts_92 (by decide) hyp (fun c35 hyp => ?_) (fun c35 hyp => ?_)
      · refine r_iinc (v := (x4 + 1)) (lv' := [(4, .int (x4 + 1)), (6, .int ((x4 / 8) + 1)), (5, .int (((x4 - x4 / 8 * 8) + x2) - 12)), (0, .ref a0), (1, .int x1), (2, .int x2), (3, .int x3)]) G 6 dX7_casts_120 rfl rfl (by decide) ⟨fun _ => rfl, fun _ => rfl, fun _ => rfl, fun _ => rfl, fun _ => rfl, fun _ => rfl, fun _ => rfl, trivial⟩ rfl ?_
        refine r_goto G 57 dX7_casts_123 (by decide) ?_
        refine r_weak (lv' := [(0, .ref a0), (1, .int x1), (2, .int x2), (3, .int x3), (4, .int (x4 + 1))]) [3, 4, 5, 6, 0] rfl ?_
        exact ih a0 x1 x2 x3 (x4 + 1) w32 hyp
      · refine r_iload G 1 dX7_casts_95 rfl ?_
        refine r_iload G 0 dX7_casts_97 rfl ?_
        refine r_callS (ι := xI) (rest := []) (As := [.int (((x4 - x4 / 8 * 8) + x2) - 12), .int ((x4 / 8) + 1)]) G hno tg_X7_isCell (fun r w' h => ct_X7_isCell (xhl G) _ _ _ r w' h) hyp ww_651 ww_652 (by decide) (by decide) rfl rfl (xroom (Nat.le_of_ble_eq_true rfl)) dX7_casts_99 (push := (fun r37 => [.int r37])) (fun _ => rfl) (fun r37 w36 hyp => ?_)
        refine r_if_eq G 120 dX7_casts_102 (by decide) hyp (fun c38 hyp => ?_) (fun c38 hyp => ?_)
        · refine r_iinc (v := (x4 + 1)) (lv' := [(4, .int (x4 + 1)), (6, .int ((x4 / 8) + 1)), (5, .int (((x4 - x4 / 8 * 8) + x2) - 12)), (0, .ref a0), (1, .int x1), (2, .int x2), (3, .int x3)]) G 6 dX7_casts_120 rfl rfl (by decide) ⟨fun _ => rfl, fun _ => rfl, fun _ => rfl, fun _ => rfl, fun _ => rfl, fun _ => rfl, fun _ => rfl, trivial⟩ rfl ?_
          refine r_goto G 57 dX7_casts_123 (by decide) ?_
          refine r_weak (lv' := [(0, .ref a0), (1, .int x1), (2, .int x2), (3, .int x3), (4, .int (x4 + 1))]) [3, 4, 5, 6, 0] rfl ?_
          exact ih a0 x1 x2 x3 (x4 + 1) w36 hyp
        · refine r_aload_n G 2 dX7_casts_105 rfl rfl ?_
          refine r_iload_n G 5 dX7_casts_106 rfl rfl ?_
          refine r_bipush (v := 8) G dX7_casts_107 (by decide) ?_
          refine r_iload G 0 dX7_casts_109 rfl ?_
          refine r_imul G dX7_casts_111 ?_
          refine r_iload G 1 dX7_casts_112 rfl ?_
          refine r_iadd G dX7_casts_114 ?_
          refine r_bipush (v := 9) G dX7_casts_115 (by decide) ?_
          obtain ⟨o41, hyp⟩ := x_chk hyp
          refine r_callV (ι := xV) (T := TX7) (N := 22) (ci := 7) (b := a0) (rest := []) (As := [.int x3, .int ((8 * ((x4 / 8) + 1)) + (((x4 - x4 / 8 * 8) + x2) - 12)), .int 9]) G hno tg_X7_sets (fun r w' h => ct_X7_sets (xhl G) _ _ _ _ _ r w' h) o41 hyp rfl ww_576 ww_578 ww_577 (by decide) (by decide) rfl rfl (xroom (Nat.le_of_ble_eq_true rfl)) dX7_casts_117 (push := (fun _ => [])) (fun _ => rfl) (fun _ w39 hyp => ?_)
          refine r_iinc (v := (x4 + 1)) (lv' := [(4, .int (x4 + 1)), (6, .int ((x4 / 8) + 1)), (5, .int (((x4 - x4 / 8 * 8) + x2) - 12)), (0, .ref a0), (1, .int x1), (2, .int x2), (3, .int x3)]) G 6 dX7_casts_120 rfl rfl (by decide) ⟨fun _ => rfl, fun _ => rfl, fun _ => rfl, fun _ => rfl, fun _ => rfl, fun _ => rfl, fun _ => rfl, trivial⟩ rfl ?_
          refine r_goto G 57 dX7_casts_123 (by decide) ?_
          refine r_weak (lv' := [(0, .ref a0), (1, .int x1), (2, .int x2), (3, .int x3), (4, .int (x4 + 1))]) [3, 4, 5, 6, 0] rfl ?_
          exact ih a0 x1 x2 x3 (x4 + 1) w39 hyp
end
set_option maxRecDepth 100000 in
set_option maxHeartbeats 4000000 in
theorem ct_X7_casts {Γ : xG} {l : Launch} (hl : l.stackTraces = false) (a0 : Nat) (x1 : Int32) (x2 : Int32) (w0 : xW) (rF : Int32 ⊕ String) (wF : xW) (hyp : f_X7_casts a0 x1 x2 w0 = some (rF, wF)) : xMet Γ l yX7_casts (xws yX7_casts cX7_casts 7 (some .int)) 2 xI [.ref a0, .int x1, .int x2] w0 rF wF (x_mc rF) (x_ms rF) := by
  refine xOfW tg_X7_casts hl (lv0 := [(0, .ref a0), (1, .int x1), (2, .int x2)]) (Nat.le_of_ble_eq_true rfl) rfl ?_
  intro p e s m below meth c G hno hin
  rw [f_X7_casts] at hyp
  refine r_aload_n G 0 dX7_casts_0 rfl rfl ?_
  refine r_iload_n G 1 dX7_casts_1 rfl rfl ?_
  obtain ⟨o3, hyp⟩ := x_chk hyp
  refine r_callV (ι := xI) (T := TX7) (N := 22) (ci := 7) (b := a0) (rest := []) (As := [.int x1]) G hno tg_X7_isLayer (fun r w' h => ct_X7_isLayer (xhl G) _ _ _ r w' h) o3 hyp rfl ww_678 ww_680 ww_679 (by decide) (by decide) rfl rfl (xroom (Nat.le_of_ble_eq_true rfl)) dX7_casts_2 (push := (fun r2 => [.int r2])) (fun _ => rfl) (fun r2 w1 hyp => ?_)
  refine r_if_ne G 10 dX7_casts_5 (by decide) hyp (fun c4 hyp => ?_) (fun c4 hyp => ?_)
  · refine r_iload_n G 2 dX7_casts_10 rfl rfl ?_
    refine r_bipush (v := 6) G dX7_casts_11 (by decide) ?_
    refine r_bipush (v := 18) G dX7_casts_13 (by decide) ?_
    refine r_callS (ι := xI) (rest := []) (As := [.int x2, .int 6, .int 18]) G hno tg_X7_in (fun r w' h => ct_X7_in (xhl G) _ _ _ _ r w' h) hyp ww_647 ww_648 (by decide) (by decide) rfl rfl (xroom (Nat.le_of_ble_eq_true rfl)) dX7_casts_15 (push := (fun r6 => [.int r6])) (fun _ => rfl) (fun r6 w5 hyp => ?_)
    refine r_if_ne G 23 dX7_casts_18 (by decide) hyp (fun c7 hyp => ?_) (fun c7 hyp => ?_)
    · refine r_aload_n G 0 dX7_casts_23 rfl rfl ?_
      obtain ⟨v8, hv8, hyp⟩ := x_some hyp
      refine r_getv (C := RX7) (T := TX7) (N := 22) (ci := 7) G 1 (x_getr_e hv8) rfl uw_7 (Nat.le_of_ble_eq_true rfl) rfl ww_561 dX7_casts_24 ?_
      refine r_iconst (v := 0) G dX7_casts_27 (by decide) ?_
      refine r_ref hyp (fun a9 ha9 hz => ?_)
      clear hyp; subst ha9; have hyp := hz; clear hz
      obtain ⟨v10, hv10, hyp⟩ := x_some hyp
      refine r_iald G hv10 dX7_casts_28 ?_
      refine r_istore_n (lv' := [(3, .int v10), (0, .ref a0), (1, .int x1), (2, .int x2)]) G dX7_casts_29 rfl (by decide) ⟨fun _ => rfl, fun _ => rfl, fun _ => rfl, trivial⟩ rfl ?_
      refine r_iload_n G 0 dX7_casts_30 rfl rfl ?_
      refine r_bipush (v := 6) G dX7_casts_31 (by decide) ?_
      refine r_icmp_ne G 38 dX7_casts_33 (by decide) hyp (fun c11 hyp => ?_) (fun c11 hyp => ?_)
      · refine r_aload_n G 1 dX7_casts_38 rfl rfl ?_
        refine r_iload_n G 0 dX7_casts_39 rfl rfl ?_
        refine r_bipush (v := 109) G dX7_casts_40 (by decide) ?_
        obtain ⟨o14, hyp⟩ := x_chk hyp
        refine r_callV (ι := xV) (T := TX7) (N := 22) (ci := 7) (b := a0) (rest := []) (As := [.int v10, .int 109]) G hno tg_X7_begins (fun r w' h => ct_X7_begins (xhl G) _ _ _ _ r w' h) o14 hyp rfl ww_585 ww_587 ww_586 (by decide) (by decide) rfl rfl (xroom (Nat.le_of_ble_eq_true rfl)) dX7_casts_42 (push := (fun _ => [])) (fun _ => rfl) (fun _ w12 hyp => ?_)
        refine r_aload_n G 1 dX7_casts_45 rfl rfl ?_
        obtain ⟨v15, hv15, hyp⟩ := x_some hyp
        refine r_getv (C := RX7) (T := TX7) (N := 22) (ci := 7) G 1 (x_getr_e hv15) rfl uw_7 (Nat.le_of_ble_eq_true rfl) rfl ww_561 dX7_casts_46 ?_
        refine r_iconst (v := 0) G dX7_casts_49 (by decide) ?_
        refine r_iload_n G 0 dX7_casts_50 rfl rfl ?_
        refine r_iconst (v := 1) G dX7_casts_51 (by decide) ?_
        refine r_iadd G dX7_casts_52 ?_
        refine r_ref hyp (fun a16 ha16 hz => ?_)
        clear hyp; subst ha16; have hyp := hz; clear hz
        obtain ⟨w17, hw17, hyp⟩ := x_some hyp
        refine r_iast G hw17 dX7_casts_53 ?_
        refine r_iconst (v := 0) G dX7_casts_54 (by decide) ?_
        refine r_istore (lv' := [(4, .int 0), (3, .int v10), (0, .ref a0), (1, .int x1), (2, .int x2)]) G dX7_casts_55 (by decide) ⟨fun _ => rfl, fun _ => rfl, fun _ => rfl, fun _ => rfl, trivial⟩ rfl ?_
        refine r_weak (lv' := [(0, .ref a0), (1, .int x1), (2, .int x2), (3, .int v10), (4, .int 0)]) [2, 3, 4, 1, 0] rfl ?_
        exact nd_X7_casts_L57 G hno xfuel a0 x1 x2 v10 0 w17 hyp
      · refine r_iconst (v := 3) G dX7_casts_36 (by decide) ?_
        exact r_iret G hyp rfl (Nat.zero_le _) (Nat.zero_le _) dX7_casts_37
    · refine r_iconst (v := 2) G dX7_casts_21 (by decide) ?_
      exact r_iret G hyp rfl (Nat.zero_le _) (Nat.zero_le _) dX7_casts_22
  · refine r_iconst (v := 1) G dX7_casts_8 (by decide) ?_
    exact r_iret G hyp rfl (Nat.zero_le _) (Nat.zero_le _) dX7_casts_9
