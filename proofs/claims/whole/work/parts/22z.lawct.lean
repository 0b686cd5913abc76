theorem tgh_L_addLayer : xTgtH yL_addLayer cL_addLayer 4 (some .int) [(0, 9, 12, 13), (0, 9, 15, 15)] 3 := ⟨ww_850, ww_851, by decide, by decide +kernel, by decide +kernel⟩
section
variable {Γ : xG} {p : Program} {l : Launch} {e : Env} {s : State} {m : MethodId} {args : Array Value} {below : List Frame} {meth : Method} {c : Code} {rF : Int32 ⊕ String} {wF : xW}
end
set_option maxRecDepth 100000 in
set_option maxHeartbeats 4000000 in
theorem ct_L_addLayer {Γ : xG} {l : Launch} (hl : l.stackTraces = false) (x0 : Option Nat) (x1 : Int32) (x2 : Option Nat) (w0 : xW) (rF : Int32 ⊕ String) (wF : xW) (hyp : f_L_addLayer x0 x1 x2 w0 = some (rF, wF)) : xMetL Γ l yL_addLayer (xwsH yL_addLayer cL_addLayer 4 (some .int) [(0, 9, 12, 13), (0, 9, 15, 15)]) 7 xI [va_rf x0, .int x1, va_rf x2] w0 rF wF 1 6 := by
  refine xOfWH tgh_L_addLayer hl (lv0 := [(0, va_rf x0), (1, .int x1), (2, va_rf x2)]) (by cases x0 <;> cases x2 <;> exact Nat.le_of_ble_eq_true rfl) (by cases x0 <;> cases x2 <;> rfl) ?_
  intro p e s m below meth c G hT hN
  rw [f_L_addLayer] at hyp
  refine r_aload_nq G 2 dL_addLayer_0 rfl rfl ?_
  refine r_iconst (v := 0) G dL_addLayer_1 (by decide) ?_
  refine r_aload_nq G 0 dL_addLayer_2 rfl rfl ?_
  refine r_iload_n G 1 dL_addLayer_3 rfl rfl ?_
  refine r_ref hyp (fun a1 ha1 hz => ?_)
  clear hyp; subst ha1; have hyp := hz; clear hz
  obtain ⟨o4, hyp⟩ := x_chk hyp
  refine r_callVT (ι := xI) (T := TX6) (N := 9) (ci := 6) (b := a1) (rest := [.int 0, va_rf x2]) (As := [.int x1]) (s0 := 0) (e0 := 9) [("java/lang/IllegalArgumentException", 12, 13), ("java/lang/IllegalStateException", 15, 15)] G hN hT (by decide) (by decide) (by decide) (by intro h hh; simp only [List.mem_cons, List.not_mem_nil, or_false] at hh; exact (fun q => q.elim (fun e => by subst e; exact ⟨by decide, ww_845, ww_846⟩) (fun e => by subst e; exact ⟨by decide, ww_847, ww_848⟩)) hh) tg_X6_addLayer (fun r w' h => ct_X6_addLayer (xhl G) _ _ _ r w' h) o4 hyp rfl ww_843 ww_849 ww_844 (by decide) (by decide) rfl rfl (xroom (Nat.le_of_ble_eq_true rfl)) dL_addLayer_4 (push := (fun r3 => [.int r3, .int 0, va_rf x2])) (fun _ => rfl) (fun r3 w2 hyp => ?_) (fun E w2 hK => ?_)
  · refine r_i2l G dL_addLayer_7 ?_
    refine r_ref hyp (fun a5 ha5 hz => ?_)
    clear hyp; subst ha5; have hyp := hz; clear hz
    obtain ⟨w6, hw6, hyp⟩ := x_some hyp
    refine r_last G hw6 dL_addLayer_8 ?_
    refine r_goto G 18 dL_addLayer_9 (by decide) ?_
    refine r_iconst (v := 0) G dL_addLayer_18 (by decide) ?_
    exact r_iret G hyp rfl (Nat.le_of_ble_eq_true rfl) (Nat.le_of_ble_eq_true rfl) dL_addLayer_19
  · rcases x_if hK with ⟨he, hyp⟩ | ⟨_, hK⟩
    · subst he
      refine ⟨("java/lang/IllegalArgumentException", 12, 13), by first | exact List.mem_cons_self | simp, rfl, fun q => ?_⟩
      show xAW Γ p l e _ s m _ below meth c _ _ _ 1 6 12 _ _
      refine r_astore_n (lv' := [(3, .ref q), (0, .ref a1), (1, .int x1), (2, va_rf x2)]) G dL_addLayer_12 rfl (by decide) ⟨fun _ => rfl, fun _ => rfl, fun _ => xcq _, trivial⟩ rfl ?_
      refine r_iconst (v := 1) G dL_addLayer_13 (by decide) ?_
      exact r_iret G hyp rfl (Nat.le_of_ble_eq_true rfl) (Nat.le_of_ble_eq_true rfl) dL_addLayer_14
    rcases x_if hK with ⟨he, hyp⟩ | ⟨_, hK⟩
    · subst he
      refine ⟨("java/lang/IllegalStateException", 15, 15), by first | exact List.mem_cons_self | simp, rfl, fun q => ?_⟩
      show xAW Γ p l e _ s m _ below meth c _ _ _ 1 6 15 _ _
      refine r_astore_n (lv' := [(3, .ref q), (0, .ref a1), (1, .int x1), (2, va_rf x2)]) G dL_addLayer_15 rfl (by decide) ⟨fun _ => rfl, fun _ => rfl, fun _ => xcq _, trivial⟩ rfl ?_
      refine r_iconst (v := 2) G dL_addLayer_16 (by decide) ?_
      exact r_iret G hyp rfl (Nat.le_of_ble_eq_true rfl) (Nat.le_of_ble_eq_true rfl) dL_addLayer_17
    cases hK
theorem tgh_L_removeLayer : xTgtH yL_removeLayer cL_removeLayer 4 (some .int) [(0, 9, 12, 21)] 3 := ⟨ww_857, ww_851, by decide, by decide +kernel, by decide +kernel⟩
section
variable {Γ : xG} {p : Program} {l : Launch} {e : Env} {s : State} {m : MethodId} {args : Array Value} {below : List Frame} {meth : Method} {c : Code} {rF : Int32 ⊕ String} {wF : xW}
end
set_option maxRecDepth 100000 in
set_option maxHeartbeats 4000000 in
theorem ct_L_removeLayer {Γ : xG} {l : Launch} (hl : l.stackTraces = false) (x0 : Option Nat) (x1 : Int32) (x2 : Option Nat) (w0 : xW) (rF : Int32 ⊕ String) (wF : xW) (hyp : f_L_removeLayer x0 x1 x2 w0 = some (rF, wF)) : xMetL Γ l yL_removeLayer (xwsH yL_removeLayer cL_removeLayer 4 (some .int) [(0, 9, 12, 21)]) 7 xI [va_rf x0, .int x1, va_rf x2] w0 rF wF 1 6 := by
  refine xOfWH tgh_L_removeLayer hl (lv0 := [(0, va_rf x0), (1, .int x1), (2, va_rf x2)]) (by cases x0 <;> cases x2 <;> exact Nat.le_of_ble_eq_true rfl) (by cases x0 <;> cases x2 <;> rfl) ?_
  intro p e s m below meth c G hT hN
  rw [f_L_removeLayer] at hyp
  refine r_aload_nq G 2 dL_removeLayer_0 rfl rfl ?_
  refine r_iconst (v := 0) G dL_removeLayer_1 (by decide) ?_
  refine r_aload_nq G 0 dL_removeLayer_2 rfl rfl ?_
  refine r_iload_n G 1 dL_removeLayer_3 rfl rfl ?_
  refine r_ref hyp (fun a1 ha1 hz => ?_)
  clear hyp; subst ha1; have hyp := hz; clear hz
  obtain ⟨o4, hyp⟩ := x_chk hyp
  refine r_callVT (ι := xI) (T := TX6) (N := 9) (ci := 6) (b := a1) (rest := [.int 0, va_rf x2]) (As := [.int x1]) (s0 := 0) (e0 := 9) [("java/lang/IndexOutOfBoundsException", 12, 21)] G hN hT (by decide) (by decide) (by decide) (by intro h hh; simp only [List.mem_cons, List.not_mem_nil, or_false] at hh; subst hh; exact ⟨by decide, ww_854, ww_855⟩) tg_X6_removeLayer (fun r w' h => ct_X6_removeLayer (xhl G) _ _ _ r w' h) o4 hyp rfl ww_852 ww_856 ww_853 (by decide) (by decide) rfl rfl (xroom (Nat.le_of_ble_eq_true rfl)) dL_removeLayer_4 (push := (fun r3 => [.int r3, .int 0, va_rf x2])) (fun _ => rfl) (fun r3 w2 hyp => ?_) (fun E w2 hK => ?_)
  · refine r_i2l G dL_removeLayer_7 ?_
    refine r_ref hyp (fun a5 ha5 hz => ?_)
    clear hyp; subst ha5; have hyp := hz; clear hz
    obtain ⟨w6, hw6, hyp⟩ := x_some hyp
    refine r_last G hw6 dL_removeLayer_8 ?_
    refine r_goto G 15 dL_removeLayer_9 (by decide) ?_
    refine r_iconst (v := 0) G dL_removeLayer_15 (by decide) ?_
    exact r_iret G hyp rfl (Nat.le_of_ble_eq_true rfl) (Nat.le_of_ble_eq_true rfl) dL_removeLayer_16
  · rcases x_if hK with ⟨he, hyp⟩ | ⟨_, hK⟩
    · subst he
      refine ⟨("java/lang/IndexOutOfBoundsException", 12, 21), by first | exact List.mem_cons_self | simp, rfl, fun q => ?_⟩
      show xAW Γ p l e _ s m _ below meth c _ _ _ 1 6 12 _ _
      refine r_astore_n (lv' := [(3, .ref q), (0, .ref a1), (1, .int x1), (2, va_rf x2)]) G dL_removeLayer_12 rfl (by decide) ⟨fun _ => rfl, fun _ => rfl, fun _ => xcq _, trivial⟩ rfl ?_
      refine r_iconst (v := 1) G dL_removeLayer_13 (by decide) ?_
      exact r_iret G hyp rfl (Nat.le_of_ble_eq_true rfl) (Nat.le_of_ble_eq_true rfl) dL_removeLayer_14
    cases hK
theorem tgh_L_paint : xTgtH yL_paint cL_paint 9 (some .int) [(0, 18, 21, 21), (0, 18, 25, 13)] 8 := ⟨ww_861, ww_851, by decide, by decide +kernel, by decide +kernel⟩
section
variable {Γ : xG} {p : Program} {l : Launch} {e : Env} {s : State} {m : MethodId} {args : Array Value} {below : List Frame} {meth : Method} {c : Code} {rF : Int32 ⊕ String} {wF : xW}
end
set_option maxRecDepth 100000 in
set_option maxHeartbeats 4000000 in
theorem ct_L_paint {Γ : xG} {l : Launch} (hl : l.stackTraces = false) (x0 : Option Nat) (x1 : Int32) (x2 : Int32) (x3 : Int32) (x4 : Int32) (x5 : Int32) (x6 : Int32) (x7 : Option Nat) (w0 : xW) (rF : Int32 ⊕ String) (wF : xW) (hyp : f_L_paint x0 x1 x2 x3 x4 x5 x6 x7 w0 = some (rF, wF)) : xMetL Γ l yL_paint (xwsH yL_paint cL_paint 9 (some .int) [(0, 18, 21, 21), (0, 18, 25, 13)]) 7 xI [va_rf x0, .int x1, .int x2, .int x3, .int x4, .int x5, .int x6, va_rf x7] w0 rF wF 1 6 := by
  refine xOfWH tgh_L_paint hl (lv0 := [(0, va_rf x0), (1, .int x1), (2, .int x2), (3, .int x3), (4, .int x4), (5, .int x5), (6, .int x6), (7, va_rf x7)]) (by cases x0 <;> cases x7 <;> exact Nat.le_of_ble_eq_true rfl) (by cases x0 <;> cases x7 <;> rfl) ?_
  intro p e s m below meth c G hT hN
  rw [f_L_paint] at hyp
  refine r_aloadq G 7 dL_paint_0 rfl ?_
  refine r_iconst (v := 0) G dL_paint_2 (by decide) ?_
  refine r_aload_nq G 0 dL_paint_3 rfl rfl ?_
  refine r_iload_n G 1 dL_paint_4 rfl rfl ?_
  refine r_iload_n G 2 dL_paint_5 rfl rfl ?_
  refine r_iload_n G 3 dL_paint_6 rfl rfl ?_
  refine r_iload G 4 dL_paint_7 rfl ?_
  refine r_iload G 5 dL_paint_9 rfl ?_
  refine r_iload G 6 dL_paint_11 rfl ?_
  refine r_ref hyp (fun a1 ha1 hz => ?_)
  clear hyp; subst ha1; have hyp := hz; clear hz
  obtain ⟨o4, hyp⟩ := x_chk hyp
  refine r_callVT (ι := xI) (T := TX6) (N := 9) (ci := 6) (b := a1) (rest := [.int 0, va_rf x7]) (As := [.int x1, .int x2, .int x3, .int x4, .int x5, .int x6]) (s0 := 0) (e0 := 18) [("java/lang/IndexOutOfBoundsException", 21, 21), ("java/lang/IllegalArgumentException", 25, 13)] G hN hT (by decide) (by decide) (by decide) (by intro h hh; simp only [List.mem_cons, List.not_mem_nil, or_false] at hh; exact (fun q => q.elim (fun e => by subst e; exact ⟨by decide, ww_854, ww_855⟩) (fun e => by subst e; exact ⟨by decide, ww_845, ww_846⟩)) hh) tg_X6_paint (fun r w' h => ct_X6_paint (xhl G) _ _ _ _ _ _ _ _ r w' h) o4 hyp rfl ww_858 ww_860 ww_859 (by decide) (by decide) rfl rfl (xroom (Nat.le_of_ble_eq_true rfl)) dL_paint_13 (push := (fun r3 => [.int r3, .int 0, va_rf x7])) (fun _ => rfl) (fun r3 w2 hyp => ?_) (fun E w2 hK => ?_)
  · refine r_i2l G dL_paint_16 ?_
    refine r_ref hyp (fun a5 ha5 hz => ?_)
    clear hyp; subst ha5; have hyp := hz; clear hz
    obtain ⟨w6, hw6, hyp⟩ := x_some hyp
    refine r_last G hw6 dL_paint_17 ?_
    refine r_goto G 29 dL_paint_18 (by decide) ?_
    refine r_iconst (v := 0) G dL_paint_29 (by decide) ?_
    exact r_iret G hyp rfl (Nat.le_of_ble_eq_true rfl) (Nat.le_of_ble_eq_true rfl) dL_paint_30
  · rcases x_if hK with ⟨he, hyp⟩ | ⟨_, hK⟩
    · subst he
      refine ⟨("java/lang/IndexOutOfBoundsException", 21, 21), by first | exact List.mem_cons_self | simp, rfl, fun q => ?_⟩
      show xAW Γ p l e _ s m _ below meth c _ _ _ 1 6 21 _ _
      refine r_astore (lv' := [(8, .ref q), (0, .ref a1), (1, .int x1), (2, .int x2), (3, .int x3), (4, .int x4), (5, .int x5), (6, .int x6), (7, va_rf x7)]) G dL_paint_21 (by decide) ⟨fun _ => rfl, fun _ => rfl, fun _ => rfl, fun _ => rfl, fun _ => rfl, fun _ => rfl, fun _ => rfl, fun _ => xcq _, trivial⟩ rfl ?_
      refine r_iconst (v := 1) G dL_paint_23 (by decide) ?_
      exact r_iret G hyp rfl (Nat.le_of_ble_eq_true rfl) (Nat.le_of_ble_eq_true rfl) dL_paint_24
    rcases x_if hK with ⟨he, hyp⟩ | ⟨_, hK⟩
    · subst he
      refine ⟨("java/lang/IllegalArgumentException", 25, 13), by first | exact List.mem_cons_self | simp, rfl, fun q => ?_⟩
      show xAW Γ p l e _ s m _ below meth c _ _ _ 1 6 25 _ _
      refine r_astore (lv' := [(8, .ref q), (0, .ref a1), (1, .int x1), (2, .int x2), (3, .int x3), (4, .int x4), (5, .int x5), (6, .int x6), (7, va_rf x7)]) G dL_paint_25 (by decide) ⟨fun _ => rfl, fun _ => rfl, fun _ => rfl, fun _ => rfl, fun _ => rfl, fun _ => rfl, fun _ => rfl, fun _ => xcq _, trivial⟩ rfl ?_
      refine r_iconst (v := 2) G dL_paint_27 (by decide) ?_
      exact r_iret G hyp rfl (Nat.le_of_ble_eq_true rfl) (Nat.le_of_ble_eq_true rfl) dL_paint_28
    cases hK
theorem tgh_L_erase : xTgtH yL_erase cL_erase 7 (some .int) [(0, 14, 17, 21), (0, 14, 21, 13)] 6 := ⟨ww_865, ww_851, by decide, by decide +kernel, by decide +kernel⟩
section
variable {Γ : xG} {p : Program} {l : Launch} {e : Env} {s : State} {m : MethodId} {args : Array Value} {below : List Frame} {meth : Method} {c : Code} {rF : Int32 ⊕ String} {wF : xW}
end
set_option maxRecDepth 100000 in
set_option maxHeartbeats 4000000 in
theorem ct_L_erase {Γ : xG} {l : Launch} (hl : l.stackTraces = false) (x0 : Option Nat) (x1 : Int32) (x2 : Int32) (x3 : Int32) (x4 : Int32) (x5 : Option Nat) (w0 : xW) (rF : Int32 ⊕ String) (wF : xW) (hyp : f_L_erase x0 x1 x2 x3 x4 x5 w0 = some (rF, wF)) : xMetL Γ l yL_erase (xwsH yL_erase cL_erase 7 (some .int) [(0, 14, 17, 21), (0, 14, 21, 13)]) 7 xI [va_rf x0, .int x1, .int x2, .int x3, .int x4, va_rf x5] w0 rF wF 1 6 := by
  refine xOfWH tgh_L_erase hl (lv0 := [(0, va_rf x0), (1, .int x1), (2, .int x2), (3, .int x3), (4, .int x4), (5, va_rf x5)]) (by cases x0 <;> cases x5 <;> exact Nat.le_of_ble_eq_true rfl) (by cases x0 <;> cases x5 <;> rfl) ?_
  intro p e s m below meth c G hT hN
  rw [f_L_erase] at hyp
  refine r_aloadq G 5 dL_erase_0 rfl ?_
  refine r_iconst (v := 0) G dL_erase_2 (by decide) ?_
  refine r_aload_nq G 0 dL_erase_3 rfl rfl ?_
  refine r_iload_n G 1 dL_erase_4 rfl rfl ?_
  refine r_iload_n G 2 dL_erase_5 rfl rfl ?_
  refine r_iload_n G 3 dL_erase_6 rfl rfl ?_
  refine r_iload G 4 dL_erase_7 rfl ?_
  refine r_ref hyp (fun a1 ha1 hz => ?_)
  clear hyp; subst ha1; have hyp := hz; clear hz
  obtain ⟨o4, hyp⟩ := x_chk hyp
  refine r_callVT (ι := xI) (T := TX6) (N := 9) (ci := 6) (b := a1) (rest := [.int 0, va_rf x5]) (As := [.int x1, .int x2, .int x3, .int x4]) (s0 := 0) (e0 := 14) [("java/lang/IndexOutOfBoundsException", 17, 21), ("java/lang/IllegalArgumentException", 21, 13)] G hN hT (by decide) (by decide) (by decide) (by intro h hh; simp only [List.mem_cons, List.not_mem_nil, or_false] at hh; exact (fun q => q.elim (fun e => by subst e; exact ⟨by decide, ww_854, ww_855⟩) (fun e => by subst e; exact ⟨by decide, ww_845, ww_846⟩)) hh) tg_X6_erase (fun r w' h => ct_X6_erase (xhl G) _ _ _ _ _ _ r w' h) o4 hyp rfl ww_862 ww_864 ww_863 (by decide) (by decide) rfl rfl (xroom (Nat.le_of_ble_eq_true rfl)) dL_erase_9 (push := (fun r3 => [.int r3, .int 0, va_rf x5])) (fun _ => rfl) (fun r3 w2 hyp => ?_) (fun E w2 hK => ?_)
  · refine r_i2l G dL_erase_12 ?_
    refine r_ref hyp (fun a5 ha5 hz => ?_)
    clear hyp; subst ha5; have hyp := hz; clear hz
    obtain ⟨w6, hw6, hyp⟩ := x_some hyp
    refine r_last G hw6 dL_erase_13 ?_
    refine r_goto G 25 dL_erase_14 (by decide) ?_
    refine r_iconst (v := 0) G dL_erase_25 (by decide) ?_
    exact r_iret G hyp rfl (Nat.le_of_ble_eq_true rfl) (Nat.le_of_ble_eq_true rfl) dL_erase_26
  · rcases x_if hK with ⟨he, hyp⟩ | ⟨_, hK⟩
    · subst he
      refine ⟨("java/lang/IndexOutOfBoundsException", 17, 21), by first | exact List.mem_cons_self | simp, rfl, fun q => ?_⟩
      show xAW Γ p l e _ s m _ below meth c _ _ _ 1 6 17 _ _
      refine r_astore (lv' := [(6, .ref q), (0, .ref a1), (1, .int x1), (2, .int x2), (3, .int x3), (4, .int x4), (5, va_rf x5)]) G dL_erase_17 (by decide) ⟨fun _ => rfl, fun _ => rfl, fun _ => rfl, fun _ => rfl, fun _ => rfl, fun _ => xcq _, trivial⟩ rfl ?_
      refine r_iconst (v := 1) G dL_erase_19 (by decide) ?_
      exact r_iret G hyp rfl (Nat.le_of_ble_eq_true rfl) (Nat.le_of_ble_eq_true rfl) dL_erase_20
    rcases x_if hK with ⟨he, hyp⟩ | ⟨_, hK⟩
    · subst he
      refine ⟨("java/lang/IllegalArgumentException", 21, 13), by first | exact List.mem_cons_self | simp, rfl, fun q => ?_⟩
      show xAW Γ p l e _ s m _ below meth c _ _ _ 1 6 21 _ _
      refine r_astore (lv' := [(6, .ref q), (0, .ref a1), (1, .int x1), (2, .int x2), (3, .int x3), (4, .int x4), (5, va_rf x5)]) G dL_erase_21 (by decide) ⟨fun _ => rfl, fun _ => rfl, fun _ => rfl, fun _ => rfl, fun _ => rfl, fun _ => xcq _, trivial⟩ rfl ?_
      refine r_iconst (v := 2) G dL_erase_23 (by decide) ?_
      exact r_iret G hyp rfl (Nat.le_of_ble_eq_true rfl) (Nat.le_of_ble_eq_true rfl) dL_erase_24
    cases hK
theorem tgh_L_hide : xTgtH yL_hide cL_hide 4 (some .int) [(0, 9, 12, 21), (0, 9, 15, 15)] 3 := ⟨ww_869, ww_851, by decide, by decide +kernel, by decide +kernel⟩
section
variable {Γ : xG} {p : Program} {l : Launch} {e : Env} {s : State} {m : MethodId} {args : Array Value} {below : List Frame} {meth : Method} {c : Code} {rF : Int32 ⊕ String} {wF : xW}
end
set_option maxRecDepth 100000 in
set_option maxHeartbeats 4000000 in
theorem ct_L_hide {Γ : xG} {l : Launch} (hl : l.stackTraces = false) (x0 : Option Nat) (x1 : Int32) (x2 : Option Nat) (w0 : xW) (rF : Int32 ⊕ String) (wF : xW) (hyp : f_L_hide x0 x1 x2 w0 = some (rF, wF)) : xMetL Γ l yL_hide (xwsH yL_hide cL_hide 4 (some .int) [(0, 9, 12, 21), (0, 9, 15, 15)]) 7 xI [va_rf x0, .int x1, va_rf x2] w0 rF wF 1 6 := by
  refine xOfWH tgh_L_hide hl (lv0 := [(0, va_rf x0), (1, .int x1), (2, va_rf x2)]) (by cases x0 <;> cases x2 <;> exact Nat.le_of_ble_eq_true rfl) (by cases x0 <;> cases x2 <;> rfl) ?_
  intro p e s m below meth c G hT hN
  rw [f_L_hide] at hyp
  refine r_aload_nq G 2 dL_hide_0 rfl rfl ?_
  refine r_iconst (v := 0) G dL_hide_1 (by decide) ?_
  refine r_aload_nq G 0 dL_hide_2 rfl rfl ?_
  refine r_iload_n G 1 dL_hide_3 rfl rfl ?_
  refine r_ref hyp (fun a1 ha1 hz => ?_)
  clear hyp; subst ha1; have hyp := hz; clear hz
  obtain ⟨o4, hyp⟩ := x_chk hyp
  refine r_callVT (ι := xI) (T := TX6) (N := 9) (ci := 6) (b := a1) (rest := [.int 0, va_rf x2]) (As := [.int x1]) (s0 := 0) (e0 := 9) [("java/lang/IndexOutOfBoundsException", 12, 21), ("java/lang/IllegalStateException", 15, 15)] G hN hT (by decide) (by decide) (by decide) (by intro h hh; simp only [List.mem_cons, List.not_mem_nil, or_false] at hh; exact (fun q => q.elim (fun e => by subst e; exact ⟨by decide, ww_854, ww_855⟩) (fun e => by subst e; exact ⟨by decide, ww_847, ww_848⟩)) hh) tg_X6_hide (fun r w' h => ct_X6_hide (xhl G) _ _ _ r w' h) o4 hyp rfl ww_866 ww_868 ww_867 (by decide) (by decide) rfl rfl (xroom (Nat.le_of_ble_eq_true rfl)) dL_hide_4 (push := (fun r3 => [.int r3, .int 0, va_rf x2])) (fun _ => rfl) (fun r3 w2 hyp => ?_) (fun E w2 hK => ?_)
  · refine r_i2l G dL_hide_7 ?_
    refine r_ref hyp (fun a5 ha5 hz => ?_)
    clear hyp; subst ha5; have hyp := hz; clear hz
    obtain ⟨w6, hw6, hyp⟩ := x_some hyp
    refine r_last G hw6 dL_hide_8 ?_
    refine r_goto G 18 dL_hide_9 (by decide) ?_
    refine r_iconst (v := 0) G dL_hide_18 (by decide) ?_
    exact r_iret G hyp rfl (Nat.le_of_ble_eq_true rfl) (Nat.le_of_ble_eq_true rfl) dL_hide_19
  · rcases x_if hK with ⟨he, hyp⟩ | ⟨_, hK⟩
    · subst he
      refine ⟨("java/lang/IndexOutOfBoundsException", 12, 21), by first | exact List.mem_cons_self | simp, rfl, fun q => ?_⟩
      show xAW Γ p l e _ s m _ below meth c _ _ _ 1 6 12 _ _
      refine r_astore_n (lv' := [(3, .ref q), (0, .ref a1), (1, .int x1), (2, va_rf x2)]) G dL_hide_12 rfl (by decide) ⟨fun _ => rfl, fun _ => rfl, fun _ => xcq _, trivial⟩ rfl ?_
      refine r_iconst (v := 1) G dL_hide_13 (by decide) ?_
      exact r_iret G hyp rfl (Nat.le_of_ble_eq_true rfl) (Nat.le_of_ble_eq_true rfl) dL_hide_14
    rcases x_if hK with ⟨he, hyp⟩ | ⟨_, hK⟩
    · subst he
      refine ⟨("java/lang/IllegalStateException", 15, 15), by first | exact List.mem_cons_self | simp, rfl, fun q => ?_⟩
      show xAW Γ p l e _ s m _ below meth c _ _ _ 1 6 15 _ _
      refine r_astore_n (lv' := [(3, .ref q), (0, .ref a1), (1, .int x1), (2, va_rf x2)]) G dL_hide_15 rfl (by decide) ⟨fun _ => rfl, fun _ => rfl, fun _ => xcq _, trivial⟩ rfl ?_
      refine r_iconst (v := 2) G dL_hide_16 (by decide) ?_
      exact r_iret G hyp rfl (Nat.le_of_ble_eq_true rfl) (Nat.le_of_ble_eq_true rfl) dL_hide_17
    cases hK
theorem tgh_L_show : xTgtH yL_show cL_show 4 (some .int) [(0, 9, 12, 21), (0, 9, 15, 15)] 3 := ⟨ww_873, ww_851, by decide, by decide +kernel, by decide +kernel⟩
section
variable {Γ : xG} {p : Program} {l : Launch} {e : Env} {s : State} {m : MethodId} {args : Array Value} {below : List Frame} {meth : Method} {c : Code} {rF : Int32 ⊕ String} {wF : xW}
end
set_option maxRecDepth 100000 in
set_option maxHeartbeats 4000000 in
theorem ct_L_show {Γ : xG} {l : Launch} (hl : l.stackTraces = false) (x0 : Option Nat) (x1 : Int32) (x2 : Option Nat) (w0 : xW) (rF : Int32 ⊕ String) (wF : xW) (hyp : f_L_show x0 x1 x2 w0 = some (rF, wF)) : xMetL Γ l yL_show (xwsH yL_show cL_show 4 (some .int) [(0, 9, 12, 21), (0, 9, 15, 15)]) 7 xI [va_rf x0, .int x1, va_rf x2] w0 rF wF 1 6 := by
  refine xOfWH tgh_L_show hl (lv0 := [(0, va_rf x0), (1, .int x1), (2, va_rf x2)]) (by cases x0 <;> cases x2 <;> exact Nat.le_of_ble_eq_true rfl) (by cases x0 <;> cases x2 <;> rfl) ?_
  intro p e s m below meth c G hT hN
  rw [f_L_show] at hyp
  refine r_aload_nq G 2 dL_show_0 rfl rfl ?_
  refine r_iconst (v := 0) G dL_show_1 (by decide) ?_
  refine r_aload_nq G 0 dL_show_2 rfl rfl ?_
  refine r_iload_n G 1 dL_show_3 rfl rfl ?_
  refine r_ref hyp (fun a1 ha1 hz => ?_)
  clear hyp; subst ha1; have hyp := hz; clear hz
  obtain ⟨o4, hyp⟩ := x_chk hyp
  refine r_callVT (ι := xI) (T := TX6) (N := 9) (ci := 6) (b := a1) (rest := [.int 0, va_rf x2]) (As := [.int x1]) (s0 := 0) (e0 := 9) [("java/lang/IndexOutOfBoundsException", 12, 21), ("java/lang/IllegalStateException", 15, 15)] G hN hT (by decide) (by decide) (by decide) (by intro h hh; simp only [List.mem_cons, List.not_mem_nil, or_false] at hh; exact (fun q => q.elim (fun e => by subst e; exact ⟨by decide, ww_854, ww_855⟩) (fun e => by subst e; exact ⟨by decide, ww_847, ww_848⟩)) hh) tg_X6_show (fun r w' h => ct_X6_show (xhl G) _ _ _ r w' h) o4 hyp rfl ww_870 ww_872 ww_871 (by decide) (by decide) rfl rfl (xroom (Nat.le_of_ble_eq_true rfl)) dL_show_4 (push := (fun r3 => [.int r3, .int 0, va_rf x2])) (fun _ => rfl) (fun r3 w2 hyp => ?_) (fun E w2 hK => ?_)
  · refine r_i2l G dL_show_7 ?_
    refine r_ref hyp (fun a5 ha5 hz => ?_)
    clear hyp; subst ha5; have hyp := hz; clear hz
    obtain ⟨w6, hw6, hyp⟩ := x_some hyp
    refine r_last G hw6 dL_show_8 ?_
    refine r_goto G 18 dL_show_9 (by decide) ?_
    refine r_iconst (v := 0) G dL_show_18 (by decide) ?_
    exact r_iret G hyp rfl (Nat.le_of_ble_eq_true rfl) (Nat.le_of_ble_eq_true rfl) dL_show_19
  · rcases x_if hK with ⟨he, hyp⟩ | ⟨_, hK⟩
    · subst he
      refine ⟨("java/lang/IndexOutOfBoundsException", 12, 21), by first | exact List.mem_cons_self | simp, rfl, fun q => ?_⟩
      show xAW Γ p l e _ s m _ below meth c _ _ _ 1 6 12 _ _
      refine r_astore_n (lv' := [(3, .ref q), (0, .ref a1), (1, .int x1), (2, va_rf x2)]) G dL_show_12 rfl (by decide) ⟨fun _ => rfl, fun _ => rfl, fun _ => xcq _, trivial⟩ rfl ?_
      refine r_iconst (v := 1) G dL_show_13 (by decide) ?_
      exact r_iret G hyp rfl (Nat.le_of_ble_eq_true rfl) (Nat.le_of_ble_eq_true rfl) dL_show_14
    rcases x_if hK with ⟨he, hyp⟩ | ⟨_, hK⟩
    · subst he
      refine ⟨("java/lang/IllegalStateException", 15, 15), by first | exact List.mem_cons_self | simp, rfl, fun q => ?_⟩
      show xAW Γ p l e _ s m _ below meth c _ _ _ 1 6 15 _ _
      refine r_astore_n (lv' := [(3, .ref q), (0, .ref a1), (1, .int x1), (2, va_rf x2)]) G dL_show_15 rfl (by decide) ⟨fun _ => rfl, fun _ => rfl, fun _ => xcq _, trivial⟩ rfl ?_
      refine r_iconst (v := 2) G dL_show_16 (by decide) ?_
      exact r_iret G hyp rfl (Nat.le_of_ble_eq_true rfl) (Nat.le_of_ble_eq_true rfl) dL_show_17
    cases hK
theorem tgh_L_moveLayer : xTgtH yL_moveLayer cL_moveLayer 5 (some .int) [(0, 10, 13, 21)] 4 := ⟨ww_877, ww_851, by decide, by decide +kernel, by decide +kernel⟩
section
variable {Γ : xG} {p : Program} {l : Launch} {e : Env} {s : State} {m : MethodId} {args : Array Value} {below : List Frame} {meth : Method} {c : Code} {rF : Int32 ⊕ String} {wF : xW}
end
set_option maxRecDepth 100000 in
set_option maxHeartbeats 4000000 in
theorem ct_L_moveLayer {Γ : xG} {l : Launch} (hl : l.stackTraces = false) (x0 : Option Nat) (x1 : Int32) (x2 : Int32) (x3 : Option Nat) (w0 : xW) (rF : Int32 ⊕ String) (wF : xW) (hyp : f_L_moveLayer x0 x1 x2 x3 w0 = some (rF, wF)) : xMetL Γ l yL_moveLayer (xwsH yL_moveLayer cL_moveLayer 5 (some .int) [(0, 10, 13, 21)]) 7 xI [va_rf x0, .int x1, .int x2, va_rf x3] w0 rF wF 1 6 := by
  refine xOfWH tgh_L_moveLayer hl (lv0 := [(0, va_rf x0), (1, .int x1), (2, .int x2), (3, va_rf x3)]) (by cases x0 <;> cases x3 <;> exact Nat.le_of_ble_eq_true rfl) (by cases x0 <;> cases x3 <;> rfl) ?_
  intro p e s m below meth c G hT hN
  rw [f_L_moveLayer] at hyp
  refine r_aload_nq G 3 dL_moveLayer_0 rfl rfl ?_
  refine r_iconst (v := 0) G dL_moveLayer_1 (by decide) ?_
  refine r_aload_nq G 0 dL_moveLayer_2 rfl rfl ?_
  refine r_iload_n G 1 dL_moveLayer_3 rfl rfl ?_
  refine r_iload_n G 2 dL_moveLayer_4 rfl rfl ?_
  refine r_ref hyp (fun a1 ha1 hz => ?_)
  clear hyp; subst ha1; have hyp := hz; clear hz
  obtain ⟨o4, hyp⟩ := x_chk hyp
  refine r_callVT (ι := xI) (T := TX6) (N := 9) (ci := 6) (b := a1) (rest := [.int 0, va_rf x3]) (As := [.int x1, .int x2]) (s0 := 0) (e0 := 10) [("java/lang/IndexOutOfBoundsException", 13, 21)] G hN hT (by decide) (by decide) (by decide) (by intro h hh; simp only [List.mem_cons, List.not_mem_nil, or_false] at hh; subst hh; exact ⟨by decide, ww_854, ww_855⟩) tg_X6_moveLayer (fun r w' h => ct_X6_moveLayer (xhl G) _ _ _ _ r w' h) o4 hyp rfl ww_874 ww_876 ww_875 (by decide) (by decide) rfl rfl (xroom (Nat.le_of_ble_eq_true rfl)) dL_moveLayer_5 (push := (fun r3 => [.int r3, .int 0, va_rf x3])) (fun _ => rfl) (fun r3 w2 hyp => ?_) (fun E w2 hK => ?_)
  · refine r_i2l G dL_moveLayer_8 ?_
    refine r_ref hyp (fun a5 ha5 hz => ?_)
    clear hyp; subst ha5; have hyp := hz; clear hz
    obtain ⟨w6, hw6, hyp⟩ := x_some hyp
    refine r_last G hw6 dL_moveLayer_9 ?_
    refine r_goto G 17 dL_moveLayer_10 (by decide) ?_
    refine r_iconst (v := 0) G dL_moveLayer_17 (by decide) ?_
    exact r_iret G hyp rfl (Nat.le_of_ble_eq_true rfl) (Nat.le_of_ble_eq_true rfl) dL_moveLayer_18
  · rcases x_if hK with ⟨he, hyp⟩ | ⟨_, hK⟩
    · subst he
      refine ⟨("java/lang/IndexOutOfBoundsException", 13, 21), by first | exact List.mem_cons_self | simp, rfl, fun q => ?_⟩
      show xAW Γ p l e _ s m _ below meth c _ _ _ 1 6 13 _ _
      refine r_astore (lv' := [(4, .ref q), (0, .ref a1), (1, .int x1), (2, .int x2), (3, va_rf x3)]) G dL_moveLayer_13 (by decide) ⟨fun _ => rfl, fun _ => rfl, fun _ => rfl, fun _ => xcq _, trivial⟩ rfl ?_
      refine r_iconst (v := 1) G dL_moveLayer_15 (by decide) ?_
      exact r_iret G hyp rfl (Nat.le_of_ble_eq_true rfl) (Nat.le_of_ble_eq_true rfl) dL_moveLayer_16
    cases hK
theorem tgh_L_mergeDown : xTgtH yL_mergeDown cL_mergeDown 4 (some .int) [(0, 9, 12, 21), (0, 9, 15, 44), (0, 9, 18, 46)] 3 := ⟨ww_885, ww_851, by decide, by decide +kernel, by decide +kernel⟩
section
variable {Γ : xG} {p : Program} {l : Launch} {e : Env} {s : State} {m : MethodId} {args : Array Value} {below : List Frame} {meth : Method} {c : Code} {rF : Int32 ⊕ String} {wF : xW}
end
set_option maxRecDepth 100000 in
set_option maxHeartbeats 4000000 in
theorem ct_L_mergeDown {Γ : xG} {l : Launch} (hl : l.stackTraces = false) (x0 : Option Nat) (x1 : Int32) (x2 : Option Nat) (w0 : xW) (rF : Int32 ⊕ String) (wF : xW) (hyp : f_L_mergeDown x0 x1 x2 w0 = some (rF, wF)) : xMetL Γ l yL_mergeDown (xwsH yL_mergeDown cL_mergeDown 4 (some .int) [(0, 9, 12, 21), (0, 9, 15, 44), (0, 9, 18, 46)]) 7 xI [va_rf x0, .int x1, va_rf x2] w0 rF wF 1 6 := by
  refine xOfWH tgh_L_mergeDown hl (lv0 := [(0, va_rf x0), (1, .int x1), (2, va_rf x2)]) (by cases x0 <;> cases x2 <;> exact Nat.le_of_ble_eq_true rfl) (by cases x0 <;> cases x2 <;> rfl) ?_
  intro p e s m below meth c G hT hN
  rw [f_L_mergeDown] at hyp
  refine r_aload_nq G 2 dL_mergeDown_0 rfl rfl ?_
  refine r_iconst (v := 0) G dL_mergeDown_1 (by decide) ?_
  refine r_aload_nq G 0 dL_mergeDown_2 rfl rfl ?_
  refine r_iload_n G 1 dL_mergeDown_3 rfl rfl ?_
  refine r_ref hyp (fun a1 ha1 hz => ?_)
  clear hyp; subst ha1; have hyp := hz; clear hz
  obtain ⟨o4, hyp⟩ := x_chk hyp
  refine r_callVT (ι := xI) (T := TX6) (N := 9) (ci := 6) (b := a1) (rest := [.int 0, va_rf x2]) (As := [.int x1]) (s0 := 0) (e0 := 9) [("java/lang/IndexOutOfBoundsException", 12, 21), ("java/util/NoSuchElementException", 15, 44), ("java/lang/UnsupportedOperationException", 18, 46)] G hN hT (by decide) (by decide) (by decide) (by intro h hh; simp only [List.mem_cons, List.not_mem_nil, or_false] at hh; exact (fun q => q.elim (fun e => by subst e; exact ⟨by decide, ww_854, ww_855⟩) (fun q => q.elim (fun e => by subst e; exact ⟨by decide, ww_880, ww_881⟩) (fun e => by subst e; exact ⟨by decide, ww_882, ww_883⟩))) hh) tg_X6_mergeDown (fun r w' h => ct_X6_mergeDown (xhl G) _ _ _ r w' h) o4 hyp rfl ww_878 ww_884 ww_879 (by decide) (by decide) rfl rfl (xroom (Nat.le_of_ble_eq_true rfl)) dL_mergeDown_4 (push := (fun r3 => [.int r3, .int 0, va_rf x2])) (fun _ => rfl) (fun r3 w2 hyp => ?_) (fun E w2 hK => ?_)
  · refine r_i2l G dL_mergeDown_7 ?_
    refine r_ref hyp (fun a5 ha5 hz => ?_)
    clear hyp; subst ha5; have hyp := hz; clear hz
    obtain ⟨w6, hw6, hyp⟩ := x_some hyp
    refine r_last G hw6 dL_mergeDown_8 ?_
    refine r_goto G 21 dL_mergeDown_9 (by decide) ?_
    refine r_iconst (v := 0) G dL_mergeDown_21 (by decide) ?_
    exact r_iret G hyp rfl (Nat.le_of_ble_eq_true rfl) (Nat.le_of_ble_eq_true rfl) dL_mergeDown_22
  · rcases x_if hK with ⟨he, hyp⟩ | ⟨_, hK⟩
    · subst he
      refine ⟨("java/lang/IndexOutOfBoundsException", 12, 21), by first | exact List.mem_cons_self | simp, rfl, fun q => ?_⟩
      show xAW Γ p l e _ s m _ below meth c _ _ _ 1 6 12 _ _
      refine r_astore_n (lv' := [(3, .ref q), (0, .ref a1), (1, .int x1), (2, va_rf x2)]) G dL_mergeDown_12 rfl (by decide) ⟨fun _ => rfl, fun _ => rfl, fun _ => xcq _, trivial⟩ rfl ?_
      refine r_iconst (v := 1) G dL_mergeDown_13 (by decide) ?_
      exact r_iret G hyp rfl (Nat.le_of_ble_eq_true rfl) (Nat.le_of_ble_eq_true rfl) dL_mergeDown_14
    rcases x_if hK with ⟨he, hyp⟩ | ⟨_, hK⟩
    · subst he
      refine ⟨("java/util/NoSuchElementException", 15, 44), by first | exact List.mem_cons_self | simp, rfl, fun q => ?_⟩
      show xAW Γ p l e _ s m _ below meth c _ _ _ 1 6 15 _ _
      refine r_astore_n (lv' := [(3, .ref q), (0, .ref a1), (1, .int x1), (2, va_rf x2)]) G dL_mergeDown_15 rfl (by decide) ⟨fun _ => rfl, fun _ => rfl, fun _ => xcq _, trivial⟩ rfl ?_
      refine r_iconst (v := 2) G dL_mergeDown_16 (by decide) ?_
      exact r_iret G hyp rfl (Nat.le_of_ble_eq_true rfl) (Nat.le_of_ble_eq_true rfl) dL_mergeDown_17
    rcases x_if hK with ⟨he, hyp⟩ | ⟨_, hK⟩
    · subst he
      refine ⟨("java/lang/UnsupportedOperationException", 18, 46), by first | exact List.mem_cons_self | simp, rfl, fun q => ?_⟩
      show xAW Γ p l e _ s m _ below meth c _ _ _ 1 6 18 _ _
      refine r_astore_n (lv' := [(3, .ref q), (0, .ref a1), (1, .int x1), (2, va_rf x2)]) G dL_mergeDown_18 rfl (by decide) ⟨fun _ => rfl, fun _ => rfl, fun _ => xcq _, trivial⟩ rfl ?_
      refine r_iconst (v := 3) G dL_mergeDown_19 (by decide) ?_
      exact r_iret G hyp rfl (Nat.le_of_ble_eq_true rfl) (Nat.le_of_ble_eq_true rfl) dL_mergeDown_20
    cases hK
theorem tgh_L_castShadow : xTgtH yL_castShadow cL_castShadow 5 (some .int) [(0, 10, 13, 21), (0, 10, 17, 13), (0, 10, 21, 15)] 4 := ⟨ww_889, ww_851, by decide, by decide +kernel, by decide +kernel⟩
section
variable {Γ : xG} {p : Program} {l : Launch} {e : Env} {s : State} {m : MethodId} {args : Array Value} {below : List Frame} {meth : Method} {c : Code} {rF : Int32 ⊕ String} {wF : xW}
end
set_option maxRecDepth 100000 in
set_option maxHeartbeats 4000000 in
theorem ct_L_castShadow {Γ : xG} {l : Launch} (hl : l.stackTraces = false) (x0 : Option Nat) (x1 : Int32) (x2 : Int32) (x3 : Option Nat) (w0 : xW) (rF : Int32 ⊕ String) (wF : xW) (hyp : f_L_castShadow x0 x1 x2 x3 w0 = some (rF, wF)) : xMetL Γ l yL_castShadow (xwsH yL_castShadow cL_castShadow 5 (some .int) [(0, 10, 13, 21), (0, 10, 17, 13), (0, 10, 21, 15)]) 7 xI [va_rf x0, .int x1, .int x2, va_rf x3] w0 rF wF 1 6 := by
  refine xOfWH tgh_L_castShadow hl (lv0 := [(0, va_rf x0), (1, .int x1), (2, .int x2), (3, va_rf x3)]) (by cases x0 <;> cases x3 <;> exact Nat.le_of_ble_eq_true rfl) (by cases x0 <;> cases x3 <;> rfl) ?_
  intro p e s m below meth c G hT hN
  rw [f_L_castShadow] at hyp
  refine r_aload_nq G 3 dL_castShadow_0 rfl rfl ?_
  refine r_iconst (v := 0) G dL_castShadow_1 (by decide) ?_
  refine r_aload_nq G 0 dL_castShadow_2 rfl rfl ?_
  refine r_iload_n G 1 dL_castShadow_3 rfl rfl ?_
  refine r_iload_n G 2 dL_castShadow_4 rfl rfl ?_
  refine r_ref hyp (fun a1 ha1 hz => ?_)
  clear hyp; subst ha1; have hyp := hz; clear hz
  obtain ⟨o4, hyp⟩ := x_chk hyp
  refine r_callVT (ι := xI) (T := TX6) (N := 9) (ci := 6) (b := a1) (rest := [.int 0, va_rf x3]) (As := [.int x1, .int x2]) (s0 := 0) (e0 := 10) [("java/lang/IndexOutOfBoundsException", 13, 21), ("java/lang/IllegalArgumentException", 17, 13), ("java/lang/IllegalStateException", 21, 15)] G hN hT (by decide) (by decide) (by decide) (by intro h hh; simp only [List.mem_cons, List.not_mem_nil, or_false] at hh; exact (fun q => q.elim (fun e => by subst e; exact ⟨by decide, ww_854, ww_855⟩) (fun q => q.elim (fun e => by subst e; exact ⟨by decide, ww_845, ww_846⟩) (fun e => by subst e; exact ⟨by decide, ww_847, ww_848⟩))) hh) tg_X6_castShadow (fun r w' h => ct_X6_castShadow (xhl G) _ _ _ _ r w' h) o4 hyp rfl ww_886 ww_888 ww_887 (by decide) (by decide) rfl rfl (xroom (Nat.le_of_ble_eq_true rfl)) dL_castShadow_5 (push := (fun r3 => [.int r3, .int 0, va_rf x3])) (fun _ => rfl) (fun r3 w2 hyp => ?_) (fun E w2 hK => ?_)
  · refine r_i2l G dL_castShadow_8 ?_
    refine r_ref hyp (fun a5 ha5 hz => ?_)
    clear hyp; subst ha5; have hyp := hz; clear hz
    obtain ⟨w6, hw6, hyp⟩ := x_some hyp
    refine r_last G hw6 dL_castShadow_9 ?_
    refine r_goto G 25 dL_castShadow_10 (by decide) ?_
    refine r_iconst (v := 0) G dL_castShadow_25 (by decide) ?_
    exact r_iret G hyp rfl (Nat.le_of_ble_eq_true rfl) (Nat.le_of_ble_eq_true rfl) dL_castShadow_26
  · rcases x_if hK with ⟨he, hyp⟩ | ⟨_, hK⟩
    · subst he
      refine ⟨("java/lang/IndexOutOfBoundsException", 13, 21), by first | exact List.mem_cons_self | simp, rfl, fun q => ?_⟩
      show xAW Γ p l e _ s m _ below meth c _ _ _ 1 6 13 _ _
      refine r_astore (lv' := [(4, .ref q), (0, .ref a1), (1, .int x1), (2, .int x2), (3, va_rf x3)]) G dL_castShadow_13 (by decide) ⟨fun _ => rfl, fun _ => rfl, fun _ => rfl, fun _ => xcq _, trivial⟩ rfl ?_
      refine r_iconst (v := 1) G dL_castShadow_15 (by decide) ?_
      exact r_iret G hyp rfl (Nat.le_of_ble_eq_true rfl) (Nat.le_of_ble_eq_true rfl) dL_castShadow_16
    rcases x_if hK with ⟨he, hyp⟩ | ⟨_, hK⟩
    · subst he
      refine ⟨("java/lang/IllegalArgumentException", 17, 13), by first | exact List.mem_cons_self | simp, rfl, fun q => ?_⟩
      show xAW Γ p l e _ s m _ below meth c _ _ _ 1 6 17 _ _
      refine r_astore (lv' := [(4, .ref q), (0, .ref a1), (1, .int x1), (2, .int x2), (3, va_rf x3)]) G dL_castShadow_17 (by decide) ⟨fun _ => rfl, fun _ => rfl, fun _ => rfl, fun _ => xcq _, trivial⟩ rfl ?_
      refine r_iconst (v := 2) G dL_castShadow_19 (by decide) ?_
      exact r_iret G hyp rfl (Nat.le_of_ble_eq_true rfl) (Nat.le_of_ble_eq_true rfl) dL_castShadow_20
    rcases x_if hK with ⟨he, hyp⟩ | ⟨_, hK⟩
    · subst he
      refine ⟨("java/lang/IllegalStateException", 21, 15), by first | exact List.mem_cons_self | simp, rfl, fun q => ?_⟩
      show xAW Γ p l e _ s m _ below meth c _ _ _ 1 6 21 _ _
      refine r_astore (lv' := [(4, .ref q), (0, .ref a1), (1, .int x1), (2, .int x2), (3, va_rf x3)]) G dL_castShadow_21 (by decide) ⟨fun _ => rfl, fun _ => rfl, fun _ => rfl, fun _ => xcq _, trivial⟩ rfl ?_
      refine r_iconst (v := 3) G dL_castShadow_23 (by decide) ?_
      exact r_iret G hyp rfl (Nat.le_of_ble_eq_true rfl) (Nat.le_of_ble_eq_true rfl) dL_castShadow_24
    cases hK
theorem tgh_L_mode : xTgtH yL_mode cL_mode 4 (some .int) [(0, 9, 12, 21)] 3 := ⟨ww_893, ww_851, by decide, by decide +kernel, by decide +kernel⟩
section
variable {Γ : xG} {p : Program} {l : Launch} {e : Env} {s : State} {m : MethodId} {args : Array Value} {below : List Frame} {meth : Method} {c : Code} {rF : Int32 ⊕ String} {wF : xW}
end
set_option maxRecDepth 100000 in
set_option maxHeartbeats 4000000 in
theorem ct_L_mode {Γ : xG} {l : Launch} (hl : l.stackTraces = false) (x0 : Option Nat) (x1 : Int32) (x2 : Option Nat) (w0 : xW) (rF : Int32 ⊕ String) (wF : xW) (hyp : f_L_mode x0 x1 x2 w0 = some (rF, wF)) : xMetL Γ l yL_mode (xwsH yL_mode cL_mode 4 (some .int) [(0, 9, 12, 21)]) 8 xI [va_rf x0, .int x1, va_rf x2] w0 rF wF 1 6 := by
  refine xOfWH tgh_L_mode hl (lv0 := [(0, va_rf x0), (1, .int x1), (2, va_rf x2)]) (by cases x0 <;> cases x2 <;> exact Nat.le_of_ble_eq_true rfl) (by cases x0 <;> cases x2 <;> rfl) ?_
  intro p e s m below meth c G hT hN
  rw [f_L_mode] at hyp
  refine r_aload_nq G 2 dL_mode_0 rfl rfl ?_
  refine r_iconst (v := 0) G dL_mode_1 (by decide) ?_
  refine r_aload_nq G 0 dL_mode_2 rfl rfl ?_
  refine r_iload_n G 1 dL_mode_3 rfl rfl ?_
  refine r_ref hyp (fun a1 ha1 hz => ?_)
  clear hyp; subst ha1; have hyp := hz; clear hz
  obtain ⟨o4, hyp⟩ := x_chk hyp
  refine r_callVT (ι := xI) (T := TX6) (N := 9) (ci := 6) (b := a1) (rest := [.int 0, va_rf x2]) (As := [.int x1]) (s0 := 0) (e0 := 9) [("java/lang/IndexOutOfBoundsException", 12, 21)] G hN hT (by decide) (by decide) (by decide) (by intro h hh; simp only [List.mem_cons, List.not_mem_nil, or_false] at hh; subst hh; exact ⟨by decide, ww_854, ww_855⟩) tg_X6_mode (fun r w' h => ct_X6_mode (xhl G) _ _ _ r w' h) o4 hyp rfl ww_890 ww_892 ww_891 (by decide) (by decide) rfl rfl (xroom (Nat.le_of_ble_eq_true rfl)) dL_mode_4 (push := (fun r3 => [.int r3, .int 0, va_rf x2])) (fun _ => rfl) (fun r3 w2 hyp => ?_) (fun E w2 hK => ?_)
  · refine r_i2l G dL_mode_7 ?_
    refine r_ref hyp (fun a5 ha5 hz => ?_)
    clear hyp; subst ha5; have hyp := hz; clear hz
    obtain ⟨w6, hw6, hyp⟩ := x_some hyp
    refine r_last G hw6 dL_mode_8 ?_
    refine r_goto G 15 dL_mode_9 (by decide) ?_
    refine r_iconst (v := 0) G dL_mode_15 (by decide) ?_
    exact r_iret G hyp rfl (Nat.le_of_ble_eq_true rfl) (Nat.le_of_ble_eq_true rfl) dL_mode_16
  · rcases x_if hK with ⟨he, hyp⟩ | ⟨_, hK⟩
    · subst he
      refine ⟨("java/lang/IndexOutOfBoundsException", 12, 21), by first | exact List.mem_cons_self | simp, rfl, fun q => ?_⟩
      show xAW Γ p l e _ s m _ below meth c _ _ _ 1 6 12 _ _
      refine r_astore_n (lv' := [(3, .ref q), (0, .ref a1), (1, .int x1), (2, va_rf x2)]) G dL_mode_12 rfl (by decide) ⟨fun _ => rfl, fun _ => rfl, fun _ => xcq _, trivial⟩ rfl ?_
      refine r_iconst (v := 1) G dL_mode_13 (by decide) ?_
      exact r_iret G hyp rfl (Nat.le_of_ble_eq_true rfl) (Nat.le_of_ble_eq_true rfl) dL_mode_14
    cases hK
theorem tgh_L_isVisible : xTgtH yL_isVisible cL_isVisible 4 (some .int) [(0, 16, 19, 21)] 3 := ⟨ww_897, ww_851, by decide, by decide +kernel, by decide +kernel⟩
section
variable {Γ : xG} {p : Program} {l : Launch} {e : Env} {s : State} {m : MethodId} {args : Array Value} {below : List Frame} {meth : Method} {c : Code} {rF : Int32 ⊕ String} {wF : xW}
end
set_option maxRecDepth 100000 in
set_option maxHeartbeats 4000000 in
theorem ct_L_isVisible {Γ : xG} {l : Launch} (hl : l.stackTraces = false) (x0 : Option Nat) (x1 : Int32) (x2 : Option Nat) (w0 : xW) (rF : Int32 ⊕ String) (wF : xW) (hyp : f_L_isVisible x0 x1 x2 w0 = some (rF, wF)) : xMetL Γ l yL_isVisible (xwsH yL_isVisible cL_isVisible 4 (some .int) [(0, 16, 19, 21)]) 8 xI [va_rf x0, .int x1, va_rf x2] w0 rF wF 1 6 := by
  refine xOfWH tgh_L_isVisible hl (lv0 := [(0, va_rf x0), (1, .int x1), (2, va_rf x2)]) (by cases x0 <;> cases x2 <;> exact Nat.le_of_ble_eq_true rfl) (by cases x0 <;> cases x2 <;> rfl) ?_
  intro p e s m below meth c G hT hN
  rw [f_L_isVisible] at hyp
  refine r_aload_nq G 2 dL_isVisible_0 rfl rfl ?_
  refine r_iconst (v := 0) G dL_isVisible_1 (by decide) ?_
  refine r_aload_nq G 0 dL_isVisible_2 rfl rfl ?_
  refine r_iload_n G 1 dL_isVisible_3 rfl rfl ?_
  refine r_ref hyp (fun a1 ha1 hz => ?_)
  clear hyp; subst ha1; have hyp := hz; clear hz
  obtain ⟨o4, hyp⟩ := x_chk hyp
  refine r_callVT (ι := xI) (T := TX6) (N := 9) (ci := 6) (b := a1) (rest := [.int 0, va_rf x2]) (As := [.int x1]) (s0 := 0) (e0 := 16) [("java/lang/IndexOutOfBoundsException", 19, 21)] G hN hT (by decide) (by decide) (by decide) (by intro h hh; simp only [List.mem_cons, List.not_mem_nil, or_false] at hh; subst hh; exact ⟨by decide, ww_854, ww_855⟩) tg_X6_isVisible (fun r w' h => ct_X6_isVisible (xhl G) _ _ _ r w' h) o4 hyp rfl ww_894 ww_896 ww_895 (by decide) (by decide) rfl rfl (xroom (Nat.le_of_ble_eq_true rfl)) dL_isVisible_4 (push := (fun r3 => [.int r3, .int 0, va_rf x2])) (fun _ => rfl) (fun r3 w2 hyp => ?_) (fun E w2 hK => ?_)
  · refine r_if_eq G 14 dL_isVisible_7 (by decide) hyp (fun c5 hyp => ?_) (fun c5 hyp => ?_)
    · refine r_lconst (v := 0) G dL_isVisible_14 (by decide) ?_
      refine r_ref hyp (fun a6 ha6 hz => ?_)
      clear hyp; subst ha6; have hyp := hz; clear hz
      obtain ⟨w7, hw7, hyp⟩ := x_some hyp
      refine r_last G hw7 dL_isVisible_15 ?_
      refine r_goto G 22 dL_isVisible_16 (by decide) ?_
      refine r_iconst (v := 0) G dL_isVisible_22 (by decide) ?_
      exact r_iret G hyp rfl (Nat.le_of_ble_eq_true rfl) (Nat.le_of_ble_eq_true rfl) dL_isVisible_23
    · refine r_lconst (v := 1) G dL_isVisible_10 (by decide) ?_
      refine r_goto G 15 dL_isVisible_11 (by decide) ?_
      refine r_ref hyp (fun a8 ha8 hz => ?_)
      clear hyp; subst ha8; have hyp := hz; clear hz
      obtain ⟨w9, hw9, hyp⟩ := x_some hyp
      refine r_last G hw9 dL_isVisible_15 ?_
      refine r_goto G 22 dL_isVisible_16 (by decide) ?_
      refine r_iconst (v := 0) G dL_isVisible_22 (by decide) ?_
      exact r_iret G hyp rfl (Nat.le_of_ble_eq_true rfl) (Nat.le_of_ble_eq_true rfl) dL_isVisible_23
  · rcases x_if hK with ⟨he, hyp⟩ | ⟨_, hK⟩
    · subst he
      refine ⟨("java/lang/IndexOutOfBoundsException", 19, 21), by first | exact List.mem_cons_self | simp, rfl, fun q => ?_⟩
      show xAW Γ p l e _ s m _ below meth c _ _ _ 1 6 19 _ _
      refine r_astore_n (lv' := [(3, .ref q), (0, .ref a1), (1, .int x1), (2, va_rf x2)]) G dL_isVisible_19 rfl (by decide) ⟨fun _ => rfl, fun _ => rfl, fun _ => xcq _, trivial⟩ rfl ?_
      refine r_iconst (v := 1) G dL_isVisible_20 (by decide) ?_
      exact r_iret G hyp rfl (Nat.le_of_ble_eq_true rfl) (Nat.le_of_ble_eq_true rfl) dL_isVisible_21
    cases hK
theorem tgh_L_hasTone : xTgtH yL_hasTone cL_hasTone 6 (some .int) [(0, 19, 22, 21)] 5 := ⟨ww_901, ww_851, by decide, by decide +kernel, by decide +kernel⟩
section
variable {Γ : xG} {p : Program} {l : Launch} {e : Env} {s : State} {m : MethodId} {args : Array Value} {below : List Frame} {meth : Method} {c : Code} {rF : Int32 ⊕ String} {wF : xW}
end
set_option maxRecDepth 100000 in
set_option maxHeartbeats 4000000 in
theorem ct_L_hasTone {Γ : xG} {l : Launch} (hl : l.stackTraces = false) (x0 : Option Nat) (x1 : Int32) (x2 : Int32) (x3 : Int32) (x4 : Option Nat) (w0 : xW) (rF : Int32 ⊕ String) (wF : xW) (hyp : f_L_hasTone x0 x1 x2 x3 x4 w0 = some (rF, wF)) : xMetL Γ l yL_hasTone (xwsH yL_hasTone cL_hasTone 6 (some .int) [(0, 19, 22, 21)]) 8 xI [va_rf x0, .int x1, .int x2, .int x3, va_rf x4] w0 rF wF 1 6 := by
  refine xOfWH tgh_L_hasTone hl (lv0 := [(0, va_rf x0), (1, .int x1), (2, .int x2), (3, .int x3), (4, va_rf x4)]) (by cases x0 <;> cases x4 <;> exact Nat.le_of_ble_eq_true rfl) (by cases x0 <;> cases x4 <;> rfl) ?_
  intro p e s m below meth c G hT hN
  rw [f_L_hasTone] at hyp
  refine r_aloadq G 4 dL_hasTone_0 rfl ?_
  refine r_iconst (v := 0) G dL_hasTone_2 (by decide) ?_
  refine r_aload_nq G 0 dL_hasTone_3 rfl rfl ?_
  refine r_iload_n G 1 dL_hasTone_4 rfl rfl ?_
  refine r_iload_n G 2 dL_hasTone_5 rfl rfl ?_
  refine r_iload_n G 3 dL_hasTone_6 rfl rfl ?_
  refine r_ref hyp (fun a1 ha1 hz => ?_)
  clear hyp; subst ha1; have hyp := hz; clear hz
  obtain ⟨o4, hyp⟩ := x_chk hyp
  refine r_callVT (ι := xI) (T := TX6) (N := 9) (ci := 6) (b := a1) (rest := [.int 0, va_rf x4]) (As := [.int x1, .int x2, .int x3]) (s0 := 0) (e0 := 19) [("java/lang/IndexOutOfBoundsException", 22, 21)] G hN hT (by decide) (by decide) (by decide) (by intro h hh; simp only [List.mem_cons, List.not_mem_nil, or_false] at hh; subst hh; exact ⟨by decide, ww_854, ww_855⟩) tg_X6_hasTone (fun r w' h => ct_X6_hasTone (xhl G) _ _ _ _ _ r w' h) o4 hyp rfl ww_898 ww_900 ww_899 (by decide) (by decide) rfl rfl (xroom (Nat.le_of_ble_eq_true rfl)) dL_hasTone_7 (push := (fun r3 => [.int r3, .int 0, va_rf x4])) (fun _ => rfl) (fun r3 w2 hyp => ?_) (fun E w2 hK => ?_)
  · refine r_if_eq G 17 dL_hasTone_10 (by decide) hyp (fun c5 hyp => ?_) (fun c5 hyp => ?_)
    · refine r_lconst (v := 0) G dL_hasTone_17 (by decide) ?_
      refine r_ref hyp (fun a6 ha6 hz => ?_)
      clear hyp; subst ha6; have hyp := hz; clear hz
      obtain ⟨w7, hw7, hyp⟩ := x_some hyp
      refine r_last G hw7 dL_hasTone_18 ?_
      refine r_goto G 26 dL_hasTone_19 (by decide) ?_
      refine r_iconst (v := 0) G dL_hasTone_26 (by decide) ?_
      exact r_iret G hyp rfl (Nat.le_of_ble_eq_true rfl) (Nat.le_of_ble_eq_true rfl) dL_hasTone_27
    · refine r_lconst (v := 1) G dL_hasTone_13 (by decide) ?_
      refine r_goto G 18 dL_hasTone_14 (by decide) ?_
      refine r_ref hyp (fun a8 ha8 hz => ?_)
      clear hyp; subst ha8; have hyp := hz; clear hz
      obtain ⟨w9, hw9, hyp⟩ := x_some hyp
      refine r_last G hw9 dL_hasTone_18 ?_
      refine r_goto G 26 dL_hasTone_19 (by decide) ?_
      refine r_iconst (v := 0) G dL_hasTone_26 (by decide) ?_
      exact r_iret G hyp rfl (Nat.le_of_ble_eq_true rfl) (Nat.le_of_ble_eq_true rfl) dL_hasTone_27
  · rcases x_if hK with ⟨he, hyp⟩ | ⟨_, hK⟩
    · subst he
      refine ⟨("java/lang/IndexOutOfBoundsException", 22, 21), by first | exact List.mem_cons_self | simp, rfl, fun q => ?_⟩
      show xAW Γ p l e _ s m _ below meth c _ _ _ 1 6 22 _ _
      refine r_astore (lv' := [(5, .ref q), (0, .ref a1), (1, .int x1), (2, .int x2), (3, .int x3), (4, va_rf x4)]) G dL_hasTone_22 (by decide) ⟨fun _ => rfl, fun _ => rfl, fun _ => rfl, fun _ => rfl, fun _ => xcq _, trivial⟩ rfl ?_
      refine r_iconst (v := 1) G dL_hasTone_24 (by decide) ?_
      exact r_iret G hyp rfl (Nat.le_of_ble_eq_true rfl) (Nat.le_of_ble_eq_true rfl) dL_hasTone_25
    cases hK
theorem tgh_L_tone : xTgtH yL_tone cL_tone 6 (some .int) [(0, 12, 15, 21), (0, 12, 19, 44)] 5 := ⟨ww_905, ww_851, by decide, by decide +kernel, by decide +kernel⟩
section
variable {Γ : xG} {p : Program} {l : Launch} {e : Env} {s : State} {m : MethodId} {args : Array Value} {below : List Frame} {meth : Method} {c : Code} {rF : Int32 ⊕ String} {wF : xW}
end
set_option maxRecDepth 100000 in
set_option maxHeartbeats 4000000 in
theorem ct_L_tone {Γ : xG} {l : Launch} (hl : l.stackTraces = false) (x0 : Option Nat) (x1 : Int32) (x2 : Int32) (x3 : Int32) (x4 : Option Nat) (w0 : xW) (rF : Int32 ⊕ String) (wF : xW) (hyp : f_L_tone x0 x1 x2 x3 x4 w0 = some (rF, wF)) : xMetL Γ l yL_tone (xwsH yL_tone cL_tone 6 (some .int) [(0, 12, 15, 21), (0, 12, 19, 44)]) 8 xI [va_rf x0, .int x1, .int x2, .int x3, va_rf x4] w0 rF wF 1 6 := by
  refine xOfWH tgh_L_tone hl (lv0 := [(0, va_rf x0), (1, .int x1), (2, .int x2), (3, .int x3), (4, va_rf x4)]) (by cases x0 <;> cases x4 <;> exact Nat.le_of_ble_eq_true rfl) (by cases x0 <;> cases x4 <;> rfl) ?_
  intro p e s m below meth c G hT hN
  rw [f_L_tone] at hyp
  refine r_aloadq G 4 dL_tone_0 rfl ?_
  refine r_iconst (v := 0) G dL_tone_2 (by decide) ?_
  refine r_aload_nq G 0 dL_tone_3 rfl rfl ?_
  refine r_iload_n G 1 dL_tone_4 rfl rfl ?_
  refine r_iload_n G 2 dL_tone_5 rfl rfl ?_
  refine r_iload_n G 3 dL_tone_6 rfl rfl ?_
  refine r_ref hyp (fun a1 ha1 hz => ?_)
  clear hyp; subst ha1; have hyp := hz; clear hz
  obtain ⟨o4, hyp⟩ := x_chk hyp
  refine r_callVT (ι := xI) (T := TX6) (N := 9) (ci := 6) (b := a1) (rest := [.int 0, va_rf x4]) (As := [.int x1, .int x2, .int x3]) (s0 := 0) (e0 := 12) [("java/lang/IndexOutOfBoundsException", 15, 21), ("java/util/NoSuchElementException", 19, 44)] G hN hT (by decide) (by decide) (by decide) (by intro h hh; simp only [List.mem_cons, List.not_mem_nil, or_false] at hh; exact (fun q => q.elim (fun e => by subst e; exact ⟨by decide, ww_854, ww_855⟩) (fun e => by subst e; exact ⟨by decide, ww_880, ww_881⟩)) hh) tg_X6_tone (fun r w' h => ct_X6_tone (xhl G) _ _ _ _ _ r w' h) o4 hyp rfl ww_902 ww_904 ww_903 (by decide) (by decide) rfl rfl (xroom (Nat.le_of_ble_eq_true rfl)) dL_tone_7 (push := (fun r3 => [.int r3, .int 0, va_rf x4])) (fun _ => rfl) (fun r3 w2 hyp => ?_) (fun E w2 hK => ?_)
  · refine r_i2l G dL_tone_10 ?_
    refine r_ref hyp (fun a5 ha5 hz => ?_)
    clear hyp; subst ha5; have hyp := hz; clear hz
    obtain ⟨w6, hw6, hyp⟩ := x_some hyp
    refine r_last G hw6 dL_tone_11 ?_
    refine r_goto G 23 dL_tone_12 (by decide) ?_
    refine r_iconst (v := 0) G dL_tone_23 (by decide) ?_
    exact r_iret G hyp rfl (Nat.le_of_ble_eq_true rfl) (Nat.le_of_ble_eq_true rfl) dL_tone_24
  · rcases x_if hK with ⟨he, hyp⟩ | ⟨_, hK⟩
    · subst he
      refine ⟨("java/lang/IndexOutOfBoundsException", 15, 21), by first | exact List.mem_cons_self | simp, rfl, fun q => ?_⟩
      show xAW Γ p l e _ s m _ below meth c _ _ _ 1 6 15 _ _
      refine r_astore (lv' := [(5, .ref q), (0, .ref a1), (1, .int x1), (2, .int x2), (3, .int x3), (4, va_rf x4)]) G dL_tone_15 (by decide) ⟨fun _ => rfl, fun _ => rfl, fun _ => rfl, fun _ => rfl, fun _ => xcq _, trivial⟩ rfl ?_
      refine r_iconst (v := 1) G dL_tone_17 (by decide) ?_
      exact r_iret G hyp rfl (Nat.le_of_ble_eq_true rfl) (Nat.le_of_ble_eq_true rfl) dL_tone_18
    rcases x_if hK with ⟨he, hyp⟩ | ⟨_, hK⟩
    · subst he
      refine ⟨("java/util/NoSuchElementException", 19, 44), by first | exact List.mem_cons_self | simp, rfl, fun q => ?_⟩
      show xAW Γ p l e _ s m _ below meth c _ _ _ 1 6 19 _ _
      refine r_astore (lv' := [(5, .ref q), (0, .ref a1), (1, .int x1), (2, .int x2), (3, .int x3), (4, va_rf x4)]) G dL_tone_19 (by decide) ⟨fun _ => rfl, fun _ => rfl, fun _ => rfl, fun _ => rfl, fun _ => xcq _, trivial⟩ rfl ?_
      refine r_iconst (v := 2) G dL_tone_21 (by decide) ?_
      exact r_iret G hyp rfl (Nat.le_of_ble_eq_true rfl) (Nat.le_of_ble_eq_true rfl) dL_tone_22
    cases hK
theorem tgh_L_painted : xTgtH yL_painted cL_painted 4 (some .int) [(0, 9, 12, 21)] 3 := ⟨ww_909, ww_851, by decide, by decide +kernel, by decide +kernel⟩
section
variable {Γ : xG} {p : Program} {l : Launch} {e : Env} {s : State} {m : MethodId} {args : Array Value} {below : List Frame} {meth : Method} {c : Code} {rF : Int32 ⊕ String} {wF : xW}
end
set_option maxRecDepth 100000 in
set_option maxHeartbeats 4000000 in
theorem ct_L_painted {Γ : xG} {l : Launch} (hl : l.stackTraces = false) (x0 : Option Nat) (x1 : Int32) (x2 : Option Nat) (w0 : xW) (rF : Int32 ⊕ String) (wF : xW) (hyp : f_L_painted x0 x1 x2 w0 = some (rF, wF)) : xMetL Γ l yL_painted (xwsH yL_painted cL_painted 4 (some .int) [(0, 9, 12, 21)]) 8 xI [va_rf x0, .int x1, va_rf x2] w0 rF wF 1 6 := by
  refine xOfWH tgh_L_painted hl (lv0 := [(0, va_rf x0), (1, .int x1), (2, va_rf x2)]) (by cases x0 <;> cases x2 <;> exact Nat.le_of_ble_eq_true rfl) (by cases x0 <;> cases x2 <;> rfl) ?_
  intro p e s m below meth c G hT hN
  rw [f_L_painted] at hyp
  refine r_aload_nq G 2 dL_painted_0 rfl rfl ?_
  refine r_iconst (v := 0) G dL_painted_1 (by decide) ?_
  refine r_aload_nq G 0 dL_painted_2 rfl rfl ?_
  refine r_iload_n G 1 dL_painted_3 rfl rfl ?_
  refine r_ref hyp (fun a1 ha1 hz => ?_)
  clear hyp; subst ha1; have hyp := hz; clear hz
  obtain ⟨o4, hyp⟩ := x_chk hyp
  refine r_callVT (ι := xI) (T := TX6) (N := 9) (ci := 6) (b := a1) (rest := [.int 0, va_rf x2]) (As := [.int x1]) (s0 := 0) (e0 := 9) [("java/lang/IndexOutOfBoundsException", 12, 21)] G hN hT (by decide) (by decide) (by decide) (by intro h hh; simp only [List.mem_cons, List.not_mem_nil, or_false] at hh; subst hh; exact ⟨by decide, ww_854, ww_855⟩) tg_X6_painted (fun r w' h => ct_X6_painted (xhl G) _ _ _ r w' h) o4 hyp rfl ww_906 ww_908 ww_907 (by decide) (by decide) rfl rfl (xroom (Nat.le_of_ble_eq_true rfl)) dL_painted_4 (push := (fun r3 => [.int r3, .int 0, va_rf x2])) (fun _ => rfl) (fun r3 w2 hyp => ?_) (fun E w2 hK => ?_)
  · refine r_i2l G dL_painted_7 ?_
    refine r_ref hyp (fun a5 ha5 hz => ?_)
    clear hyp; subst ha5; have hyp := hz; clear hz
    obtain ⟨w6, hw6, hyp⟩ := x_some hyp
    refine r_last G hw6 dL_painted_8 ?_
    refine r_goto G 15 dL_painted_9 (by decide) ?_
    refine r_iconst (v := 0) G dL_painted_15 (by decide) ?_
    exact r_iret G hyp rfl (Nat.le_of_ble_eq_true rfl) (Nat.le_of_ble_eq_true rfl) dL_painted_16
  · rcases x_if hK with ⟨he, hyp⟩ | ⟨_, hK⟩
    · subst he
      refine ⟨("java/lang/IndexOutOfBoundsException", 12, 21), by first | exact List.mem_cons_self | simp, rfl, fun q => ?_⟩
      show xAW Γ p l e _ s m _ below meth c _ _ _ 1 6 12 _ _
      refine r_astore_n (lv' := [(3, .ref q), (0, .ref a1), (1, .int x1), (2, va_rf x2)]) G dL_painted_12 rfl (by decide) ⟨fun _ => rfl, fun _ => rfl, fun _ => xcq _, trivial⟩ rfl ?_
      refine r_iconst (v := 1) G dL_painted_13 (by decide) ?_
      exact r_iret G hyp rfl (Nat.le_of_ble_eq_true rfl) (Nat.le_of_ble_eq_true rfl) dL_painted_14
    cases hK
theorem tgh_L_seen : xTgtH yL_seen cL_seen 5 (some .int) [(0, 10, 13, 21)] 4 := ⟨ww_913, ww_851, by decide, by decide +kernel, by decide +kernel⟩
section
variable {Γ : xG} {p : Program} {l : Launch} {e : Env} {s : State} {m : MethodId} {args : Array Value} {below : List Frame} {meth : Method} {c : Code} {rF : Int32 ⊕ String} {wF : xW}
end
set_option maxRecDepth 100000 in
set_option maxHeartbeats 4000000 in
theorem ct_L_seen {Γ : xG} {l : Launch} (hl : l.stackTraces = false) (x0 : Option Nat) (x1 : Int32) (x2 : Int32) (x3 : Option Nat) (w0 : xW) (rF : Int32 ⊕ String) (wF : xW) (hyp : f_L_seen x0 x1 x2 x3 w0 = some (rF, wF)) : xMetL Γ l yL_seen (xwsH yL_seen cL_seen 5 (some .int) [(0, 10, 13, 21)]) 8 xI [va_rf x0, .int x1, .int x2, va_rf x3] w0 rF wF 1 6 := by
  refine xOfWH tgh_L_seen hl (lv0 := [(0, va_rf x0), (1, .int x1), (2, .int x2), (3, va_rf x3)]) (by cases x0 <;> cases x3 <;> exact Nat.le_of_ble_eq_true rfl) (by cases x0 <;> cases x3 <;> rfl) ?_
  intro p e s m below meth c G hT hN
  rw [f_L_seen] at hyp
  refine r_aload_nq G 3 dL_seen_0 rfl rfl ?_
  refine r_iconst (v := 0) G dL_seen_1 (by decide) ?_
  refine r_aload_nq G 0 dL_seen_2 rfl rfl ?_
  refine r_iload_n G 1 dL_seen_3 rfl rfl ?_
  refine r_iload_n G 2 dL_seen_4 rfl rfl ?_
  refine r_ref hyp (fun a1 ha1 hz => ?_)
  clear hyp; subst ha1; have hyp := hz; clear hz
  obtain ⟨o4, hyp⟩ := x_chk hyp
  refine r_callVT (ι := xI) (T := TX6) (N := 9) (ci := 6) (b := a1) (rest := [.int 0, va_rf x3]) (As := [.int x1, .int x2]) (s0 := 0) (e0 := 10) [("java/lang/IndexOutOfBoundsException", 13, 21)] G hN hT (by decide) (by decide) (by decide) (by intro h hh; simp only [List.mem_cons, List.not_mem_nil, or_false] at hh; subst hh; exact ⟨by decide, ww_854, ww_855⟩) tg_X6_seen (fun r w' h => ct_X6_seen (xhl G) _ _ _ _ r w' h) o4 hyp rfl ww_910 ww_912 ww_911 (by decide) (by decide) rfl rfl (xroom (Nat.le_of_ble_eq_true rfl)) dL_seen_5 (push := (fun r3 => [.int r3, .int 0, va_rf x3])) (fun _ => rfl) (fun r3 w2 hyp => ?_) (fun E w2 hK => ?_)
  · refine r_i2l G dL_seen_8 ?_
    refine r_ref hyp (fun a5 ha5 hz => ?_)
    clear hyp; subst ha5; have hyp := hz; clear hz
    obtain ⟨w6, hw6, hyp⟩ := x_some hyp
    refine r_last G hw6 dL_seen_9 ?_
    refine r_goto G 17 dL_seen_10 (by decide) ?_
    refine r_iconst (v := 0) G dL_seen_17 (by decide) ?_
    exact r_iret G hyp rfl (Nat.le_of_ble_eq_true rfl) (Nat.le_of_ble_eq_true rfl) dL_seen_18
  · rcases x_if hK with ⟨he, hyp⟩ | ⟨_, hK⟩
    · subst he
      refine ⟨("java/lang/IndexOutOfBoundsException", 13, 21), by first | exact List.mem_cons_self | simp, rfl, fun q => ?_⟩
      show xAW Γ p l e _ s m _ below meth c _ _ _ 1 6 13 _ _
      refine r_astore (lv' := [(4, .ref q), (0, .ref a1), (1, .int x1), (2, .int x2), (3, va_rf x3)]) G dL_seen_13 (by decide) ⟨fun _ => rfl, fun _ => rfl, fun _ => rfl, fun _ => xcq _, trivial⟩ rfl ?_
      refine r_iconst (v := 1) G dL_seen_15 (by decide) ?_
      exact r_iret G hyp rfl (Nat.le_of_ble_eq_true rfl) (Nat.le_of_ble_eq_true rfl) dL_seen_16
    cases hK
theorem tgh_L_seenFromTop : xTgtH yL_seenFromTop cL_seenFromTop 5 (some .int) [(0, 10, 13, 21)] 4 := ⟨ww_917, ww_851, by decide, by decide +kernel, by decide +kernel⟩
section
variable {Γ : xG} {p : Program} {l : Launch} {e : Env} {s : State} {m : MethodId} {args : Array Value} {below : List Frame} {meth : Method} {c : Code} {rF : Int32 ⊕ String} {wF : xW}
end
set_option maxRecDepth 100000 in
set_option maxHeartbeats 4000000 in
theorem ct_L_seenFromTop {Γ : xG} {l : Launch} (hl : l.stackTraces = false) (x0 : Option Nat) (x1 : Int32) (x2 : Int32) (x3 : Option Nat) (w0 : xW) (rF : Int32 ⊕ String) (wF : xW) (hyp : f_L_seenFromTop x0 x1 x2 x3 w0 = some (rF, wF)) : xMetL Γ l yL_seenFromTop (xwsH yL_seenFromTop cL_seenFromTop 5 (some .int) [(0, 10, 13, 21)]) 8 xI [va_rf x0, .int x1, .int x2, va_rf x3] w0 rF wF 1 6 := by
  refine xOfWH tgh_L_seenFromTop hl (lv0 := [(0, va_rf x0), (1, .int x1), (2, .int x2), (3, va_rf x3)]) (by cases x0 <;> cases x3 <;> exact Nat.le_of_ble_eq_true rfl) (by cases x0 <;> cases x3 <;> rfl) ?_
  intro p e s m below meth c G hT hN
  rw [f_L_seenFromTop] at hyp
  refine r_aload_nq G 3 dL_seenFromTop_0 rfl rfl ?_
  refine r_iconst (v := 0) G dL_seenFromTop_1 (by decide) ?_
  refine r_aload_nq G 0 dL_seenFromTop_2 rfl rfl ?_
  refine r_iload_n G 1 dL_seenFromTop_3 rfl rfl ?_
  refine r_iload_n G 2 dL_seenFromTop_4 rfl rfl ?_
  refine r_ref hyp (fun a1 ha1 hz => ?_)
  clear hyp; subst ha1; have hyp := hz; clear hz
  obtain ⟨o4, hyp⟩ := x_chk hyp
  refine r_callVT (ι := xI) (T := TX6) (N := 9) (ci := 6) (b := a1) (rest := [.int 0, va_rf x3]) (As := [.int x1, .int x2]) (s0 := 0) (e0 := 10) [("java/lang/IndexOutOfBoundsException", 13, 21)] G hN hT (by decide) (by decide) (by decide) (by intro h hh; simp only [List.mem_cons, List.not_mem_nil, or_false] at hh; subst hh; exact ⟨by decide, ww_854, ww_855⟩) tg_X6_seenFromTop (fun r w' h => ct_X6_seenFromTop (xhl G) _ _ _ _ r w' h) o4 hyp rfl ww_914 ww_916 ww_915 (by decide) (by decide) rfl rfl (xroom (Nat.le_of_ble_eq_true rfl)) dL_seenFromTop_5 (push := (fun r3 => [.int r3, .int 0, va_rf x3])) (fun _ => rfl) (fun r3 w2 hyp => ?_) (fun E w2 hK => ?_)
  · refine r_i2l G dL_seenFromTop_8 ?_
    refine r_ref hyp (fun a5 ha5 hz => ?_)
    clear hyp; subst ha5; have hyp := hz; clear hz
    obtain ⟨w6, hw6, hyp⟩ := x_some hyp
    refine r_last G hw6 dL_seenFromTop_9 ?_
    refine r_goto G 17 dL_seenFromTop_10 (by decide) ?_
    refine r_iconst (v := 0) G dL_seenFromTop_17 (by decide) ?_
    exact r_iret G hyp rfl (Nat.le_of_ble_eq_true rfl) (Nat.le_of_ble_eq_true rfl) dL_seenFromTop_18
  · rcases x_if hK with ⟨he, hyp⟩ | ⟨_, hK⟩
    · subst he
      refine ⟨("java/lang/IndexOutOfBoundsException", 13, 21), by first | exact List.mem_cons_self | simp, rfl, fun q => ?_⟩
      show xAW Γ p l e _ s m _ below meth c _ _ _ 1 6 13 _ _
      refine r_astore (lv' := [(4, .ref q), (0, .ref a1), (1, .int x1), (2, .int x2), (3, va_rf x3)]) G dL_seenFromTop_13 (by decide) ⟨fun _ => rfl, fun _ => rfl, fun _ => rfl, fun _ => xcq _, trivial⟩ rfl ?_
      refine r_iconst (v := 1) G dL_seenFromTop_15 (by decide) ?_
      exact r_iret G hyp rfl (Nat.le_of_ble_eq_true rfl) (Nat.le_of_ble_eq_true rfl) dL_seenFromTop_16
    cases hK
theorem tgh_L_topLayer : xTgtH yL_topLayer cL_topLayer 5 (some .int) [(0, 10, 13, 21), (0, 10, 17, 44)] 4 := ⟨ww_921, ww_851, by decide, by decide +kernel, by decide +kernel⟩
section
variable {Γ : xG} {p : Program} {l : Launch} {e : Env} {s : State} {m : MethodId} {args : Array Value} {below : List Frame} {meth : Method} {c : Code} {rF : Int32 ⊕ String} {wF : xW}
end
set_option maxRecDepth 100000 in
set_option maxHeartbeats 4000000 in
theorem ct_L_topLayer {Γ : xG} {l : Launch} (hl : l.stackTraces = false) (x0 : Option Nat) (x1 : Int32) (x2 : Int32) (x3 : Option Nat) (w0 : xW) (rF : Int32 ⊕ String) (wF : xW) (hyp : f_L_topLayer x0 x1 x2 x3 w0 = some (rF, wF)) : xMetL Γ l yL_topLayer (xwsH yL_topLayer cL_topLayer 5 (some .int) [(0, 10, 13, 21), (0, 10, 17, 44)]) 8 xI [va_rf x0, .int x1, .int x2, va_rf x3] w0 rF wF 1 6 := by
  refine xOfWH tgh_L_topLayer hl (lv0 := [(0, va_rf x0), (1, .int x1), (2, .int x2), (3, va_rf x3)]) (by cases x0 <;> cases x3 <;> exact Nat.le_of_ble_eq_true rfl) (by cases x0 <;> cases x3 <;> rfl) ?_
  intro p e s m below meth c G hT hN
  rw [f_L_topLayer] at hyp
  refine r_aload_nq G 3 dL_topLayer_0 rfl rfl ?_
  refine r_iconst (v := 0) G dL_topLayer_1 (by decide) ?_
  refine r_aload_nq G 0 dL_topLayer_2 rfl rfl ?_
  refine r_iload_n G 1 dL_topLayer_3 rfl rfl ?_
  refine r_iload_n G 2 dL_topLayer_4 rfl rfl ?_
  refine r_ref hyp (fun a1 ha1 hz => ?_)
  clear hyp; subst ha1; have hyp := hz; clear hz
  obtain ⟨o4, hyp⟩ := x_chk hyp
  refine r_callVT (ι := xI) (T := TX6) (N := 9) (ci := 6) (b := a1) (rest := [.int 0, va_rf x3]) (As := [.int x1, .int x2]) (s0 := 0) (e0 := 10) [("java/lang/IndexOutOfBoundsException", 13, 21), ("java/util/NoSuchElementException", 17, 44)] G hN hT (by decide) (by decide) (by decide) (by intro h hh; simp only [List.mem_cons, List.not_mem_nil, or_false] at hh; exact (fun q => q.elim (fun e => by subst e; exact ⟨by decide, ww_854, ww_855⟩) (fun e => by subst e; exact ⟨by decide, ww_880, ww_881⟩)) hh) tg_X6_topLayer (fun r w' h => ct_X6_topLayer (xhl G) _ _ _ _ r w' h) o4 hyp rfl ww_918 ww_920 ww_919 (by decide) (by decide) rfl rfl (xroom (Nat.le_of_ble_eq_true rfl)) dL_topLayer_5 (push := (fun r3 => [.int r3, .int 0, va_rf x3])) (fun _ => rfl) (fun r3 w2 hyp => ?_) (fun E w2 hK => ?_)
  · refine r_i2l G dL_topLayer_8 ?_
    refine r_ref hyp (fun a5 ha5 hz => ?_)
    clear hyp; subst ha5; have hyp := hz; clear hz
    obtain ⟨w6, hw6, hyp⟩ := x_some hyp
    refine r_last G hw6 dL_topLayer_9 ?_
    refine r_goto G 21 dL_topLayer_10 (by decide) ?_
    refine r_iconst (v := 0) G dL_topLayer_21 (by decide) ?_
    exact r_iret G hyp rfl (Nat.le_of_ble_eq_true rfl) (Nat.le_of_ble_eq_true rfl) dL_topLayer_22
  · rcases x_if hK with ⟨he, hyp⟩ | ⟨_, hK⟩
    · subst he
      refine ⟨("java/lang/IndexOutOfBoundsException", 13, 21), by first | exact List.mem_cons_self | simp, rfl, fun q => ?_⟩
      show xAW Γ p l e _ s m _ below meth c _ _ _ 1 6 13 _ _
      refine r_astore (lv' := [(4, .ref q), (0, .ref a1), (1, .int x1), (2, .int x2), (3, va_rf x3)]) G dL_topLayer_13 (by decide) ⟨fun _ => rfl, fun _ => rfl, fun _ => rfl, fun _ => xcq _, trivial⟩ rfl ?_
      refine r_iconst (v := 1) G dL_topLayer_15 (by decide) ?_
      exact r_iret G hyp rfl (Nat.le_of_ble_eq_true rfl) (Nat.le_of_ble_eq_true rfl) dL_topLayer_16
    rcases x_if hK with ⟨he, hyp⟩ | ⟨_, hK⟩
    · subst he
      refine ⟨("java/util/NoSuchElementException", 17, 44), by first | exact List.mem_cons_self | simp, rfl, fun q => ?_⟩
      show xAW Γ p l e _ s m _ below meth c _ _ _ 1 6 17 _ _
      refine r_astore (lv' := [(4, .ref q), (0, .ref a1), (1, .int x1), (2, .int x2), (3, va_rf x3)]) G dL_topLayer_17 (by decide) ⟨fun _ => rfl, fun _ => rfl, fun _ => rfl, fun _ => xcq _, trivial⟩ rfl ?_
      refine r_iconst (v := 2) G dL_topLayer_19 (by decide) ?_
      exact r_iret G hyp rfl (Nat.le_of_ble_eq_true rfl) (Nat.le_of_ble_eq_true rfl) dL_topLayer_20
    cases hK
theorem tgh_L_coveringLayers : xTgtH yL_coveringLayers cL_coveringLayers 5 (some .int) [(0, 10, 13, 21)] 4 := ⟨ww_925, ww_851, by decide, by decide +kernel, by decide +kernel⟩
section
variable {Γ : xG} {p : Program} {l : Launch} {e : Env} {s : State} {m : MethodId} {args : Array Value} {below : List Frame} {meth : Method} {c : Code} {rF : Int32 ⊕ String} {wF : xW}
end
set_option maxRecDepth 100000 in
set_option maxHeartbeats 4000000 in
theorem ct_L_coveringLayers {Γ : xG} {l : Launch} (hl : l.stackTraces = false) (x0 : Option Nat) (x1 : Int32) (x2 : Int32) (x3 : Option Nat) (w0 : xW) (rF : Int32 ⊕ String) (wF : xW) (hyp : f_L_coveringLayers x0 x1 x2 x3 w0 = some (rF, wF)) : xMetL Γ l yL_coveringLayers (xwsH yL_coveringLayers cL_coveringLayers 5 (some .int) [(0, 10, 13, 21)]) 8 xI [va_rf x0, .int x1, .int x2, va_rf x3] w0 rF wF 1 6 := by
  refine xOfWH tgh_L_coveringLayers hl (lv0 := [(0, va_rf x0), (1, .int x1), (2, .int x2), (3, va_rf x3)]) (by cases x0 <;> cases x3 <;> exact Nat.le_of_ble_eq_true rfl) (by cases x0 <;> cases x3 <;> rfl) ?_
  intro p e s m below meth c G hT hN
  rw [f_L_coveringLayers] at hyp
  refine r_aload_nq G 3 dL_coveringLayers_0 rfl rfl ?_
  refine r_iconst (v := 0) G dL_coveringLayers_1 (by decide) ?_
  refine r_aload_nq G 0 dL_coveringLayers_2 rfl rfl ?_
  refine r_iload_n G 1 dL_coveringLayers_3 rfl rfl ?_
  refine r_iload_n G 2 dL_coveringLayers_4 rfl rfl ?_
  refine r_ref hyp (fun a1 ha1 hz => ?_)
  clear hyp; subst ha1; have hyp := hz; clear hz
  obtain ⟨o4, hyp⟩ := x_chk hyp
  refine r_callVT (ι := xI) (T := TX6) (N := 9) (ci := 6) (b := a1) (rest := [.int 0, va_rf x3]) (As := [.int x1, .int x2]) (s0 := 0) (e0 := 10) [("java/lang/IndexOutOfBoundsException", 13, 21)] G hN hT (by decide) (by decide) (by decide) (by intro h hh; simp only [List.mem_cons, List.not_mem_nil, or_false] at hh; subst hh; exact ⟨by decide, ww_854, ww_855⟩) tg_X6_coveringLayers (fun r w' h => ct_X6_coveringLayers (xhl G) _ _ _ _ r w' h) o4 hyp rfl ww_922 ww_924 ww_923 (by decide) (by decide) rfl rfl (xroom (Nat.le_of_ble_eq_true rfl)) dL_coveringLayers_5 (push := (fun r3 => [.int r3, .int 0, va_rf x3])) (fun _ => rfl) (fun r3 w2 hyp => ?_) (fun E w2 hK => ?_)
  · refine r_i2l G dL_coveringLayers_8 ?_
    refine r_ref hyp (fun a5 ha5 hz => ?_)
    clear hyp; subst ha5; have hyp := hz; clear hz
    obtain ⟨w6, hw6, hyp⟩ := x_some hyp
    refine r_last G hw6 dL_coveringLayers_9 ?_
    refine r_goto G 17 dL_coveringLayers_10 (by decide) ?_
    refine r_iconst (v := 0) G dL_coveringLayers_17 (by decide) ?_
    exact r_iret G hyp rfl (Nat.le_of_ble_eq_true rfl) (Nat.le_of_ble_eq_true rfl) dL_coveringLayers_18
  · rcases x_if hK with ⟨he, hyp⟩ | ⟨_, hK⟩
    · subst he
      refine ⟨("java/lang/IndexOutOfBoundsException", 13, 21), by first | exact List.mem_cons_self | simp, rfl, fun q => ?_⟩
      show xAW Γ p l e _ s m _ below meth c _ _ _ 1 6 13 _ _
      refine r_astore (lv' := [(4, .ref q), (0, .ref a1), (1, .int x1), (2, .int x2), (3, va_rf x3)]) G dL_coveringLayers_13 (by decide) ⟨fun _ => rfl, fun _ => rfl, fun _ => rfl, fun _ => xcq _, trivial⟩ rfl ?_
      refine r_iconst (v := 1) G dL_coveringLayers_15 (by decide) ?_
      exact r_iret G hyp rfl (Nat.le_of_ble_eq_true rfl) (Nat.le_of_ble_eq_true rfl) dL_coveringLayers_16
    cases hK
theorem tgh_L_cellsWithTone : xTgtH yL_cellsWithTone cL_cellsWithTone 4 (some .int) [(0, 9, 12, 13)] 3 := ⟨ww_929, ww_851, by decide, by decide +kernel, by decide +kernel⟩
section
variable {Γ : xG} {p : Program} {l : Launch} {e : Env} {s : State} {m : MethodId} {args : Array Value} {below : List Frame} {meth : Method} {c : Code} {rF : Int32 ⊕ String} {wF : xW}
end
set_option maxRecDepth 100000 in
set_option maxHeartbeats 4000000 in
theorem ct_L_cellsWithTone {Γ : xG} {l : Launch} (hl : l.stackTraces = false) (x0 : Option Nat) (x1 : Int32) (x2 : Option Nat) (w0 : xW) (rF : Int32 ⊕ String) (wF : xW) (hyp : f_L_cellsWithTone x0 x1 x2 w0 = some (rF, wF)) : xMetL Γ l yL_cellsWithTone (xwsH yL_cellsWithTone cL_cellsWithTone 4 (some .int) [(0, 9, 12, 13)]) 7 xI [va_rf x0, .int x1, va_rf x2] w0 rF wF 1 6 := by
  refine xOfWH tgh_L_cellsWithTone hl (lv0 := [(0, va_rf x0), (1, .int x1), (2, va_rf x2)]) (by cases x0 <;> cases x2 <;> exact Nat.le_of_ble_eq_true rfl) (by cases x0 <;> cases x2 <;> rfl) ?_
  intro p e s m below meth c G hT hN
  rw [f_L_cellsWithTone] at hyp
  refine r_aload_nq G 2 dL_cellsWithTone_0 rfl rfl ?_
  refine r_iconst (v := 0) G dL_cellsWithTone_1 (by decide) ?_
  refine r_aload_nq G 0 dL_cellsWithTone_2 rfl rfl ?_
  refine r_iload_n G 1 dL_cellsWithTone_3 rfl rfl ?_
  refine r_ref hyp (fun a1 ha1 hz => ?_)
  clear hyp; subst ha1; have hyp := hz; clear hz
  obtain ⟨o4, hyp⟩ := x_chk hyp
  refine r_callVT (ι := xI) (T := TX6) (N := 9) (ci := 6) (b := a1) (rest := [.int 0, va_rf x2]) (As := [.int x1]) (s0 := 0) (e0 := 9) [("java/lang/IllegalArgumentException", 12, 13)] G hN hT (by decide) (by decide) (by decide) (by intro h hh; simp only [List.mem_cons, List.not_mem_nil, or_false] at hh; subst hh; exact ⟨by decide, ww_845, ww_846⟩) tg_X6_cellsWithTone (fun r w' h => ct_X6_cellsWithTone (xhl G) _ _ _ r w' h) o4 hyp rfl ww_926 ww_928 ww_927 (by decide) (by decide) rfl rfl (xroom (Nat.le_of_ble_eq_true rfl)) dL_cellsWithTone_4 (push := (fun r3 => [.int r3, .int 0, va_rf x2])) (fun _ => rfl) (fun r3 w2 hyp => ?_) (fun E w2 hK => ?_)
  · refine r_i2l G dL_cellsWithTone_7 ?_
    refine r_ref hyp (fun a5 ha5 hz => ?_)
    clear hyp; subst ha5; have hyp := hz; clear hz
    obtain ⟨w6, hw6, hyp⟩ := x_some hyp
    refine r_last G hw6 dL_cellsWithTone_8 ?_
    refine r_goto G 15 dL_cellsWithTone_9 (by decide) ?_
    refine r_iconst (v := 0) G dL_cellsWithTone_15 (by decide) ?_
    exact r_iret G hyp rfl (Nat.le_of_ble_eq_true rfl) (Nat.le_of_ble_eq_true rfl) dL_cellsWithTone_16
  · rcases x_if hK with ⟨he, hyp⟩ | ⟨_, hK⟩
    · subst he
      refine ⟨("java/lang/IllegalArgumentException", 12, 13), by first | exact List.mem_cons_self | simp, rfl, fun q => ?_⟩
      show xAW Γ p l e _ s m _ below meth c _ _ _ 1 6 12 _ _
      refine r_astore_n (lv' := [(3, .ref q), (0, .ref a1), (1, .int x1), (2, va_rf x2)]) G dL_cellsWithTone_12 rfl (by decide) ⟨fun _ => rfl, fun _ => rfl, fun _ => xcq _, trivial⟩ rfl ?_
      refine r_iconst (v := 1) G dL_cellsWithTone_13 (by decide) ?_
      exact r_iret G hyp rfl (Nat.le_of_ble_eq_true rfl) (Nat.le_of_ble_eq_true rfl) dL_cellsWithTone_14
    cases hK
theorem tgh_L_sumOfTones : xTgtH yL_sumOfTones cL_sumOfTones 7 (some .int) [(0, 14, 17, 21), (0, 14, 21, 13)] 6 := ⟨ww_933, ww_851, by decide, by decide +kernel, by decide +kernel⟩
section
variable {Γ : xG} {p : Program} {l : Launch} {e : Env} {s : State} {m : MethodId} {args : Array Value} {below : List Frame} {meth : Method} {c : Code} {rF : Int32 ⊕ String} {wF : xW}
end
set_option maxRecDepth 100000 in
set_option maxHeartbeats 4000000 in
theorem ct_L_sumOfTones {Γ : xG} {l : Launch} (hl : l.stackTraces = false) (x0 : Option Nat) (x1 : Int32) (x2 : Int32) (x3 : Int32) (x4 : Int32) (x5 : Option Nat) (w0 : xW) (rF : Int32 ⊕ String) (wF : xW) (hyp : f_L_sumOfTones x0 x1 x2 x3 x4 x5 w0 = some (rF, wF)) : xMetL Γ l yL_sumOfTones (xwsH yL_sumOfTones cL_sumOfTones 7 (some .int) [(0, 14, 17, 21), (0, 14, 21, 13)]) 8 xI [va_rf x0, .int x1, .int x2, .int x3, .int x4, va_rf x5] w0 rF wF 1 6 := by
  refine xOfWH tgh_L_sumOfTones hl (lv0 := [(0, va_rf x0), (1, .int x1), (2, .int x2), (3, .int x3), (4, .int x4), (5, va_rf x5)]) (by cases x0 <;> cases x5 <;> exact Nat.le_of_ble_eq_true rfl) (by cases x0 <;> cases x5 <;> rfl) ?_
  intro p e s m below meth c G hT hN
  rw [f_L_sumOfTones] at hyp
  refine r_aloadq G 5 dL_sumOfTones_0 rfl ?_
  refine r_iconst (v := 0) G dL_sumOfTones_2 (by decide) ?_
  refine r_aload_nq G 0 dL_sumOfTones_3 rfl rfl ?_
  refine r_iload_n G 1 dL_sumOfTones_4 rfl rfl ?_
  refine r_iload_n G 2 dL_sumOfTones_5 rfl rfl ?_
  refine r_iload_n G 3 dL_sumOfTones_6 rfl rfl ?_
  refine r_iload G 4 dL_sumOfTones_7 rfl ?_
  refine r_ref hyp (fun a1 ha1 hz => ?_)
  clear hyp; subst ha1; have hyp := hz; clear hz
  obtain ⟨o4, hyp⟩ := x_chk hyp
  refine r_callVT (ι := xI) (T := TX6) (N := 9) (ci := 6) (b := a1) (rest := [.int 0, va_rf x5]) (As := [.int x1, .int x2, .int x3, .int x4]) (s0 := 0) (e0 := 14) [("java/lang/IndexOutOfBoundsException", 17, 21), ("java/lang/IllegalArgumentException", 21, 13)] G hN hT (by decide) (by decide) (by decide) (by intro h hh; simp only [List.mem_cons, List.not_mem_nil, or_false] at hh; exact (fun q => q.elim (fun e => by subst e; exact ⟨by decide, ww_854, ww_855⟩) (fun e => by subst e; exact ⟨by decide, ww_845, ww_846⟩)) hh) tg_X6_sumOfTones (fun r w' h => ct_X6_sumOfTones (xhl G) _ _ _ _ _ _ r w' h) o4 hyp rfl ww_930 ww_932 ww_931 (by decide) (by decide) rfl rfl (xroom (Nat.le_of_ble_eq_true rfl)) dL_sumOfTones_9 (push := (fun r3 => [.int r3, .int 0, va_rf x5])) (fun _ => rfl) (fun r3 w2 hyp => ?_) (fun E w2 hK => ?_)
  · refine r_i2l G dL_sumOfTones_12 ?_
    refine r_ref hyp (fun a5 ha5 hz => ?_)
    clear hyp; subst ha5; have hyp := hz; clear hz
    obtain ⟨w6, hw6, hyp⟩ := x_some hyp
    refine r_last G hw6 dL_sumOfTones_13 ?_
    refine r_goto G 25 dL_sumOfTones_14 (by decide) ?_
    refine r_iconst (v := 0) G dL_sumOfTones_25 (by decide) ?_
    exact r_iret G hyp rfl (Nat.le_of_ble_eq_true rfl) (Nat.le_of_ble_eq_true rfl) dL_sumOfTones_26
  · rcases x_if hK with ⟨he, hyp⟩ | ⟨_, hK⟩
    · subst he
      refine ⟨("java/lang/IndexOutOfBoundsException", 17, 21), by first | exact List.mem_cons_self | simp, rfl, fun q => ?_⟩
      show xAW Γ p l e _ s m _ below meth c _ _ _ 1 6 17 _ _
      refine r_astore (lv' := [(6, .ref q), (0, .ref a1), (1, .int x1), (2, .int x2), (3, .int x3), (4, .int x4), (5, va_rf x5)]) G dL_sumOfTones_17 (by decide) ⟨fun _ => rfl, fun _ => rfl, fun _ => rfl, fun _ => rfl, fun _ => rfl, fun _ => xcq _, trivial⟩ rfl ?_
      refine r_iconst (v := 1) G dL_sumOfTones_19 (by decide) ?_
      exact r_iret G hyp rfl (Nat.le_of_ble_eq_true rfl) (Nat.le_of_ble_eq_true rfl) dL_sumOfTones_20
    rcases x_if hK with ⟨he, hyp⟩ | ⟨_, hK⟩
    · subst he
      refine ⟨("java/lang/IllegalArgumentException", 21, 13), by first | exact List.mem_cons_self | simp, rfl, fun q => ?_⟩
      show xAW Γ p l e _ s m _ below meth c _ _ _ 1 6 21 _ _
      refine r_astore (lv' := [(6, .ref q), (0, .ref a1), (1, .int x1), (2, .int x2), (3, .int x3), (4, .int x4), (5, va_rf x5)]) G dL_sumOfTones_21 (by decide) ⟨fun _ => rfl, fun _ => rfl, fun _ => rfl, fun _ => rfl, fun _ => rfl, fun _ => xcq _, trivial⟩ rfl ?_
      refine r_iconst (v := 2) G dL_sumOfTones_23 (by decide) ?_
      exact r_iret G hyp rfl (Nat.le_of_ble_eq_true rfl) (Nat.le_of_ble_eq_true rfl) dL_sumOfTones_24
    cases hK
theorem tgh_L_sumOfTonesByTable : xTgtH yL_sumOfTonesByTable cL_sumOfTonesByTable 7 (some .int) [(0, 14, 17, 21), (0, 14, 21, 13)] 6 := ⟨ww_937, ww_851, by decide, by decide +kernel, by decide +kernel⟩
section
variable {Γ : xG} {p : Program} {l : Launch} {e : Env} {s : State} {m : MethodId} {args : Array Value} {below : List Frame} {meth : Method} {c : Code} {rF : Int32 ⊕ String} {wF : xW}
end
set_option maxRecDepth 100000 in
set_option maxHeartbeats 4000000 in
theorem ct_L_sumOfTonesByTable {Γ : xG} {l : Launch} (hl : l.stackTraces = false) (x0 : Option Nat) (x1 : Int32) (x2 : Int32) (x3 : Int32) (x4 : Int32) (x5 : Option Nat) (w0 : xW) (rF : Int32 ⊕ String) (wF : xW) (hyp : f_L_sumOfTonesByTable x0 x1 x2 x3 x4 x5 w0 = some (rF, wF)) : xMetL Γ l yL_sumOfTonesByTable (xwsH yL_sumOfTonesByTable cL_sumOfTonesByTable 7 (some .int) [(0, 14, 17, 21), (0, 14, 21, 13)]) 8 xI [va_rf x0, .int x1, .int x2, .int x3, .int x4, va_rf x5] w0 rF wF 1 6 := by
  refine xOfWH tgh_L_sumOfTonesByTable hl (lv0 := [(0, va_rf x0), (1, .int x1), (2, .int x2), (3, .int x3), (4, .int x4), (5, va_rf x5)]) (by cases x0 <;> cases x5 <;> exact Nat.le_of_ble_eq_true rfl) (by cases x0 <;> cases x5 <;> rfl) ?_
  intro p e s m below meth c G hT hN
  rw [f_L_sumOfTonesByTable] at hyp
  refine r_aloadq G 5 dL_sumOfTonesByTable_0 rfl ?_
  refine r_iconst (v := 0) G dL_sumOfTonesByTable_2 (by decide) ?_
  refine r_aload_nq G 0 dL_sumOfTonesByTable_3 rfl rfl ?_
  refine r_iload_n G 1 dL_sumOfTonesByTable_4 rfl rfl ?_
  refine r_iload_n G 2 dL_sumOfTonesByTable_5 rfl rfl ?_
  refine r_iload_n G 3 dL_sumOfTonesByTable_6 rfl rfl ?_
  refine r_iload G 4 dL_sumOfTonesByTable_7 rfl ?_
  refine r_ref hyp (fun a1 ha1 hz => ?_)
  clear hyp; subst ha1; have hyp := hz; clear hz
  obtain ⟨o4, hyp⟩ := x_chk hyp
  refine r_callVT (ι := xI) (T := TX6) (N := 9) (ci := 6) (b := a1) (rest := [.int 0, va_rf x5]) (As := [.int x1, .int x2, .int x3, .int x4]) (s0 := 0) (e0 := 14) [("java/lang/IndexOutOfBoundsException", 17, 21), ("java/lang/IllegalArgumentException", 21, 13)] G hN hT (by decide) (by decide) (by decide) (by intro h hh; simp only [List.mem_cons, List.not_mem_nil, or_false] at hh; exact (fun q => q.elim (fun e => by subst e; exact ⟨by decide, ww_854, ww_855⟩) (fun e => by subst e; exact ⟨by decide, ww_845, ww_846⟩)) hh) tg_X6_sumOfTonesByTable (fun r w' h => ct_X6_sumOfTonesByTable (xhl G) _ _ _ _ _ _ r w' h) o4 hyp rfl ww_934 ww_936 ww_935 (by decide) (by decide) rfl rfl (xroom (Nat.le_of_ble_eq_true rfl)) dL_sumOfTonesByTable_9 (push := (fun r3 => [.int r3, .int 0, va_rf x5])) (fun _ => rfl) (fun r3 w2 hyp => ?_) (fun E w2 hK => ?_)
  · refine r_i2l G dL_sumOfTonesByTable_12 ?_
    refine r_ref hyp (fun a5 ha5 hz => ?_)
    clear hyp; subst ha5; have hyp := hz; clear hz
    obtain ⟨w6, hw6, hyp⟩ := x_some hyp
    refine r_last G hw6 dL_sumOfTonesByTable_13 ?_
    refine r_goto G 25 dL_sumOfTonesByTable_14 (by decide) ?_
    refine r_iconst (v := 0) G dL_sumOfTonesByTable_25 (by decide) ?_
    exact r_iret G hyp rfl (Nat.le_of_ble_eq_true rfl) (Nat.le_of_ble_eq_true rfl) dL_sumOfTonesByTable_26
  · rcases x_if hK with ⟨he, hyp⟩ | ⟨_, hK⟩
    · subst he
      refine ⟨("java/lang/IndexOutOfBoundsException", 17, 21), by first | exact List.mem_cons_self | simp, rfl, fun q => ?_⟩
      show xAW Γ p l e _ s m _ below meth c _ _ _ 1 6 17 _ _
      refine r_astore (lv' := [(6, .ref q), (0, .ref a1), (1, .int x1), (2, .int x2), (3, .int x3), (4, .int x4), (5, va_rf x5)]) G dL_sumOfTonesByTable_17 (by decide) ⟨fun _ => rfl, fun _ => rfl, fun _ => rfl, fun _ => rfl, fun _ => rfl, fun _ => xcq _, trivial⟩ rfl ?_
      refine r_iconst (v := 1) G dL_sumOfTonesByTable_19 (by decide) ?_
      exact r_iret G hyp rfl (Nat.le_of_ble_eq_true rfl) (Nat.le_of_ble_eq_true rfl) dL_sumOfTonesByTable_20
    rcases x_if hK with ⟨he, hyp⟩ | ⟨_, hK⟩
    · subst he
      refine ⟨("java/lang/IllegalArgumentException", 21, 13), by first | exact List.mem_cons_self | simp, rfl, fun q => ?_⟩
      show xAW Γ p l e _ s m _ below meth c _ _ _ 1 6 21 _ _
      refine r_astore (lv' := [(6, .ref q), (0, .ref a1), (1, .int x1), (2, .int x2), (3, .int x3), (4, .int x4), (5, va_rf x5)]) G dL_sumOfTonesByTable_21 (by decide) ⟨fun _ => rfl, fun _ => rfl, fun _ => rfl, fun _ => rfl, fun _ => rfl, fun _ => xcq _, trivial⟩ rfl ?_
      refine r_iconst (v := 2) G dL_sumOfTonesByTable_23 (by decide) ?_
      exact r_iret G hyp rfl (Nat.le_of_ble_eq_true rfl) (Nat.le_of_ble_eq_true rfl) dL_sumOfTonesByTable_24
    cases hK
theorem tgh_L_areaSize : xTgtH yL_areaSize cL_areaSize 5 (some .int) [(0, 10, 13, 21)] 4 := ⟨ww_941, ww_851, by decide, by decide +kernel, by decide +kernel⟩
section
variable {Γ : xG} {p : Program} {l : Launch} {e : Env} {s : State} {m : MethodId} {args : Array Value} {below : List Frame} {meth : Method} {c : Code} {rF : Int32 ⊕ String} {wF : xW}
end
set_option maxRecDepth 100000 in
set_option maxHeartbeats 4000000 in
theorem ct_L_areaSize {Γ : xG} {l : Launch} (hl : l.stackTraces = false) (x0 : Option Nat) (x1 : Int32) (x2 : Int32) (x3 : Option Nat) (w0 : xW) (rF : Int32 ⊕ String) (wF : xW) (hyp : f_L_areaSize x0 x1 x2 x3 w0 = some (rF, wF)) : xMetL Γ l yL_areaSize (xwsH yL_areaSize cL_areaSize 5 (some .int) [(0, 10, 13, 21)]) 8 xI [va_rf x0, .int x1, .int x2, va_rf x3] w0 rF wF 1 6 := by
  refine xOfWH tgh_L_areaSize hl (lv0 := [(0, va_rf x0), (1, .int x1), (2, .int x2), (3, va_rf x3)]) (by cases x0 <;> cases x3 <;> exact Nat.le_of_ble_eq_true rfl) (by cases x0 <;> cases x3 <;> rfl) ?_
  intro p e s m below meth c G hT hN
  rw [f_L_areaSize] at hyp
  refine r_aload_nq G 3 dL_areaSize_0 rfl rfl ?_
  refine r_iconst (v := 0) G dL_areaSize_1 (by decide) ?_
  refine r_aload_nq G 0 dL_areaSize_2 rfl rfl ?_
  refine r_iload_n G 1 dL_areaSize_3 rfl rfl ?_
  refine r_iload_n G 2 dL_areaSize_4 rfl rfl ?_
  refine r_ref hyp (fun a1 ha1 hz => ?_)
  clear hyp; subst ha1; have hyp := hz; clear hz
  obtain ⟨o4, hyp⟩ := x_chk hyp
  refine r_callVT (ι := xI) (T := TX6) (N := 9) (ci := 6) (b := a1) (rest := [.int 0, va_rf x3]) (As := [.int x1, .int x2]) (s0 := 0) (e0 := 10) [("java/lang/IndexOutOfBoundsException", 13, 21)] G hN hT (by decide) (by decide) (by decide) (by intro h hh; simp only [List.mem_cons, List.not_mem_nil, or_false] at hh; subst hh; exact ⟨by decide, ww_854, ww_855⟩) tg_X6_areaSize (fun r w' h => ct_X6_areaSize (xhl G) _ _ _ _ r w' h) o4 hyp rfl ww_938 ww_940 ww_939 (by decide) (by decide) rfl rfl (xroom (Nat.le_of_ble_eq_true rfl)) dL_areaSize_5 (push := (fun r3 => [.int r3, .int 0, va_rf x3])) (fun _ => rfl) (fun r3 w2 hyp => ?_) (fun E w2 hK => ?_)
  · refine r_i2l G dL_areaSize_8 ?_
    refine r_ref hyp (fun a5 ha5 hz => ?_)
    clear hyp; subst ha5; have hyp := hz; clear hz
    obtain ⟨w6, hw6, hyp⟩ := x_some hyp
    refine r_last G hw6 dL_areaSize_9 ?_
    refine r_goto G 17 dL_areaSize_10 (by decide) ?_
    refine r_iconst (v := 0) G dL_areaSize_17 (by decide) ?_
    exact r_iret G hyp rfl (Nat.le_of_ble_eq_true rfl) (Nat.le_of_ble_eq_true rfl) dL_areaSize_18
  · rcases x_if hK with ⟨he, hyp⟩ | ⟨_, hK⟩
    · subst he
      refine ⟨("java/lang/IndexOutOfBoundsException", 13, 21), by first | exact List.mem_cons_self | simp, rfl, fun q => ?_⟩
      show xAW Γ p l e _ s m _ below meth c _ _ _ 1 6 13 _ _
      refine r_astore (lv' := [(4, .ref q), (0, .ref a1), (1, .int x1), (2, .int x2), (3, va_rf x3)]) G dL_areaSize_13 (by decide) ⟨fun _ => rfl, fun _ => rfl, fun _ => rfl, fun _ => xcq _, trivial⟩ rfl ?_
      refine r_iconst (v := 1) G dL_areaSize_15 (by decide) ?_
      exact r_iret G hyp rfl (Nat.le_of_ble_eq_true rfl) (Nat.le_of_ble_eq_true rfl) dL_areaSize_16
    cases hK
theorem tgh_L_differentCells : xTgtH yL_differentCells cL_differentCells 5 (some .int) [(0, 10, 13, 21)] 4 := ⟨ww_945, ww_851, by decide, by decide +kernel, by decide +kernel⟩
section
variable {Γ : xG} {p : Program} {l : Launch} {e : Env} {s : State} {m : MethodId} {args : Array Value} {below : List Frame} {meth : Method} {c : Code} {rF : Int32 ⊕ String} {wF : xW}
end
set_option maxRecDepth 100000 in
set_option maxHeartbeats 4000000 in
theorem ct_L_differentCells {Γ : xG} {l : Launch} (hl : l.stackTraces = false) (x0 : Option Nat) (x1 : Int32) (x2 : Int32) (x3 : Option Nat) (w0 : xW) (rF : Int32 ⊕ String) (wF : xW) (hyp : f_L_differentCells x0 x1 x2 x3 w0 = some (rF, wF)) : xMetL Γ l yL_differentCells (xwsH yL_differentCells cL_differentCells 5 (some .int) [(0, 10, 13, 21)]) 8 xI [va_rf x0, .int x1, .int x2, va_rf x3] w0 rF wF 1 6 := by
  refine xOfWH tgh_L_differentCells hl (lv0 := [(0, va_rf x0), (1, .int x1), (2, .int x2), (3, va_rf x3)]) (by cases x0 <;> cases x3 <;> exact Nat.le_of_ble_eq_true rfl) (by cases x0 <;> cases x3 <;> rfl) ?_
  intro p e s m below meth c G hT hN
  rw [f_L_differentCells] at hyp
  refine r_aload_nq G 3 dL_differentCells_0 rfl rfl ?_
  refine r_iconst (v := 0) G dL_differentCells_1 (by decide) ?_
  refine r_aload_nq G 0 dL_differentCells_2 rfl rfl ?_
  refine r_iload_n G 1 dL_differentCells_3 rfl rfl ?_
  refine r_iload_n G 2 dL_differentCells_4 rfl rfl ?_
  refine r_ref hyp (fun a1 ha1 hz => ?_)
  clear hyp; subst ha1; have hyp := hz; clear hz
  obtain ⟨o4, hyp⟩ := x_chk hyp
  refine r_callVT (ι := xI) (T := TX6) (N := 9) (ci := 6) (b := a1) (rest := [.int 0, va_rf x3]) (As := [.int x1, .int x2]) (s0 := 0) (e0 := 10) [("java/lang/IndexOutOfBoundsException", 13, 21)] G hN hT (by decide) (by decide) (by decide) (by intro h hh; simp only [List.mem_cons, List.not_mem_nil, or_false] at hh; subst hh; exact ⟨by decide, ww_854, ww_855⟩) tg_X6_differentCells (fun r w' h => ct_X6_differentCells (xhl G) _ _ _ _ r w' h) o4 hyp rfl ww_942 ww_944 ww_943 (by decide) (by decide) rfl rfl (xroom (Nat.le_of_ble_eq_true rfl)) dL_differentCells_5 (push := (fun r3 => [.int r3, .int 0, va_rf x3])) (fun _ => rfl) (fun r3 w2 hyp => ?_) (fun E w2 hK => ?_)
  · refine r_i2l G dL_differentCells_8 ?_
    refine r_ref hyp (fun a5 ha5 hz => ?_)
    clear hyp; subst ha5; have hyp := hz; clear hz
    obtain ⟨w6, hw6, hyp⟩ := x_some hyp
    refine r_last G hw6 dL_differentCells_9 ?_
    refine r_goto G 17 dL_differentCells_10 (by decide) ?_
    refine r_iconst (v := 0) G dL_differentCells_17 (by decide) ?_
    exact r_iret G hyp rfl (Nat.le_of_ble_eq_true rfl) (Nat.le_of_ble_eq_true rfl) dL_differentCells_18
  · rcases x_if hK with ⟨he, hyp⟩ | ⟨_, hK⟩
    · subst he
      refine ⟨("java/lang/IndexOutOfBoundsException", 13, 21), by first | exact List.mem_cons_self | simp, rfl, fun q => ?_⟩
      show xAW Γ p l e _ s m _ below meth c _ _ _ 1 6 13 _ _
      refine r_astore (lv' := [(4, .ref q), (0, .ref a1), (1, .int x1), (2, .int x2), (3, va_rf x3)]) G dL_differentCells_13 (by decide) ⟨fun _ => rfl, fun _ => rfl, fun _ => rfl, fun _ => xcq _, trivial⟩ rfl ?_
      refine r_iconst (v := 1) G dL_differentCells_15 (by decide) ?_
      exact r_iret G hyp rfl (Nat.le_of_ble_eq_true rfl) (Nat.le_of_ble_eq_true rfl) dL_differentCells_16
    cases hK
theorem tgh_L_layerByPaint : xTgtH yL_layerByPaint cL_layerByPaint 4 (some .int) [(0, 9, 12, 44)] 3 := ⟨ww_949, ww_851, by decide, by decide +kernel, by decide +kernel⟩
section
variable {Γ : xG} {p : Program} {l : Launch} {e : Env} {s : State} {m : MethodId} {args : Array Value} {below : List Frame} {meth : Method} {c : Code} {rF : Int32 ⊕ String} {wF : xW}
end
set_option maxRecDepth 100000 in
set_option maxHeartbeats 4000000 in
theorem ct_L_layerByPaint {Γ : xG} {l : Launch} (hl : l.stackTraces = false) (x0 : Option Nat) (x1 : Int32) (x2 : Option Nat) (w0 : xW) (rF : Int32 ⊕ String) (wF : xW) (hyp : f_L_layerByPaint x0 x1 x2 w0 = some (rF, wF)) : xMetL Γ l yL_layerByPaint (xwsH yL_layerByPaint cL_layerByPaint 4 (some .int) [(0, 9, 12, 44)]) 7 xI [va_rf x0, .int x1, va_rf x2] w0 rF wF 1 6 := by
  refine xOfWH tgh_L_layerByPaint hl (lv0 := [(0, va_rf x0), (1, .int x1), (2, va_rf x2)]) (by cases x0 <;> cases x2 <;> exact Nat.le_of_ble_eq_true rfl) (by cases x0 <;> cases x2 <;> rfl) ?_
  intro p e s m below meth c G hT hN
  rw [f_L_layerByPaint] at hyp
  refine r_aload_nq G 2 dL_layerByPaint_0 rfl rfl ?_
  refine r_iconst (v := 0) G dL_layerByPaint_1 (by decide) ?_
  refine r_aload_nq G 0 dL_layerByPaint_2 rfl rfl ?_
  refine r_iload_n G 1 dL_layerByPaint_3 rfl rfl ?_
  refine r_ref hyp (fun a1 ha1 hz => ?_)
  clear hyp; subst ha1; have hyp := hz; clear hz
  obtain ⟨o4, hyp⟩ := x_chk hyp
  refine r_callVT (ι := xI) (T := TX6) (N := 9) (ci := 6) (b := a1) (rest := [.int 0, va_rf x2]) (As := [.int x1]) (s0 := 0) (e0 := 9) [("java/util/NoSuchElementException", 12, 44)] G hN hT (by decide) (by decide) (by decide) (by intro h hh; simp only [List.mem_cons, List.not_mem_nil, or_false] at hh; subst hh; exact ⟨by decide, ww_880, ww_881⟩) tg_X6_layerByPaint (fun r w' h => ct_X6_layerByPaint (xhl G) _ _ _ r w' h) o4 hyp rfl ww_946 ww_948 ww_947 (by decide) (by decide) rfl rfl (xroom (Nat.le_of_ble_eq_true rfl)) dL_layerByPaint_4 (push := (fun r3 => [.int r3, .int 0, va_rf x2])) (fun _ => rfl) (fun r3 w2 hyp => ?_) (fun E w2 hK => ?_)
  · refine r_i2l G dL_layerByPaint_7 ?_
    refine r_ref hyp (fun a5 ha5 hz => ?_)
    clear hyp; subst ha5; have hyp := hz; clear hz
    obtain ⟨w6, hw6, hyp⟩ := x_some hyp
    refine r_last G hw6 dL_layerByPaint_8 ?_
    refine r_goto G 15 dL_layerByPaint_9 (by decide) ?_
    refine r_iconst (v := 0) G dL_layerByPaint_15 (by decide) ?_
    exact r_iret G hyp rfl (Nat.le_of_ble_eq_true rfl) (Nat.le_of_ble_eq_true rfl) dL_layerByPaint_16
  · rcases x_if hK with ⟨he, hyp⟩ | ⟨_, hK⟩
    · subst he
      refine ⟨("java/util/NoSuchElementException", 12, 44), by first | exact List.mem_cons_self | simp, rfl, fun q => ?_⟩
      show xAW Γ p l e _ s m _ below meth c _ _ _ 1 6 12 _ _
      refine r_astore_n (lv' := [(3, .ref q), (0, .ref a1), (1, .int x1), (2, va_rf x2)]) G dL_layerByPaint_12 rfl (by decide) ⟨fun _ => rfl, fun _ => rfl, fun _ => xcq _, trivial⟩ rfl ?_
      refine r_iconst (v := 1) G dL_layerByPaint_13 (by decide) ?_
      exact r_iret G hyp rfl (Nat.le_of_ble_eq_true rfl) (Nat.le_of_ble_eq_true rfl) dL_layerByPaint_14
    cases hK
theorem tgh_L_feed : xTgtH yL_feed cL_feed 4 (some .int) [(0, 9, 12, 15)] 3 := ⟨ww_953, ww_851, by decide, by decide +kernel, by decide +kernel⟩
section
variable {Γ : xG} {p : Program} {l : Launch} {e : Env} {s : State} {m : MethodId} {args : Array Value} {below : List Frame} {meth : Method} {c : Code} {rF : Int32 ⊕ String} {wF : xW}
end
set_option maxRecDepth 100000 in
set_option maxHeartbeats 4000000 in
theorem ct_L_feed {Γ : xG} {l : Launch} (hl : l.stackTraces = false) (x0 : Option Nat) (x1 : Int32) (x2 : Option Nat) (w0 : xW) (rF : Int32 ⊕ String) (wF : xW) (hyp : f_L_feed x0 x1 x2 w0 = some (rF, wF)) : xMetL Γ l yL_feed (xwsH yL_feed cL_feed 4 (some .int) [(0, 9, 12, 15)]) 7 xI [va_rf x0, .int x1, va_rf x2] w0 rF wF 1 6 := by
  refine xOfWH tgh_L_feed hl (lv0 := [(0, va_rf x0), (1, .int x1), (2, va_rf x2)]) (by cases x0 <;> cases x2 <;> exact Nat.le_of_ble_eq_true rfl) (by cases x0 <;> cases x2 <;> rfl) ?_
  intro p e s m below meth c G hT hN
  rw [f_L_feed] at hyp
  refine r_aload_nq G 2 dL_feed_0 rfl rfl ?_
  refine r_iconst (v := 0) G dL_feed_1 (by decide) ?_
  refine r_aload_nq G 0 dL_feed_2 rfl rfl ?_
  refine r_iload_n G 1 dL_feed_3 rfl rfl ?_
  refine r_ref hyp (fun a1 ha1 hz => ?_)
  clear hyp; subst ha1; have hyp := hz; clear hz
  obtain ⟨o4, hyp⟩ := x_chk hyp
  refine r_callVT (ι := xI) (T := TX6) (N := 9) (ci := 6) (b := a1) (rest := [.int 0, va_rf x2]) (As := [.int x1]) (s0 := 0) (e0 := 9) [("java/lang/IllegalStateException", 12, 15)] G hN hT (by decide) (by decide) (by decide) (by intro h hh; simp only [List.mem_cons, List.not_mem_nil, or_false] at hh; subst hh; exact ⟨by decide, ww_847, ww_848⟩) tg_X6_feed (fun r w' h => ct_X6_feed (xhl G) _ _ _ r w' h) o4 hyp rfl ww_950 ww_952 ww_951 (by decide) (by decide) rfl rfl (xroom (Nat.le_of_ble_eq_true rfl)) dL_feed_4 (push := (fun r3 => [.int r3, .int 0, va_rf x2])) (fun _ => rfl) (fun r3 w2 hyp => ?_) (fun E w2 hK => ?_)
  · refine r_i2l G dL_feed_7 ?_
    refine r_ref hyp (fun a5 ha5 hz => ?_)
    clear hyp; subst ha5; have hyp := hz; clear hz
    obtain ⟨w6, hw6, hyp⟩ := x_some hyp
    refine r_last G hw6 dL_feed_8 ?_
    refine r_goto G 15 dL_feed_9 (by decide) ?_
    refine r_iconst (v := 0) G dL_feed_15 (by decide) ?_
    exact r_iret G hyp rfl (Nat.le_of_ble_eq_true rfl) (Nat.le_of_ble_eq_true rfl) dL_feed_16
  · rcases x_if hK with ⟨he, hyp⟩ | ⟨_, hK⟩
    · subst he
      refine ⟨("java/lang/IllegalStateException", 12, 15), by first | exact List.mem_cons_self | simp, rfl, fun q => ?_⟩
      show xAW Γ p l e _ s m _ below meth c _ _ _ 1 6 12 _ _
      refine r_astore_n (lv' := [(3, .ref q), (0, .ref a1), (1, .int x1), (2, va_rf x2)]) G dL_feed_12 rfl (by decide) ⟨fun _ => rfl, fun _ => rfl, fun _ => xcq _, trivial⟩ rfl ?_
      refine r_iconst (v := 1) G dL_feed_13 (by decide) ?_
      exact r_iret G hyp rfl (Nat.le_of_ble_eq_true rfl) (Nat.le_of_ble_eq_true rfl) dL_feed_14
    cases hK
theorem tgh_L_runCommands : xTgtH yL_runCommands cL_runCommands 3 (some .int) [(0, 8, 11, 13), (0, 8, 14, 46)] 2 := ⟨ww_957, ww_851, by decide, by decide +kernel, by decide +kernel⟩
section
variable {Γ : xG} {p : Program} {l : Launch} {e : Env} {s : State} {m : MethodId} {args : Array Value} {below : List Frame} {meth : Method} {c : Code} {rF : Int32 ⊕ String} {wF : xW}
end
set_option maxRecDepth 100000 in
set_option maxHeartbeats 4000000 in
theorem ct_L_runCommands {Γ : xG} {l : Launch} (hl : l.stackTraces = false) (x0 : Option Nat) (x1 : Option Nat) (w0 : xW) (rF : Int32 ⊕ String) (wF : xW) (hyp : f_L_runCommands x0 x1 w0 = some (rF, wF)) : xMetL Γ l yL_runCommands (xwsH yL_runCommands cL_runCommands 3 (some .int) [(0, 8, 11, 13), (0, 8, 14, 46)]) 8 xI [va_rf x0, va_rf x1] w0 rF wF 1 6 := by
  refine xOfWH tgh_L_runCommands hl (lv0 := [(0, va_rf x0), (1, va_rf x1)]) (by cases x0 <;> cases x1 <;> exact Nat.le_of_ble_eq_true rfl) (by cases x0 <;> cases x1 <;> rfl) ?_
  intro p e s m below meth c G hT hN
  rw [f_L_runCommands] at hyp
  refine r_aload_nq G 1 dL_runCommands_0 rfl rfl ?_
  refine r_iconst (v := 0) G dL_runCommands_1 (by decide) ?_
  refine r_aload_nq G 0 dL_runCommands_2 rfl rfl ?_
  refine r_ref hyp (fun a1 ha1 hz => ?_)
  clear hyp; subst ha1; have hyp := hz; clear hz
  obtain ⟨o4, hyp⟩ := x_chk hyp
  refine r_callVT (ι := xI) (T := TX6) (N := 9) (ci := 6) (b := a1) (rest := [.int 0, va_rf x1]) (As := []) (s0 := 0) (e0 := 8) [("java/lang/IllegalArgumentException", 11, 13), ("java/lang/UnsupportedOperationException", 14, 46)] G hN hT (by decide) (by decide) (by decide) (by intro h hh; simp only [List.mem_cons, List.not_mem_nil, or_false] at hh; exact (fun q => q.elim (fun e => by subst e; exact ⟨by decide, ww_845, ww_846⟩) (fun e => by subst e; exact ⟨by decide, ww_882, ww_883⟩)) hh) tg_X6_runCommands (fun r w' h => ct_X6_runCommands (xhl G) _ _ r w' h) o4 hyp rfl ww_954 ww_956 ww_955 (by decide) (by decide) rfl rfl (xroom (Nat.le_of_ble_eq_true rfl)) dL_runCommands_3 (push := (fun r3 => [.int r3, .int 0, va_rf x1])) (fun _ => rfl) (fun r3 w2 hyp => ?_) (fun E w2 hK => ?_)
  · refine r_i2l G dL_runCommands_6 ?_
    refine r_ref hyp (fun a5 ha5 hz => ?_)
    clear hyp; subst ha5; have hyp := hz; clear hz
    obtain ⟨w6, hw6, hyp⟩ := x_some hyp
    refine r_last G hw6 dL_runCommands_7 ?_
    refine r_goto G 17 dL_runCommands_8 (by decide) ?_
    refine r_iconst (v := 0) G dL_runCommands_17 (by decide) ?_
    exact r_iret G hyp rfl (Nat.le_of_ble_eq_true rfl) (Nat.le_of_ble_eq_true rfl) dL_runCommands_18
  · rcases x_if hK with ⟨he, hyp⟩ | ⟨_, hK⟩
    · subst he
      refine ⟨("java/lang/IllegalArgumentException", 11, 13), by first | exact List.mem_cons_self | simp, rfl, fun q => ?_⟩
      show xAW Γ p l e _ s m _ below meth c _ _ _ 1 6 11 _ _
      refine r_astore_n (lv' := [(2, .ref q), (0, .ref a1), (1, va_rf x1)]) G dL_runCommands_11 rfl (by decide) ⟨fun _ => rfl, fun _ => xcq _, trivial⟩ rfl ?_
      refine r_iconst (v := 1) G dL_runCommands_12 (by decide) ?_
      exact r_iret G hyp rfl (Nat.le_of_ble_eq_true rfl) (Nat.le_of_ble_eq_true rfl) dL_runCommands_13
    rcases x_if hK with ⟨he, hyp⟩ | ⟨_, hK⟩
    · subst he
      refine ⟨("java/lang/UnsupportedOperationException", 14, 46), by first | exact List.mem_cons_self | simp, rfl, fun q => ?_⟩
      show xAW Γ p l e _ s m _ below meth c _ _ _ 1 6 14 _ _
      refine r_astore_n (lv' := [(2, .ref q), (0, .ref a1), (1, va_rf x1)]) G dL_runCommands_14 rfl (by decide) ⟨fun _ => rfl, fun _ => xcq _, trivial⟩ rfl ?_
      refine r_iconst (v := 2) G dL_runCommands_15 (by decide) ?_
      exact r_iret G hyp rfl (Nat.le_of_ble_eq_true rfl) (Nat.le_of_ble_eq_true rfl) dL_runCommands_16
    cases hK
theorem tgh_L_errorPosition : xTgtH yL_errorPosition cL_errorPosition 3 (some .int) [(0, 8, 11, 44)] 2 := ⟨ww_961, ww_851, by decide, by decide +kernel, by decide +kernel⟩
section
variable {Γ : xG} {p : Program} {l : Launch} {e : Env} {s : State} {m : MethodId} {args : Array Value} {below : List Frame} {meth : Method} {c : Code} {rF : Int32 ⊕ String} {wF : xW}
end
set_option maxRecDepth 100000 in
set_option maxHeartbeats 4000000 in
theorem ct_L_errorPosition {Γ : xG} {l : Launch} (hl : l.stackTraces = false) (x0 : Option Nat) (x1 : Option Nat) (w0 : xW) (rF : Int32 ⊕ String) (wF : xW) (hyp : f_L_errorPosition x0 x1 w0 = some (rF, wF)) : xMetL Γ l yL_errorPosition (xwsH yL_errorPosition cL_errorPosition 3 (some .int) [(0, 8, 11, 44)]) 7 xI [va_rf x0, va_rf x1] w0 rF wF 1 6 := by
  refine xOfWH tgh_L_errorPosition hl (lv0 := [(0, va_rf x0), (1, va_rf x1)]) (by cases x0 <;> cases x1 <;> exact Nat.le_of_ble_eq_true rfl) (by cases x0 <;> cases x1 <;> rfl) ?_
  intro p e s m below meth c G hT hN
  rw [f_L_errorPosition] at hyp
  refine r_aload_nq G 1 dL_errorPosition_0 rfl rfl ?_
  refine r_iconst (v := 0) G dL_errorPosition_1 (by decide) ?_
  refine r_aload_nq G 0 dL_errorPosition_2 rfl rfl ?_
  refine r_ref hyp (fun a1 ha1 hz => ?_)
  clear hyp; subst ha1; have hyp := hz; clear hz
  obtain ⟨o4, hyp⟩ := x_chk hyp
  refine r_callVT (ι := xI) (T := TX6) (N := 9) (ci := 6) (b := a1) (rest := [.int 0, va_rf x1]) (As := []) (s0 := 0) (e0 := 8) [("java/util/NoSuchElementException", 11, 44)] G hN hT (by decide) (by decide) (by decide) (by intro h hh; simp only [List.mem_cons, List.not_mem_nil, or_false] at hh; subst hh; exact ⟨by decide, ww_880, ww_881⟩) tg_X6_errorPosition (fun r w' h => ct_X6_errorPosition (xhl G) _ _ r w' h) o4 hyp rfl ww_958 ww_960 ww_959 (by decide) (by decide) rfl rfl (xroom (Nat.le_of_ble_eq_true rfl)) dL_errorPosition_3 (push := (fun r3 => [.int r3, .int 0, va_rf x1])) (fun _ => rfl) (fun r3 w2 hyp => ?_) (fun E w2 hK => ?_)
  · refine r_i2l G dL_errorPosition_6 ?_
    refine r_ref hyp (fun a5 ha5 hz => ?_)
    clear hyp; subst ha5; have hyp := hz; clear hz
    obtain ⟨w6, hw6, hyp⟩ := x_some hyp
    refine r_last G hw6 dL_errorPosition_7 ?_
    refine r_goto G 14 dL_errorPosition_8 (by decide) ?_
    refine r_iconst (v := 0) G dL_errorPosition_14 (by decide) ?_
    exact r_iret G hyp rfl (Nat.le_of_ble_eq_true rfl) (Nat.le_of_ble_eq_true rfl) dL_errorPosition_15
  · rcases x_if hK with ⟨he, hyp⟩ | ⟨_, hK⟩
    · subst he
      refine ⟨("java/util/NoSuchElementException", 11, 44), by first | exact List.mem_cons_self | simp, rfl, fun q => ?_⟩
      show xAW Γ p l e _ s m _ below meth c _ _ _ 1 6 11 _ _
      refine r_astore_n (lv' := [(2, .ref q), (0, .ref a1), (1, va_rf x1)]) G dL_errorPosition_11 rfl (by decide) ⟨fun _ => rfl, fun _ => xcq _, trivial⟩ rfl ?_
      refine r_iconst (v := 1) G dL_errorPosition_12 (by decide) ?_
      exact r_iret G hyp rfl (Nat.le_of_ble_eq_true rfl) (Nat.le_of_ble_eq_true rfl) dL_errorPosition_13
    cases hK
theorem tgh_L_failedCommand : xTgtH yL_failedCommand cL_failedCommand 3 (some .int) [(0, 8, 11, 44)] 2 := ⟨ww_965, ww_851, by decide, by decide +kernel, by decide +kernel⟩
section
variable {Γ : xG} {p : Program} {l : Launch} {e : Env} {s : State} {m : MethodId} {args : Array Value} {below : List Frame} {meth : Method} {c : Code} {rF : Int32 ⊕ String} {wF : xW}
end
set_option maxRecDepth 100000 in
set_option maxHeartbeats 4000000 in
theorem ct_L_failedCommand {Γ : xG} {l : Launch} (hl : l.stackTraces = false) (x0 : Option Nat) (x1 : Option Nat) (w0 : xW) (rF : Int32 ⊕ String) (wF : xW) (hyp : f_L_failedCommand x0 x1 w0 = some (rF, wF)) : xMetL Γ l yL_failedCommand (xwsH yL_failedCommand cL_failedCommand 3 (some .int) [(0, 8, 11, 44)]) 7 xI [va_rf x0, va_rf x1] w0 rF wF 1 6 := by
  refine xOfWH tgh_L_failedCommand hl (lv0 := [(0, va_rf x0), (1, va_rf x1)]) (by cases x0 <;> cases x1 <;> exact Nat.le_of_ble_eq_true rfl) (by cases x0 <;> cases x1 <;> rfl) ?_
  intro p e s m below meth c G hT hN
  rw [f_L_failedCommand] at hyp
  refine r_aload_nq G 1 dL_failedCommand_0 rfl rfl ?_
  refine r_iconst (v := 0) G dL_failedCommand_1 (by decide) ?_
  refine r_aload_nq G 0 dL_failedCommand_2 rfl rfl ?_
  refine r_ref hyp (fun a1 ha1 hz => ?_)
  clear hyp; subst ha1; have hyp := hz; clear hz
  obtain ⟨o4, hyp⟩ := x_chk hyp
  refine r_callVT (ι := xI) (T := TX6) (N := 9) (ci := 6) (b := a1) (rest := [.int 0, va_rf x1]) (As := []) (s0 := 0) (e0 := 8) [("java/util/NoSuchElementException", 11, 44)] G hN hT (by decide) (by decide) (by decide) (by intro h hh; simp only [List.mem_cons, List.not_mem_nil, or_false] at hh; subst hh; exact ⟨by decide, ww_880, ww_881⟩) tg_X6_failedCommand (fun r w' h => ct_X6_failedCommand (xhl G) _ _ r w' h) o4 hyp rfl ww_962 ww_964 ww_963 (by decide) (by decide) rfl rfl (xroom (Nat.le_of_ble_eq_true rfl)) dL_failedCommand_3 (push := (fun r3 => [.int r3, .int 0, va_rf x1])) (fun _ => rfl) (fun r3 w2 hyp => ?_) (fun E w2 hK => ?_)
  · refine r_i2l G dL_failedCommand_6 ?_
    refine r_ref hyp (fun a5 ha5 hz => ?_)
    clear hyp; subst ha5; have hyp := hz; clear hz
    obtain ⟨w6, hw6, hyp⟩ := x_some hyp
    refine r_last G hw6 dL_failedCommand_7 ?_
    refine r_goto G 14 dL_failedCommand_8 (by decide) ?_
    refine r_iconst (v := 0) G dL_failedCommand_14 (by decide) ?_
    exact r_iret G hyp rfl (Nat.le_of_ble_eq_true rfl) (Nat.le_of_ble_eq_true rfl) dL_failedCommand_15
  · rcases x_if hK with ⟨he, hyp⟩ | ⟨_, hK⟩
    · subst he
      refine ⟨("java/util/NoSuchElementException", 11, 44), by first | exact List.mem_cons_self | simp, rfl, fun q => ?_⟩
      show xAW Γ p l e _ s m _ below meth c _ _ _ 1 6 11 _ _
      refine r_astore_n (lv' := [(2, .ref q), (0, .ref a1), (1, va_rf x1)]) G dL_failedCommand_11 rfl (by decide) ⟨fun _ => rfl, fun _ => xcq _, trivial⟩ rfl ?_
      refine r_iconst (v := 1) G dL_failedCommand_12 (by decide) ?_
      exact r_iret G hyp rfl (Nat.le_of_ble_eq_true rfl) (Nat.le_of_ble_eq_true rfl) dL_failedCommand_13
    cases hK
theorem tgh_L_writeRow : xTgtH yL_writeRow cL_writeRow 4 (some .int) [(0, 9, 12, 21)] 3 := ⟨ww_969, ww_851, by decide, by decide +kernel, by decide +kernel⟩
section
variable {Γ : xG} {p : Program} {l : Launch} {e : Env} {s : State} {m : MethodId} {args : Array Value} {below : List Frame} {meth : Method} {c : Code} {rF : Int32 ⊕ String} {wF : xW}
end
set_option maxRecDepth 100000 in
set_option maxHeartbeats 4000000 in
theorem ct_L_writeRow {Γ : xG} {l : Launch} (hl : l.stackTraces = false) (x0 : Option Nat) (x1 : Int32) (x2 : Option Nat) (w0 : xW) (rF : Int32 ⊕ String) (wF : xW) (hyp : f_L_writeRow x0 x1 x2 w0 = some (rF, wF)) : xMetL Γ l yL_writeRow (xwsH yL_writeRow cL_writeRow 4 (some .int) [(0, 9, 12, 21)]) 7 xI [va_rf x0, .int x1, va_rf x2] w0 rF wF 1 6 := by
  refine xOfWH tgh_L_writeRow hl (lv0 := [(0, va_rf x0), (1, .int x1), (2, va_rf x2)]) (by cases x0 <;> cases x2 <;> exact Nat.le_of_ble_eq_true rfl) (by cases x0 <;> cases x2 <;> rfl) ?_
  intro p e s m below meth c G hT hN
  rw [f_L_writeRow] at hyp
  refine r_aload_nq G 2 dL_writeRow_0 rfl rfl ?_
  refine r_iconst (v := 0) G dL_writeRow_1 (by decide) ?_
  refine r_aload_nq G 0 dL_writeRow_2 rfl rfl ?_
  refine r_iload_n G 1 dL_writeRow_3 rfl rfl ?_
  refine r_ref hyp (fun a1 ha1 hz => ?_)
  clear hyp; subst ha1; have hyp := hz; clear hz
  obtain ⟨o4, hyp⟩ := x_chk hyp
  refine r_callVT (ι := xI) (T := TX6) (N := 9) (ci := 6) (b := a1) (rest := [.int 0, va_rf x2]) (As := [.int x1]) (s0 := 0) (e0 := 9) [("java/lang/IndexOutOfBoundsException", 12, 21)] G hN hT (by decide) (by decide) (by decide) (by intro h hh; simp only [List.mem_cons, List.not_mem_nil, or_false] at hh; subst hh; exact ⟨by decide, ww_854, ww_855⟩) tg_X6_writeRow (fun r w' h => ct_X6_writeRow (xhl G) _ _ _ r w' h) o4 hyp rfl ww_966 ww_968 ww_967 (by decide) (by decide) rfl rfl (xroom (Nat.le_of_ble_eq_true rfl)) dL_writeRow_4 (push := (fun r3 => [.int r3, .int 0, va_rf x2])) (fun _ => rfl) (fun r3 w2 hyp => ?_) (fun E w2 hK => ?_)
  · refine r_i2l G dL_writeRow_7 ?_
    refine r_ref hyp (fun a5 ha5 hz => ?_)
    clear hyp; subst ha5; have hyp := hz; clear hz
    obtain ⟨w6, hw6, hyp⟩ := x_some hyp
    refine r_last G hw6 dL_writeRow_8 ?_
    refine r_goto G 15 dL_writeRow_9 (by decide) ?_
    refine r_iconst (v := 0) G dL_writeRow_15 (by decide) ?_
    exact r_iret G hyp rfl (Nat.le_of_ble_eq_true rfl) (Nat.le_of_ble_eq_true rfl) dL_writeRow_16
  · rcases x_if hK with ⟨he, hyp⟩ | ⟨_, hK⟩
    · subst he
      refine ⟨("java/lang/IndexOutOfBoundsException", 12, 21), by first | exact List.mem_cons_self | simp, rfl, fun q => ?_⟩
      show xAW Γ p l e _ s m _ below meth c _ _ _ 1 6 12 _ _
      refine r_astore_n (lv' := [(3, .ref q), (0, .ref a1), (1, .int x1), (2, va_rf x2)]) G dL_writeRow_12 rfl (by decide) ⟨fun _ => rfl, fun _ => rfl, fun _ => xcq _, trivial⟩ rfl ?_
      refine r_iconst (v := 1) G dL_writeRow_13 (by decide) ?_
      exact r_iret G hyp rfl (Nat.le_of_ble_eq_true rfl) (Nat.le_of_ble_eq_true rfl) dL_writeRow_14
    cases hK
theorem tgh_L_outputChar : xTgtH yL_outputChar cL_outputChar 4 (some .int) [(0, 9, 12, 21)] 3 := ⟨ww_973, ww_851, by decide, by decide +kernel, by decide +kernel⟩
section
variable {Γ : xG} {p : Program} {l : Launch} {e : Env} {s : State} {m : MethodId} {args : Array Value} {below : List Frame} {meth : Method} {c : Code} {rF : Int32 ⊕ String} {wF : xW}
end
set_option maxRecDepth 100000 in
set_option maxHeartbeats 4000000 in
theorem ct_L_outputChar {Γ : xG} {l : Launch} (hl : l.stackTraces = false) (x0 : Option Nat) (x1 : Int32) (x2 : Option Nat) (w0 : xW) (rF : Int32 ⊕ String) (wF : xW) (hyp : f_L_outputChar x0 x1 x2 w0 = some (rF, wF)) : xMetL Γ l yL_outputChar (xwsH yL_outputChar cL_outputChar 4 (some .int) [(0, 9, 12, 21)]) 7 xI [va_rf x0, .int x1, va_rf x2] w0 rF wF 1 6 := by
  refine xOfWH tgh_L_outputChar hl (lv0 := [(0, va_rf x0), (1, .int x1), (2, va_rf x2)]) (by cases x0 <;> cases x2 <;> exact Nat.le_of_ble_eq_true rfl) (by cases x0 <;> cases x2 <;> rfl) ?_
  intro p e s m below meth c G hT hN
  rw [f_L_outputChar] at hyp
  refine r_aload_nq G 2 dL_outputChar_0 rfl rfl ?_
  refine r_iconst (v := 0) G dL_outputChar_1 (by decide) ?_
  refine r_aload_nq G 0 dL_outputChar_2 rfl rfl ?_
  refine r_iload_n G 1 dL_outputChar_3 rfl rfl ?_
  refine r_ref hyp (fun a1 ha1 hz => ?_)
  clear hyp; subst ha1; have hyp := hz; clear hz
  obtain ⟨o4, hyp⟩ := x_chk hyp
  refine r_callVT (ι := xI) (T := TX6) (N := 9) (ci := 6) (b := a1) (rest := [.int 0, va_rf x2]) (As := [.int x1]) (s0 := 0) (e0 := 9) [("java/lang/IndexOutOfBoundsException", 12, 21)] G hN hT (by decide) (by decide) (by decide) (by intro h hh; simp only [List.mem_cons, List.not_mem_nil, or_false] at hh; subst hh; exact ⟨by decide, ww_854, ww_855⟩) tg_X6_outputChar (fun r w' h => ct_X6_outputChar (xhl G) _ _ _ r w' h) o4 hyp rfl ww_970 ww_972 ww_971 (by decide) (by decide) rfl rfl (xroom (Nat.le_of_ble_eq_true rfl)) dL_outputChar_4 (push := (fun r3 => [.int r3, .int 0, va_rf x2])) (fun _ => rfl) (fun r3 w2 hyp => ?_) (fun E w2 hK => ?_)
  · refine r_i2l G dL_outputChar_7 ?_
    refine r_ref hyp (fun a5 ha5 hz => ?_)
    clear hyp; subst ha5; have hyp := hz; clear hz
    obtain ⟨w6, hw6, hyp⟩ := x_some hyp
    refine r_last G hw6 dL_outputChar_8 ?_
    refine r_goto G 15 dL_outputChar_9 (by decide) ?_
    refine r_iconst (v := 0) G dL_outputChar_15 (by decide) ?_
    exact r_iret G hyp rfl (Nat.le_of_ble_eq_true rfl) (Nat.le_of_ble_eq_true rfl) dL_outputChar_16
  · rcases x_if hK with ⟨he, hyp⟩ | ⟨_, hK⟩
    · subst he
      refine ⟨("java/lang/IndexOutOfBoundsException", 12, 21), by first | exact List.mem_cons_self | simp, rfl, fun q => ?_⟩
      show xAW Γ p l e _ s m _ below meth c _ _ _ 1 6 12 _ _
      refine r_astore_n (lv' := [(3, .ref q), (0, .ref a1), (1, .int x1), (2, va_rf x2)]) G dL_outputChar_12 rfl (by decide) ⟨fun _ => rfl, fun _ => rfl, fun _ => xcq _, trivial⟩ rfl ?_
      refine r_iconst (v := 1) G dL_outputChar_13 (by decide) ?_
      exact r_iret G hyp rfl (Nat.le_of_ble_eq_true rfl) (Nat.le_of_ble_eq_true rfl) dL_outputChar_14
    cases hK
theorem tgh_L_undo : xTgtH yL_undo cL_undo 3 (some .int) [(0, 8, 11, 15)] 2 := ⟨ww_977, ww_851, by decide, by decide +kernel, by decide +kernel⟩
section
variable {Γ : xG} {p : Program} {l : Launch} {e : Env} {s : State} {m : MethodId} {args : Array Value} {below : List Frame} {meth : Method} {c : Code} {rF : Int32 ⊕ String} {wF : xW}
end
set_option maxRecDepth 100000 in
set_option maxHeartbeats 4000000 in
theorem ct_L_undo {Γ : xG} {l : Launch} (hl : l.stackTraces = false) (x0 : Option Nat) (x1 : Option Nat) (w0 : xW) (rF : Int32 ⊕ String) (wF : xW) (hyp : f_L_undo x0 x1 w0 = some (rF, wF)) : xMetL Γ l yL_undo (xwsH yL_undo cL_undo 3 (some .int) [(0, 8, 11, 15)]) 7 xI [va_rf x0, va_rf x1] w0 rF wF 1 6 := by
  refine xOfWH tgh_L_undo hl (lv0 := [(0, va_rf x0), (1, va_rf x1)]) (by cases x0 <;> cases x1 <;> exact Nat.le_of_ble_eq_true rfl) (by cases x0 <;> cases x1 <;> rfl) ?_
  intro p e s m below meth c G hT hN
  rw [f_L_undo] at hyp
  refine r_aload_nq G 1 dL_undo_0 rfl rfl ?_
  refine r_iconst (v := 0) G dL_undo_1 (by decide) ?_
  refine r_aload_nq G 0 dL_undo_2 rfl rfl ?_
  refine r_ref hyp (fun a1 ha1 hz => ?_)
  clear hyp; subst ha1; have hyp := hz; clear hz
  obtain ⟨o4, hyp⟩ := x_chk hyp
  refine r_callVT (ι := xI) (T := TX6) (N := 9) (ci := 6) (b := a1) (rest := [.int 0, va_rf x1]) (As := []) (s0 := 0) (e0 := 8) [("java/lang/IllegalStateException", 11, 15)] G hN hT (by decide) (by decide) (by decide) (by intro h hh; simp only [List.mem_cons, List.not_mem_nil, or_false] at hh; subst hh; exact ⟨by decide, ww_847, ww_848⟩) tg_X6_undo (fun r w' h => ct_X6_undo (xhl G) _ _ r w' h) o4 hyp rfl ww_974 ww_976 ww_975 (by decide) (by decide) rfl rfl (xroom (Nat.le_of_ble_eq_true rfl)) dL_undo_3 (push := (fun r3 => [.int r3, .int 0, va_rf x1])) (fun _ => rfl) (fun r3 w2 hyp => ?_) (fun E w2 hK => ?_)
  · refine r_i2l G dL_undo_6 ?_
    refine r_ref hyp (fun a5 ha5 hz => ?_)
    clear hyp; subst ha5; have hyp := hz; clear hz
    obtain ⟨w6, hw6, hyp⟩ := x_some hyp
    refine r_last G hw6 dL_undo_7 ?_
    refine r_goto G 14 dL_undo_8 (by decide) ?_
    refine r_iconst (v := 0) G dL_undo_14 (by decide) ?_
    exact r_iret G hyp rfl (Nat.le_of_ble_eq_true rfl) (Nat.le_of_ble_eq_true rfl) dL_undo_15
  · rcases x_if hK with ⟨he, hyp⟩ | ⟨_, hK⟩
    · subst he
      refine ⟨("java/lang/IllegalStateException", 11, 15), by first | exact List.mem_cons_self | simp, rfl, fun q => ?_⟩
      show xAW Γ p l e _ s m _ below meth c _ _ _ 1 6 11 _ _
      refine r_astore_n (lv' := [(2, .ref q), (0, .ref a1), (1, va_rf x1)]) G dL_undo_11 rfl (by decide) ⟨fun _ => rfl, fun _ => xcq _, trivial⟩ rfl ?_
      refine r_iconst (v := 1) G dL_undo_12 (by decide) ?_
      exact r_iret G hyp rfl (Nat.le_of_ble_eq_true rfl) (Nat.le_of_ble_eq_true rfl) dL_undo_13
    cases hK
theorem tgh_L_restore : xTgtH yL_restore cL_restore 3 (some .int) [(0, 8, 11, 15)] 2 := ⟨ww_981, ww_851, by decide, by decide +kernel, by decide +kernel⟩
section
variable {Γ : xG} {p : Program} {l : Launch} {e : Env} {s : State} {m : MethodId} {args : Array Value} {below : List Frame} {meth : Method} {c : Code} {rF : Int32 ⊕ String} {wF : xW}
end
set_option maxRecDepth 100000 in
set_option maxHeartbeats 4000000 in
theorem ct_L_restore {Γ : xG} {l : Launch} (hl : l.stackTraces = false) (x0 : Option Nat) (x1 : Option Nat) (w0 : xW) (rF : Int32 ⊕ String) (wF : xW) (hyp : f_L_restore x0 x1 w0 = some (rF, wF)) : xMetL Γ l yL_restore (xwsH yL_restore cL_restore 3 (some .int) [(0, 8, 11, 15)]) 7 xI [va_rf x0, va_rf x1] w0 rF wF 1 6 := by
  refine xOfWH tgh_L_restore hl (lv0 := [(0, va_rf x0), (1, va_rf x1)]) (by cases x0 <;> cases x1 <;> exact Nat.le_of_ble_eq_true rfl) (by cases x0 <;> cases x1 <;> rfl) ?_
  intro p e s m below meth c G hT hN
  rw [f_L_restore] at hyp
  refine r_aload_nq G 1 dL_restore_0 rfl rfl ?_
  refine r_iconst (v := 0) G dL_restore_1 (by decide) ?_
  refine r_aload_nq G 0 dL_restore_2 rfl rfl ?_
  refine r_ref hyp (fun a1 ha1 hz => ?_)
  clear hyp; subst ha1; have hyp := hz; clear hz
  obtain ⟨o4, hyp⟩ := x_chk hyp
  refine r_callVT (ι := xI) (T := TX6) (N := 9) (ci := 6) (b := a1) (rest := [.int 0, va_rf x1]) (As := []) (s0 := 0) (e0 := 8) [("java/lang/IllegalStateException", 11, 15)] G hN hT (by decide) (by decide) (by decide) (by intro h hh; simp only [List.mem_cons, List.not_mem_nil, or_false] at hh; subst hh; exact ⟨by decide, ww_847, ww_848⟩) tg_X6_restore (fun r w' h => ct_X6_restore (xhl G) _ _ r w' h) o4 hyp rfl ww_978 ww_980 ww_979 (by decide) (by decide) rfl rfl (xroom (Nat.le_of_ble_eq_true rfl)) dL_restore_3 (push := (fun r3 => [.int r3, .int 0, va_rf x1])) (fun _ => rfl) (fun r3 w2 hyp => ?_) (fun E w2 hK => ?_)
  · refine r_i2l G dL_restore_6 ?_
    refine r_ref hyp (fun a5 ha5 hz => ?_)
    clear hyp; subst ha5; have hyp := hz; clear hz
    obtain ⟨w6, hw6, hyp⟩ := x_some hyp
    refine r_last G hw6 dL_restore_7 ?_
    refine r_goto G 14 dL_restore_8 (by decide) ?_
    refine r_iconst (v := 0) G dL_restore_14 (by decide) ?_
    exact r_iret G hyp rfl (Nat.le_of_ble_eq_true rfl) (Nat.le_of_ble_eq_true rfl) dL_restore_15
  · rcases x_if hK with ⟨he, hyp⟩ | ⟨_, hK⟩
    · subst he
      refine ⟨("java/lang/IllegalStateException", 11, 15), by first | exact List.mem_cons_self | simp, rfl, fun q => ?_⟩
      show xAW Γ p l e _ s m _ below meth c _ _ _ 1 6 11 _ _
      refine r_astore_n (lv' := [(2, .ref q), (0, .ref a1), (1, va_rf x1)]) G dL_restore_11 rfl (by decide) ⟨fun _ => rfl, fun _ => xcq _, trivial⟩ rfl ?_
      refine r_iconst (v := 1) G dL_restore_12 (by decide) ?_
      exact r_iret G hyp rfl (Nat.le_of_ble_eq_true rfl) (Nat.le_of_ble_eq_true rfl) dL_restore_13
    cases hK
