theorem tg_X0_init : xTgt yX0_init cX0_init 1 none 0 := ⟨ww_11, ww_12, by decide, by decide +kernel, by decide +kernel⟩
section
variable {Γ : xG} {p : Program} {l : Launch} {e : Env} {s : State} {m : MethodId} {args : Array Value} {below : List Frame} {meth : Method} {c : Code} {wF : xW}
end
set_option maxRecDepth 100000 in
set_option maxHeartbeats 4000000 in
theorem ct_X0_init {Γ : xG} {l : Launch} (hl : l.stackTraces = false) (a0 : Nat) (w0 : xW) (wF : xW) (hyp : f_X0_init a0 w0 = some wF) : xMet Γ l yX0_init (xws yX0_init cX0_init 1 none) 1 xV [.ref a0] w0 (Sum.inl () : Unit ⊕ String) wF 2 66 := by
  refine xOfW tg_X0_init hl (lv0 := [(0, .ref a0)]) (Nat.le_of_ble_eq_true rfl) rfl ?_
  intro p e s m below meth c G hno hin
  rw [f_X0_init] at hyp
  refine r_aload_n G 0 dX0_init_0 rfl rfl ?_
  refine r_objInit G ww_0 ww_1 ww_2 (by decide) (by first | exact Nat.le_of_ble_eq_true rfl | decide) dX0_init_1 ?_
  refine r_aload_n G 0 dX0_init_4 rfl rfl ?_
  refine r_bipush (v := 60) G dX0_init_5 (by decide) ?_
  obtain ⟨w1, hw1, hyp⟩ := x_some hyp
  refine r_newax (N := 60) G 1 (by decide) rfl ww_3 (Or.inr (Or.inl rfl)) (fun _ _ => rfl) (by decide) (by decide) (by decide) hw1 (by first | exact Nat.le_of_ble_eq_true rfl | (show _ ≤ 2; omega)) (by first | exact Nat.le_of_ble_eq_true rfl | (show _ ≤ 66; omega)) dX0_init_7 ?_
  obtain ⟨w2, hw2, hyp⟩ := x_some hyp
  refine r_putvF (C := RX0) (T := TX0) (N := 6) (ci := 0) G hin tyX0 tyX0_ok nmX0 0 hw2 rfl uw_0 (Nat.le_of_ble_eq_true rfl) rfl rfl ww_4 rfl rfl rfl dX0_init_9 ?_
  refine r_aload_n G 0 dX0_init_12 rfl rfl ?_
  refine r_iconst (v := 0) G dX0_init_13 (by decide) ?_
  obtain ⟨w3, hw3, hyp⟩ := x_some hyp
  refine r_putv (C := RX0) (T := TX0) (N := 6) (ci := 0) G tyX0 tyX0_ok nmX0 1 hw3 rfl uw_0 (Nat.le_of_ble_eq_true rfl) rfl ww_5 rfl rfl rfl dX0_init_14 ?_
  refine r_aload_n G 0 dX0_init_17 rfl rfl ?_
  refine r_iconst (v := 0) G dX0_init_18 (by decide) ?_
  obtain ⟨w4, hw4, hyp⟩ := x_some hyp
  refine r_putv (C := RX0) (T := TX0) (N := 6) (ci := 0) G tyX0 tyX0_ok nmX0 2 hw4 rfl uw_0 (Nat.le_of_ble_eq_true rfl) rfl ww_6 rfl rfl rfl dX0_init_19 ?_
  refine r_aload_n G 0 dX0_init_22 rfl rfl ?_
  refine r_iconst (v := 0) G dX0_init_23 (by decide) ?_
  obtain ⟨w5, hw5, hyp⟩ := x_some hyp
  refine r_putv (C := RX0) (T := TX0) (N := 6) (ci := 0) G tyX0 tyX0_ok nmX0 3 hw5 rfl uw_0 (Nat.le_of_ble_eq_true rfl) rfl ww_7 rfl rfl rfl dX0_init_24 ?_
  refine r_aload_n G 0 dX0_init_27 rfl rfl ?_
  refine r_bipush (v := 6) G dX0_init_28 (by decide) ?_
  obtain ⟨w6, hw6, hyp⟩ := x_some hyp
  refine r_newax (N := 6) G 0 (by decide) rfl ww_8 (Or.inl rfl) (fun _ _ => rfl) (by decide) (by decide) (by decide) hw6 (by first | exact Nat.le_of_ble_eq_true rfl | (show _ ≤ 2; omega)) (by first | exact Nat.le_of_ble_eq_true rfl | (show _ ≤ 66; omega)) dX0_init_30 ?_
  obtain ⟨w7, hw7, hyp⟩ := x_some hyp
  refine r_putvF (C := RX0) (T := TX0) (N := 6) (ci := 0) G hin tyX0 tyX0_ok nmX0 4 hw7 rfl uw_0 (Nat.le_of_ble_eq_true rfl) rfl rfl ww_9 rfl rfl rfl dX0_init_32 ?_
  refine r_aload_n G 0 dX0_init_35 rfl rfl ?_
  refine r_iconst (v := 0) G dX0_init_36 (by decide) ?_
  obtain ⟨w8, hw8, hyp⟩ := x_some hyp
  refine r_putv (C := RX0) (T := TX0) (N := 6) (ci := 0) G tyX0 tyX0_ok nmX0 5 hw8 rfl uw_0 (Nat.le_of_ble_eq_true rfl) rfl ww_10 rfl rfl rfl dX0_init_37 ?_
  exact r_vretC G hyp (by first | exact Nat.le_of_ble_eq_true rfl | omega) (by first | exact Nat.le_of_ble_eq_true rfl | omega) dX0_init_40
theorem tg_X1_init : xTgt yX1_init cX1_init 1 none 0 := ⟨ww_21, ww_22, by decide, by decide +kernel, by decide +kernel⟩
section
variable {Γ : xG} {p : Program} {l : Launch} {e : Env} {s : State} {m : MethodId} {args : Array Value} {below : List Frame} {meth : Method} {c : Code} {wF : xW}
end
set_option maxRecDepth 100000 in
set_option maxHeartbeats 4000000 in
theorem ct_X1_init {Γ : xG} {l : Launch} (hl : l.stackTraces = false) (a0 : Nat) (w0 : xW) (wF : xW) (hyp : f_X1_init a0 w0 = some wF) : xMet Γ l yX1_init (xws yX1_init cX1_init 1 none) 1 xV [.ref a0] w0 (Sum.inl () : Unit ⊕ String) wF 5 255 := by
  refine xOfW tg_X1_init hl (lv0 := [(0, .ref a0)]) (Nat.le_of_ble_eq_true rfl) rfl ?_
  intro p e s m below meth c G hno hin
  rw [f_X1_init] at hyp
  refine r_aload_n G 0 dX1_init_0 rfl rfl ?_
  refine r_objInit G ww_13 ww_1 ww_2 (by decide) (by first | exact Nat.le_of_ble_eq_true rfl | decide) dX1_init_1 ?_
  refine r_aload_n G 0 dX1_init_4 rfl rfl ?_
  refine r_bipush (v := 48) G dX1_init_5 (by decide) ?_
  obtain ⟨w1, hw1, hyp⟩ := x_some hyp
  refine r_newax (N := 48) G 0 (by decide) rfl ww_8 (Or.inl rfl) (fun _ _ => rfl) (by decide) (by decide) (by decide) hw1 (by first | exact Nat.le_of_ble_eq_true rfl | (show _ ≤ 5; omega)) (by first | exact Nat.le_of_ble_eq_true rfl | (show _ ≤ 255; omega)) dX1_init_7 ?_
  obtain ⟨w2, hw2, hyp⟩ := x_some hyp
  refine r_putvF (C := RX1) (T := TX1) (N := 6) (ci := 1) G hin tyX1 tyX1_ok nmX1 0 hw2 rfl uw_1 (Nat.le_of_ble_eq_true rfl) rfl rfl ww_14 rfl rfl rfl dX1_init_9 ?_
  refine r_aload_n G 0 dX1_init_12 rfl rfl ?_
  refine r_bipush (v := 63) G dX1_init_13 (by decide) ?_
  obtain ⟨w3, hw3, hyp⟩ := x_some hyp
  refine r_newax (N := 63) G 0 (by decide) rfl ww_8 (Or.inl rfl) (fun _ _ => rfl) (by decide) (by decide) (by decide) hw3 (by first | exact Nat.le_of_ble_eq_true rfl | (show _ ≤ 5; omega)) (by first | exact Nat.le_of_ble_eq_true rfl | (show _ ≤ 255; omega)) dX1_init_15 ?_
  obtain ⟨w4, hw4, hyp⟩ := x_some hyp
  refine r_putvF (C := RX1) (T := TX1) (N := 6) (ci := 1) G hin tyX1 tyX1_ok nmX1 1 hw4 rfl uw_1 (Nat.le_of_ble_eq_true rfl) rfl rfl ww_15 rfl rfl rfl dX1_init_17 ?_
  refine r_aload_n G 0 dX1_init_20 rfl rfl ?_
  refine r_bipush (v := 48) G dX1_init_21 (by decide) ?_
  obtain ⟨w5, hw5, hyp⟩ := x_some hyp
  refine r_newax (N := 48) G 2 (by decide) rfl ww_16 (Or.inr (Or.inr (Or.inl rfl))) (fun _ _ => rfl) (by decide) (by decide) (by decide) hw5 (by first | exact Nat.le_of_ble_eq_true rfl | (show _ ≤ 5; omega)) (by first | exact Nat.le_of_ble_eq_true rfl | (show _ ≤ 255; omega)) dX1_init_23 ?_
  obtain ⟨w6, hw6, hyp⟩ := x_some hyp
  refine r_putvF (C := RX1) (T := TX1) (N := 6) (ci := 1) G hin tyX1 tyX1_ok nmX1 2 hw6 rfl uw_1 (Nat.le_of_ble_eq_true rfl) rfl rfl ww_17 rfl rfl rfl dX1_init_25 ?_
  refine r_aload_n G 0 dX1_init_28 rfl rfl ?_
  refine r_bipush (v := 48) G dX1_init_29 (by decide) ?_
  obtain ⟨w7, hw7, hyp⟩ := x_some hyp
  refine r_newax (N := 48) G 0 (by decide) rfl ww_8 (Or.inl rfl) (fun _ _ => rfl) (by decide) (by decide) (by decide) hw7 (by first | exact Nat.le_of_ble_eq_true rfl | (show _ ≤ 5; omega)) (by first | exact Nat.le_of_ble_eq_true rfl | (show _ ≤ 255; omega)) dX1_init_31 ?_
  obtain ⟨w8, hw8, hyp⟩ := x_some hyp
  refine r_putvF (C := RX1) (T := TX1) (N := 6) (ci := 1) G hin tyX1 tyX1_ok nmX1 3 hw8 rfl uw_1 (Nat.le_of_ble_eq_true rfl) rfl rfl ww_18 rfl rfl rfl dX1_init_33 ?_
  refine r_aload_n G 0 dX1_init_36 rfl rfl ?_
  refine r_iconst (v := 0) G dX1_init_37 (by decide) ?_
  obtain ⟨w9, hw9, hyp⟩ := x_some hyp
  refine r_putv (C := RX1) (T := TX1) (N := 6) (ci := 1) G tyX1 tyX1_ok nmX1 4 hw9 rfl uw_1 (Nat.le_of_ble_eq_true rfl) rfl ww_19 rfl rfl rfl dX1_init_38 ?_
  refine r_aload_n G 0 dX1_init_41 rfl rfl ?_
  refine r_bipush (v := 48) G dX1_init_42 (by decide) ?_
  obtain ⟨w10, hw10, hyp⟩ := x_some hyp
  refine r_newax (N := 48) G 0 (by decide) rfl ww_8 (Or.inl rfl) (fun _ _ => rfl) (by decide) (by decide) (by decide) hw10 (by first | exact Nat.le_of_ble_eq_true rfl | (show _ ≤ 5; omega)) (by first | exact Nat.le_of_ble_eq_true rfl | (show _ ≤ 255; omega)) dX1_init_44 ?_
  obtain ⟨w11, hw11, hyp⟩ := x_some hyp
  refine r_putvF (C := RX1) (T := TX1) (N := 6) (ci := 1) G hin tyX1 tyX1_ok nmX1 5 hw11 rfl uw_1 (Nat.le_of_ble_eq_true rfl) rfl rfl ww_20 rfl rfl rfl dX1_init_46 ?_
  exact r_vretC G hyp (by first | exact Nat.le_of_ble_eq_true rfl | omega) (by first | exact Nat.le_of_ble_eq_true rfl | omega) dX1_init_49
theorem tg_X3_init : xTgt yX3_init cX3_init 1 none 0 := ⟨ww_27, ww_28, by decide, by decide +kernel, by decide +kernel⟩
section
variable {Γ : xG} {p : Program} {l : Launch} {e : Env} {s : State} {m : MethodId} {args : Array Value} {below : List Frame} {meth : Method} {c : Code} {wF : xW}
end
set_option maxRecDepth 100000 in
set_option maxHeartbeats 4000000 in
theorem ct_X3_init {Γ : xG} {l : Launch} (hl : l.stackTraces = false) (a0 : Nat) (w0 : xW) (wF : xW) (hyp : f_X3_init a0 w0 = some wF) : xMet Γ l yX3_init (xws yX3_init cX3_init 1 none) 1 xV [.ref a0] w0 (Sum.inl () : Unit ⊕ String) wF 1 48 := by
  refine xOfW tg_X3_init hl (lv0 := [(0, .ref a0)]) (Nat.le_of_ble_eq_true rfl) rfl ?_
  intro p e s m below meth c G hno hin
  rw [f_X3_init] at hyp
  refine r_aload_n G 0 dX3_init_0 rfl rfl ?_
  refine r_objInit G ww_23 ww_1 ww_2 (by decide) (by first | exact Nat.le_of_ble_eq_true rfl | decide) dX3_init_1 ?_
  refine r_aload_n G 0 dX3_init_4 rfl rfl ?_
  refine r_bipush (v := 110) G dX3_init_5 (by decide) ?_
  obtain ⟨w1, hw1, hyp⟩ := x_some hyp
  refine r_putv (C := RX3) (T := TX3) (N := 3) (ci := 3) G tyX3 tyX3_ok nmX3 0 hw1 rfl uw_3 (Nat.le_of_ble_eq_true rfl) rfl ww_24 rfl (by decide) (by decide) dX3_init_7 ?_
  refine r_aload_n G 0 dX3_init_10 rfl rfl ?_
  refine r_iconst (v := 1) G dX3_init_11 (by decide) ?_
  obtain ⟨w2, hw2, hyp⟩ := x_some hyp
  refine r_putv (C := RX3) (T := TX3) (N := 3) (ci := 3) G tyX3 tyX3_ok nmX3 1 hw2 rfl uw_3 (Nat.le_of_ble_eq_true rfl) rfl ww_25 rfl (by decide) (by decide) dX3_init_12 ?_
  refine r_aload_n G 0 dX3_init_15 rfl rfl ?_
  refine r_bipush (v := 48) G dX3_init_16 (by decide) ?_
  obtain ⟨w3, hw3, hyp⟩ := x_some hyp
  refine r_newax (N := 48) G 0 (by decide) rfl ww_8 (Or.inl rfl) (fun _ _ => rfl) (by decide) (by decide) (by decide) hw3 (by first | exact Nat.le_of_ble_eq_true rfl | (show _ ≤ 1; omega)) (by first | exact Nat.le_of_ble_eq_true rfl | (show _ ≤ 48; omega)) dX3_init_18 ?_
  obtain ⟨w4, hw4, hyp⟩ := x_some hyp
  refine r_putvF (C := RX3) (T := TX3) (N := 3) (ci := 3) G hin tyX3 tyX3_ok nmX3 2 hw4 rfl uw_3 (Nat.le_of_ble_eq_true rfl) rfl rfl ww_26 rfl rfl rfl dX3_init_20 ?_
  exact r_vretC G hyp (by first | exact Nat.le_of_ble_eq_true rfl | omega) (by first | exact Nat.le_of_ble_eq_true rfl | omega) dX3_init_23
theorem tg_X4_init : xTgt yX4_init cX4_init 2 none 0 := ⟨ww_39, ww_40, by decide, by decide +kernel, by decide +kernel⟩
section
variable {Γ : xG} {p : Program} {l : Launch} {e : Env} {s : State} {m : MethodId} {args : Array Value} {below : List Frame} {meth : Method} {c : Code} {wF : xW}
set_option maxRecDepth 100000 in
set_option maxHeartbeats 4000000 in
theorem nd_X4_init_L30 (G : xCx Γ p l s m args meth c RX4 cX4_init 2 none) (hno : ∀ x ∈ c.exceptionTable.toList, False) : ∀ (n : Nat) (a0 : Nat) (x1 : Int32) (w0 : xW) (cells slots : Nat), cells + n * 2 ≤ 15 → slots + n * 51 ≤ 363 → f_X4_init_L30 n a0 x1 w0 = some wF → xAW Γ p l e (xRm 2 15 363) s m args below meth c 2 (xQm Γ below xV (Sum.inl () : Unit ⊕ String) wF args s 15 363) w0 cells slots 30 [(0, .ref a0), (1, .int x1)] [] := by
  intro n
  induction n with
  | zero =>
    intro a0 x1 w0 cells slots hcl hsl hyp
    cases (show (none : Option xW) = some wF from hyp)
  | succ n ih =>
    intro a0 x1 w0 cells slots hcl hsl hyp
    rw [f_X4_init_L30] at hyp
    refine r_iload_n G 1 dX4_init_30 rfl rfl ?_
    refine r_aload_n G 0 dX4_init_31 rfl rfl ?_
    obtain ⟨v6, hv6, hyp⟩ := x_some hyp
    refine r_getv (C := RX4) (T := TX4) (N := 4) (ci := 4) G 0 (x_getr_e hv6) rfl uw_4 (Nat.le_of_ble_eq_true rfl) rfl ww_31 dX4_init_32 ?_
    refine r_ref hyp (fun a7 ha7 hz => ?_)
    clear hyp; subst ha7; have hyp := hz; clear hz
    obtain ⟨v8, hv8, hyp⟩ := x_some hyp
    refine r_len G hv8 dX4_init_35 ?_
    refine r_icmp_ge G 58 dX4_init_36 (by decide) hyp (fun c9 hyp => ?_) (fun c9 hyp => ?_)
    · exact r_vretC G hyp (by first | exact Nat.le_of_ble_eq_true rfl | omega) (by first | exact Nat.le_of_ble_eq_true rfl | omega) dX4_init_58
    · refine r_aload_n G 0 dX4_init_39 rfl rfl ?_
      obtain ⟨v10, hv10, hyp⟩ := x_some hyp
      refine r_getv (C := RX4) (T := TX4) (N := 4) (ci := 4) G 0 (x_getr_e hv10) rfl uw_4 (Nat.le_of_ble_eq_true rfl) rfl ww_31 dX4_init_40 ?_
      refine r_iload_n G 1 dX4_init_43 rfl rfl ?_
      obtain ⟨w11, hw11, hyp⟩ := x_some hyp
      refine r_newx (C := RX3) (T := TX3) (N := 3) G 3 tyX3 tyX3_ok rfl uw_3 ww_35 ww_36 ww_28 (fun j hj => by rcases (show j = 0 ∨ j = 1 ∨ j = 2 by omega) with rfl | rfl | rfl <;> rfl) hw11 (by first | exact Nat.le_of_ble_eq_true rfl | (show _ ≤ 15; omega)) (by first | exact Nat.le_of_ble_eq_true rfl | (show _ ≤ 363; omega)) dX4_init_44 ?_
      refine r_dup G dX4_init_47 rfl ?_
      obtain ⟨w12, hw12, hyp⟩ := x_some hyp
      refine r_callIN (b := w0.1) (rest := [.ref w0.1, .int x1, va_rf v10]) (As := []) rfl G tg_X3_init (ct_X3_init (xhl G) _ _ _ hw12) ww_37 ww_38 rfl (by decide) (by decide) (by first | exact ⟨Nat.le_of_ble_eq_true rfl, Nat.le_of_ble_eq_true rfl⟩ | (constructor <;> (show _ ≤ _; simp only [xRm]; omega))) rfl rfl (xroom (Nat.le_of_ble_eq_true rfl)) dX4_init_48 ?_
      refine r_ref hyp (fun a13 ha13 hz => ?_)
      clear hyp; subst ha13; have hyp := hz; clear hz
      obtain ⟨w14, hw14, hyp⟩ := x_some hyp
      refine r_aast G 3 (Or.inl rfl) hw14 dX4_init_51 ?_
      refine r_iinc (v := (x1 + 1)) (lv' := [(1, .int (x1 + 1)), (0, .ref a0)]) G 1 dX4_init_52 rfl rfl (by decide) ⟨fun _ => rfl, fun _ => rfl, trivial⟩ rfl ?_
      refine r_goto G 30 dX4_init_55 (by decide) ?_
      refine r_weak (lv' := [(0, .ref a0), (1, .int (x1 + 1))]) [1, 0] rfl ?_
      exact ih a0 (x1 + 1) w14 _ _ (by omega) (by omega) hyp
end
set_option maxRecDepth 100000 in
set_option maxHeartbeats 4000000 in
theorem ct_X4_init {Γ : xG} {l : Launch} (hl : l.stackTraces = false) (a0 : Nat) (w0 : xW) (wF : xW) (hyp : f_X4_init a0 w0 = some wF) : xMet Γ l yX4_init (xws yX4_init cX4_init 2 none) 2 xV [.ref a0] w0 (Sum.inl () : Unit ⊕ String) wF 15 363 := by
  refine xOfW tg_X4_init hl (lv0 := [(0, .ref a0)]) (Nat.le_of_ble_eq_true rfl) rfl ?_
  intro p e s m below meth c G hno hin
  rw [f_X4_init] at hyp
  refine r_aload_n G 0 dX4_init_0 rfl rfl ?_
  refine r_objInit G ww_29 ww_1 ww_2 (by decide) (by first | exact Nat.le_of_ble_eq_true rfl | decide) dX4_init_1 ?_
  refine r_aload_n G 0 dX4_init_4 rfl rfl ?_
  refine r_bipush (v := 6) G dX4_init_5 (by decide) ?_
  obtain ⟨w1, hw1, hyp⟩ := x_some hyp
  refine r_newqx (N := 6) G 3 (Or.inl ⟨rfl, rfl⟩) ww_30 (by decide) (by decide) (by decide) hw1 (by first | exact Nat.le_of_ble_eq_true rfl | (show _ ≤ 15; omega)) (by first | exact Nat.le_of_ble_eq_true rfl | (show _ ≤ 363; omega)) dX4_init_7 ?_
  obtain ⟨w2, hw2, hyp⟩ := x_some hyp
  refine r_putvF (C := RX4) (T := TX4) (N := 4) (ci := 4) G hin tyX4 tyX4_ok nmX4 0 hw2 rfl uw_4 (Nat.le_of_ble_eq_true rfl) rfl rfl ww_31 rfl rfl rfl dX4_init_10 ?_
  refine r_aload_n G 0 dX4_init_13 rfl rfl ?_
  refine r_iconst (v := 0) G dX4_init_14 (by decide) ?_
  obtain ⟨w3, hw3, hyp⟩ := x_some hyp
  refine r_putv (C := RX4) (T := TX4) (N := 4) (ci := 4) G tyX4 tyX4_ok nmX4 1 hw3 rfl uw_4 (Nat.le_of_ble_eq_true rfl) rfl ww_32 rfl rfl rfl dX4_init_15 ?_
  refine r_aload_n G 0 dX4_init_18 rfl rfl ?_
  refine r_iconst (v := 0) G dX4_init_19 (by decide) ?_
  obtain ⟨w4, hw4, hyp⟩ := x_some hyp
  refine r_putv (C := RX4) (T := TX4) (N := 4) (ci := 4) G tyX4 tyX4_ok nmX4 2 hw4 rfl uw_4 (Nat.le_of_ble_eq_true rfl) rfl ww_33 rfl rfl rfl dX4_init_20 ?_
  refine r_aload_n G 0 dX4_init_23 rfl rfl ?_
  refine r_iconst (v := 0) G dX4_init_24 (by decide) ?_
  obtain ⟨w5, hw5, hyp⟩ := x_some hyp
  refine r_putv (C := RX4) (T := TX4) (N := 4) (ci := 4) G tyX4 tyX4_ok nmX4 3 hw5 rfl uw_4 (Nat.le_of_ble_eq_true rfl) rfl ww_34 rfl rfl rfl dX4_init_25 ?_
  refine r_iconst (v := 0) G dX4_init_28 (by decide) ?_
  refine r_istore_n (lv' := [(1, .int 0), (0, .ref a0)]) G dX4_init_29 rfl (by decide) ⟨fun _ => rfl, trivial⟩ rfl ?_
  refine r_weak (lv' := [(0, .ref a0), (1, .int 0)]) [1, 0] rfl ?_
  exact nd_X4_init_L30 G hno 7 a0 0 w5 _ _ (by omega) (by omega) hyp
theorem tg_X2_init : xTgt yX2_init cX2_init 2 none 0 := ⟨ww_50, ww_51, by decide, by decide +kernel, by decide +kernel⟩
section
variable {Γ : xG} {p : Program} {l : Launch} {e : Env} {s : State} {m : MethodId} {args : Array Value} {below : List Frame} {meth : Method} {c : Code} {wF : xW}
set_option maxRecDepth 100000 in
set_option maxHeartbeats 4000000 in
theorem nd_X2_init_L25 (G : xCx Γ p l s m args meth c RX2 cX2_init 2 none) (hno : ∀ x ∈ c.exceptionTable.toList, False) : ∀ (n : Nat) (a0 : Nat) (x1 : Int32) (w0 : xW) (cells slots : Nat), cells + n * 16 ≤ 161 → slots + n * 367 ≤ 3679 → f_X2_init_L25 n a0 x1 w0 = some wF → xAW Γ p l e (xRm 3 161 3679) s m args below meth c 2 (xQm Γ below xV (Sum.inl () : Unit ⊕ String) wF args s 161 3679) w0 cells slots 25 [(0, .ref a0), (1, .int x1)] [] := by
  intro n
  induction n with
  | zero =>
    intro a0 x1 w0 cells slots hcl hsl hyp
    cases (show (none : Option xW) = some wF from hyp)
  | succ n ih =>
    intro a0 x1 w0 cells slots hcl hsl hyp
    rw [f_X2_init_L25] at hyp
    refine r_iload_n G 1 dX2_init_25 rfl rfl ?_
    refine r_aload_n G 0 dX2_init_26 rfl rfl ?_
    obtain ⟨v5, hv5, hyp⟩ := x_some hyp
    refine r_getv (C := RX2) (T := TX2) (N := 3) (ci := 2) G 0 (x_getr_e hv5) rfl uw_2 (Nat.le_of_ble_eq_true rfl) rfl ww_43 dX2_init_27 ?_
    refine r_ref hyp (fun a6 ha6 hz => ?_)
    clear hyp; subst ha6; have hyp := hz; clear hz
    obtain ⟨v7, hv7, hyp⟩ := x_some hyp
    refine r_len G hv7 dX2_init_30 ?_
    refine r_icmp_ge G 53 dX2_init_31 (by decide) hyp (fun c8 hyp => ?_) (fun c8 hyp => ?_)
    · exact r_vretC G hyp (by first | exact Nat.le_of_ble_eq_true rfl | omega) (by first | exact Nat.le_of_ble_eq_true rfl | omega) dX2_init_53
    · refine r_aload_n G 0 dX2_init_34 rfl rfl ?_
      obtain ⟨v9, hv9, hyp⟩ := x_some hyp
      refine r_getv (C := RX2) (T := TX2) (N := 3) (ci := 2) G 0 (x_getr_e hv9) rfl uw_2 (Nat.le_of_ble_eq_true rfl) rfl ww_43 dX2_init_35 ?_
      refine r_iload_n G 1 dX2_init_38 rfl rfl ?_
      obtain ⟨w10, hw10, hyp⟩ := x_some hyp
      refine r_newx (C := RX4) (T := TX4) (N := 4) G 4 tyX4 tyX4_ok rfl uw_4 ww_46 ww_47 ww_40 (fun j hj => by rcases (show j = 0 ∨ j = 1 ∨ j = 2 ∨ j = 3 by omega) with rfl | rfl | rfl | rfl <;> rfl) hw10 (by first | exact Nat.le_of_ble_eq_true rfl | (show _ ≤ 161; omega)) (by first | exact Nat.le_of_ble_eq_true rfl | (show _ ≤ 3679; omega)) dX2_init_39 ?_
      refine r_dup G dX2_init_42 rfl ?_
      obtain ⟨w11, hw11, hyp⟩ := x_some hyp
      refine r_callI (b := w0.1) (rest := [.ref w0.1, .int x1, va_rf v9]) (As := []) rfl G tg_X4_init (ct_X4_init (xhl G) _ _ _ hw11) ww_48 ww_49 rfl (by decide) (by decide) (by first | exact ⟨Nat.le_of_ble_eq_true rfl, Nat.le_of_ble_eq_true rfl⟩ | (constructor <;> (show _ ≤ _; simp only [xRm]; omega))) rfl rfl (xroom (Nat.le_of_ble_eq_true rfl)) dX2_init_43 ?_
      refine r_ref hyp (fun a12 ha12 hz => ?_)
      clear hyp; subst ha12; have hyp := hz; clear hz
      obtain ⟨w13, hw13, hyp⟩ := x_some hyp
      refine r_aast G 4 (Or.inr rfl) hw13 dX2_init_46 ?_
      refine r_iinc (v := (x1 + 1)) (lv' := [(1, .int (x1 + 1)), (0, .ref a0)]) G 1 dX2_init_47 rfl rfl (by decide) ⟨fun _ => rfl, fun _ => rfl, trivial⟩ rfl ?_
      refine r_goto G 25 dX2_init_50 (by decide) ?_
      refine r_weak (lv' := [(0, .ref a0), (1, .int (x1 + 1))]) [1, 0] rfl ?_
      exact ih a0 (x1 + 1) w13 _ _ (by omega) (by omega) hyp
end
set_option maxRecDepth 100000 in
set_option maxHeartbeats 4000000 in
theorem ct_X2_init {Γ : xG} {l : Launch} (hl : l.stackTraces = false) (a0 : Nat) (w0 : xW) (wF : xW) (hyp : f_X2_init a0 w0 = some wF) : xMet Γ l yX2_init (xws yX2_init cX2_init 2 none) 3 xV [.ref a0] w0 (Sum.inl () : Unit ⊕ String) wF 161 3679 := by
  refine xOfW tg_X2_init hl (lv0 := [(0, .ref a0)]) (Nat.le_of_ble_eq_true rfl) rfl ?_
  intro p e s m below meth c G hno hin
  rw [f_X2_init] at hyp
  refine r_aload_n G 0 dX2_init_0 rfl rfl ?_
  refine r_objInit G ww_41 ww_1 ww_2 (by decide) (by first | exact Nat.le_of_ble_eq_true rfl | decide) dX2_init_1 ?_
  refine r_aload_n G 0 dX2_init_4 rfl rfl ?_
  refine r_bipush (v := 9) G dX2_init_5 (by decide) ?_
  obtain ⟨w1, hw1, hyp⟩ := x_some hyp
  refine r_newqx (N := 9) G 4 (Or.inr ⟨rfl, rfl⟩) ww_42 (by decide) (by decide) (by decide) hw1 (by first | exact Nat.le_of_ble_eq_true rfl | (show _ ≤ 161; omega)) (by first | exact Nat.le_of_ble_eq_true rfl | (show _ ≤ 3679; omega)) dX2_init_7 ?_
  obtain ⟨w2, hw2, hyp⟩ := x_some hyp
  refine r_putvF (C := RX2) (T := TX2) (N := 3) (ci := 2) G hin tyX2 tyX2_ok nmX2 0 hw2 rfl uw_2 (Nat.le_of_ble_eq_true rfl) rfl rfl ww_43 rfl rfl rfl dX2_init_10 ?_
  refine r_aload_n G 0 dX2_init_13 rfl rfl ?_
  refine r_iconst (v := 0) G dX2_init_14 (by decide) ?_
  obtain ⟨w3, hw3, hyp⟩ := x_some hyp
  refine r_putv (C := RX2) (T := TX2) (N := 3) (ci := 2) G tyX2 tyX2_ok nmX2 1 hw3 rfl uw_2 (Nat.le_of_ble_eq_true rfl) rfl ww_44 rfl rfl rfl dX2_init_15 ?_
  refine r_aload_n G 0 dX2_init_18 rfl rfl ?_
  refine r_iconst (v := 0) G dX2_init_19 (by decide) ?_
  obtain ⟨w4, hw4, hyp⟩ := x_some hyp
  refine r_putv (C := RX2) (T := TX2) (N := 3) (ci := 2) G tyX2 tyX2_ok nmX2 2 hw4 rfl uw_2 (Nat.le_of_ble_eq_true rfl) rfl ww_45 rfl rfl rfl dX2_init_20 ?_
  refine r_iconst (v := 0) G dX2_init_23 (by decide) ?_
  refine r_istore_n (lv' := [(1, .int 0), (0, .ref a0)]) G dX2_init_24 rfl (by decide) ⟨fun _ => rfl, trivial⟩ rfl ?_
  refine r_weak (lv' := [(0, .ref a0), (1, .int 0)]) [1, 0] rfl ?_
  exact nd_X2_init_L25 G hno 10 a0 0 w4 _ _ (by omega) (by omega) hyp
theorem tg_X5_init : xTgt yX5_init cX5_init 1 none 0 := ⟨ww_55, ww_56, by decide, by decide +kernel, by decide +kernel⟩
section
variable {Γ : xG} {p : Program} {l : Launch} {e : Env} {s : State} {m : MethodId} {args : Array Value} {below : List Frame} {meth : Method} {c : Code} {wF : xW}
end
set_option maxRecDepth 100000 in
set_option maxHeartbeats 4000000 in
theorem ct_X5_init {Γ : xG} {l : Launch} (hl : l.stackTraces = false) (a0 : Nat) (w0 : xW) (wF : xW) (hyp : f_X5_init a0 w0 = some wF) : xMet Γ l yX5_init (xws yX5_init cX5_init 1 none) 1 xV [.ref a0] w0 (Sum.inl () : Unit ⊕ String) wF 1 32 := by
  refine xOfW tg_X5_init hl (lv0 := [(0, .ref a0)]) (Nat.le_of_ble_eq_true rfl) rfl ?_
  intro p e s m below meth c G hno hin
  rw [f_X5_init] at hyp
  refine r_aload_n G 0 dX5_init_0 rfl rfl ?_
  refine r_objInit G ww_52 ww_1 ww_2 (by decide) (by first | exact Nat.le_of_ble_eq_true rfl | decide) dX5_init_1 ?_
  refine r_aload_n G 0 dX5_init_4 rfl rfl ?_
  refine r_bipush (v := 32) G dX5_init_5 (by decide) ?_
  obtain ⟨w1, hw1, hyp⟩ := x_some hyp
  refine r_newax (N := 32) G 1 (by decide) rfl ww_3 (Or.inr (Or.inl rfl)) (fun _ _ => rfl) (by decide) (by decide) (by decide) hw1 (by first | exact Nat.le_of_ble_eq_true rfl | (show _ ≤ 1; omega)) (by first | exact Nat.le_of_ble_eq_true rfl | (show _ ≤ 32; omega)) dX5_init_7 ?_
  obtain ⟨w2, hw2, hyp⟩ := x_some hyp
  refine r_putvF (C := RX5) (T := TX5) (N := 2) (ci := 5) G hin tyX5 tyX5_ok nmX5 0 hw2 rfl uw_5 (Nat.le_of_ble_eq_true rfl) rfl rfl ww_53 rfl rfl rfl dX5_init_9 ?_
  refine r_aload_n G 0 dX5_init_12 rfl rfl ?_
  refine r_iconst (v := 0) G dX5_init_13 (by decide) ?_
  obtain ⟨w3, hw3, hyp⟩ := x_some hyp
  refine r_putv (C := RX5) (T := TX5) (N := 2) (ci := 5) G tyX5 tyX5_ok nmX5 1 hw3 rfl uw_5 (Nat.le_of_ble_eq_true rfl) rfl ww_54 rfl rfl rfl dX5_init_14 ?_
  exact r_vretC G hyp (by first | exact Nat.le_of_ble_eq_true rfl | omega) (by first | exact Nat.le_of_ble_eq_true rfl | omega) dX5_init_17
theorem tg_X6_init : xTgt yX6_init cX6_init 1 none 0 := ⟨ww_85, ww_86, by decide, by decide +kernel, by decide +kernel⟩
section
variable {Γ : xG} {p : Program} {l : Launch} {e : Env} {s : State} {m : MethodId} {args : Array Value} {below : List Frame} {meth : Method} {c : Code} {wF : xW}
end
set_option maxRecDepth 100000 in
set_option maxHeartbeats 4000000 in
theorem ct_X6_init {Γ : xG} {l : Launch} (hl : l.stackTraces = false) (a0 : Nat) (w0 : xW) (wF : xW) (hyp : f_X6_init a0 w0 = some wF) : xMet Γ l yX6_init (xws yX6_init cX6_init 1 none) 4 xV [.ref a0] w0 (Sum.inl () : Unit ⊕ String) wF 205 4783 := by
  refine xOfW tg_X6_init hl (lv0 := [(0, .ref a0)]) (Nat.le_of_ble_eq_true rfl) rfl ?_
  intro p e s m below meth c G hno hin
  rw [f_X6_init] at hyp
  refine r_aload_n G 0 dX6_init_0 rfl rfl ?_
  refine r_objInit G ww_57 ww_1 ww_2 (by decide) (by first | exact Nat.le_of_ble_eq_true rfl | decide) dX6_init_1 ?_
  refine r_aload_n G 0 dX6_init_4 rfl rfl ?_
  obtain ⟨w1, hw1, hyp⟩ := x_some hyp
  refine r_newx (C := RX4) (T := TX4) (N := 4) G 4 tyX4 tyX4_ok rfl uw_4 ww_58 ww_47 ww_40 (fun j hj => by rcases (show j = 0 ∨ j = 1 ∨ j = 2 ∨ j = 3 by omega) with rfl | rfl | rfl | rfl <;> rfl) hw1 (by first | exact Nat.le_of_ble_eq_true rfl | (show _ ≤ 205; omega)) (by first | exact Nat.le_of_ble_eq_true rfl | (show _ ≤ 4783; omega)) dX6_init_5 ?_
  refine r_dup G dX6_init_8 rfl ?_
  obtain ⟨w2, hw2, hyp⟩ := x_some hyp
  refine r_callI (b := w0.1) (rest := [.ref w0.1, .ref a0]) (As := []) rfl G tg_X4_init (ct_X4_init (xhl G) _ _ _ hw2) ww_59 ww_49 rfl (by decide) (by decide) (by first | exact ⟨Nat.le_of_ble_eq_true rfl, Nat.le_of_ble_eq_true rfl⟩ | (constructor <;> (show _ ≤ _; simp only [xRm]; omega))) rfl rfl (xroom (Nat.le_of_ble_eq_true rfl)) dX6_init_9 ?_
  obtain ⟨w3, hw3, hyp⟩ := x_some hyp
  refine r_putvF (C := RX6) (T := TX6) (N := 9) (ci := 6) G hin tyX6 tyX6_ok nmX6 0 hw3 rfl uw_6 (Nat.le_of_ble_eq_true rfl) rfl rfl ww_60 rfl rfl rfl dX6_init_12 ?_
  refine r_aload_n G 0 dX6_init_15 rfl rfl ?_
  obtain ⟨w4, hw4, hyp⟩ := x_some hyp
  refine r_newx (C := RX2) (T := TX2) (N := 3) G 2 tyX2 tyX2_ok rfl uw_2 ww_61 ww_62 ww_51 (fun j hj => by rcases (show j = 0 ∨ j = 1 ∨ j = 2 by omega) with rfl | rfl | rfl <;> rfl) hw4 (by first | exact Nat.le_of_ble_eq_true rfl | (show _ ≤ 205; omega)) (by first | exact Nat.le_of_ble_eq_true rfl | (show _ ≤ 4783; omega)) dX6_init_16 ?_
  refine r_dup G dX6_init_19 rfl ?_
  obtain ⟨w5, hw5, hyp⟩ := x_some hyp
  refine r_callI (b := w3.1) (rest := [.ref w3.1, .ref a0]) (As := []) rfl G tg_X2_init (ct_X2_init (xhl G) _ _ _ hw5) ww_63 ww_64 rfl (by decide) (by decide) (by first | exact ⟨Nat.le_of_ble_eq_true rfl, Nat.le_of_ble_eq_true rfl⟩ | (constructor <;> (show _ ≤ _; simp only [xRm]; omega))) rfl rfl (xroom (Nat.le_of_ble_eq_true rfl)) dX6_init_20 ?_
  obtain ⟨w6, hw6, hyp⟩ := x_some hyp
  refine r_putvF (C := RX6) (T := TX6) (N := 9) (ci := 6) G hin tyX6 tyX6_ok nmX6 1 hw6 rfl uw_6 (Nat.le_of_ble_eq_true rfl) rfl rfl ww_65 rfl rfl rfl dX6_init_23 ?_
  refine r_aload_n G 0 dX6_init_26 rfl rfl ?_
  obtain ⟨w7, hw7, hyp⟩ := x_some hyp
  refine r_newx (C := RX4) (T := TX4) (N := 4) G 4 tyX4 tyX4_ok rfl uw_4 ww_58 ww_47 ww_40 (fun j hj => by rcases (show j = 0 ∨ j = 1 ∨ j = 2 ∨ j = 3 by omega) with rfl | rfl | rfl | rfl <;> rfl) hw7 (by first | exact Nat.le_of_ble_eq_true rfl | (show _ ≤ 205; omega)) (by first | exact Nat.le_of_ble_eq_true rfl | (show _ ≤ 4783; omega)) dX6_init_27 ?_
  refine r_dup G dX6_init_30 rfl ?_
  obtain ⟨w8, hw8, hyp⟩ := x_some hyp
  refine r_callI (b := w6.1) (rest := [.ref w6.1, .ref a0]) (As := []) rfl G tg_X4_init (ct_X4_init (xhl G) _ _ _ hw8) ww_59 ww_49 rfl (by decide) (by decide) (by first | exact ⟨Nat.le_of_ble_eq_true rfl, Nat.le_of_ble_eq_true rfl⟩ | (constructor <;> (show _ ≤ _; simp only [xRm]; omega))) rfl rfl (xroom (Nat.le_of_ble_eq_true rfl)) dX6_init_31 ?_
  obtain ⟨w9, hw9, hyp⟩ := x_some hyp
  refine r_putvF (C := RX6) (T := TX6) (N := 9) (ci := 6) G hin tyX6 tyX6_ok nmX6 2 hw9 rfl uw_6 (Nat.le_of_ble_eq_true rfl) rfl rfl ww_66 rfl rfl rfl dX6_init_34 ?_
  refine r_aload_n G 0 dX6_init_37 rfl rfl ?_
  refine r_iconst (v := 0) G dX6_init_38 (by decide) ?_
  obtain ⟨w10, hw10, hyp⟩ := x_some hyp
  refine r_putv (C := RX6) (T := TX6) (N := 9) (ci := 6) G tyX6 tyX6_ok nmX6 3 hw10 rfl uw_6 (Nat.le_of_ble_eq_true rfl) rfl ww_67 rfl (by decide) (by decide) dX6_init_39 ?_
  refine r_aload_n G 0 dX6_init_42 rfl rfl ?_
  obtain ⟨w11, hw11, hyp⟩ := x_some hyp
  refine r_newx (C := RX1) (T := TX1) (N := 6) G 1 tyX1 tyX1_ok rfl uw_1 ww_68 ww_69 ww_22 (fun j hj => by rcases (show j = 0 ∨ j = 1 ∨ j = 2 ∨ j = 3 ∨ j = 4 ∨ j = 5 by omega) with rfl | rfl | rfl | rfl | rfl | rfl <;> rfl) hw11 (by first | exact Nat.le_of_ble_eq_true rfl | (show _ ≤ 205; omega)) (by first | exact Nat.le_of_ble_eq_true rfl | (show _ ≤ 4783; omega)) dX6_init_43 ?_
  refine r_dup G dX6_init_46 rfl ?_
  obtain ⟨w12, hw12, hyp⟩ := x_some hyp
  refine r_callIN (b := w10.1) (rest := [.ref w10.1, .ref a0]) (As := []) rfl G tg_X1_init (ct_X1_init (xhl G) _ _ _ hw12) ww_70 ww_71 rfl (by decide) (by decide) (by first | exact ⟨Nat.le_of_ble_eq_true rfl, Nat.le_of_ble_eq_true rfl⟩ | (constructor <;> (show _ ≤ _; simp only [xRm]; omega))) rfl rfl (xroom (Nat.le_of_ble_eq_true rfl)) dX6_init_47 ?_
  obtain ⟨w13, hw13, hyp⟩ := x_some hyp
  refine r_putvF (C := RX6) (T := TX6) (N := 9) (ci := 6) G hin tyX6 tyX6_ok nmX6 4 hw13 rfl uw_6 (Nat.le_of_ble_eq_true rfl) rfl rfl ww_72 rfl rfl rfl dX6_init_50 ?_
  refine r_aload_n G 0 dX6_init_53 rfl rfl ?_
  obtain ⟨w14, hw14, hyp⟩ := x_some hyp
  refine r_newx (C := RX0) (T := TX0) (N := 6) G 0 tyX0 tyX0_ok rfl uw_0 ww_73 ww_74 ww_12 (fun j hj => by rcases (show j = 0 ∨ j = 1 ∨ j = 2 ∨ j = 3 ∨ j = 4 ∨ j = 5 by omega) with rfl | rfl | rfl | rfl | rfl | rfl <;> rfl) hw14 (by first | exact Nat.le_of_ble_eq_true rfl | (show _ ≤ 205; omega)) (by first | exact Nat.le_of_ble_eq_true rfl | (show _ ≤ 4783; omega)) dX6_init_54 ?_
  refine r_dup G dX6_init_57 rfl ?_
  obtain ⟨w15, hw15, hyp⟩ := x_some hyp
  refine r_callIN (b := w13.1) (rest := [.ref w13.1, .ref a0]) (As := []) rfl G tg_X0_init (ct_X0_init (xhl G) _ _ _ hw15) ww_75 ww_76 rfl (by decide) (by decide) (by first | exact ⟨Nat.le_of_ble_eq_true rfl, Nat.le_of_ble_eq_true rfl⟩ | (constructor <;> (show _ ≤ _; simp only [xRm]; omega))) rfl rfl (xroom (Nat.le_of_ble_eq_true rfl)) dX6_init_58 ?_
  obtain ⟨w16, hw16, hyp⟩ := x_some hyp
  refine r_putvF (C := RX6) (T := TX6) (N := 9) (ci := 6) G hin tyX6 tyX6_ok nmX6 5 hw16 rfl uw_6 (Nat.le_of_ble_eq_true rfl) rfl rfl ww_77 rfl rfl rfl dX6_init_61 ?_
  refine r_aload_n G 0 dX6_init_64 rfl rfl ?_
  obtain ⟨w17, hw17, hyp⟩ := x_some hyp
  refine r_newx (C := RX5) (T := TX5) (N := 2) G 5 tyX5 tyX5_ok rfl uw_5 ww_78 ww_79 ww_56 (fun j hj => by rcases (show j = 0 ∨ j = 1 by omega) with rfl | rfl <;> rfl) hw17 (by first | exact Nat.le_of_ble_eq_true rfl | (show _ ≤ 205; omega)) (by first | exact Nat.le_of_ble_eq_true rfl | (show _ ≤ 4783; omega)) dX6_init_65 ?_
  refine r_dup G dX6_init_68 rfl ?_
  obtain ⟨w18, hw18, hyp⟩ := x_some hyp
  refine r_callIN (b := w16.1) (rest := [.ref w16.1, .ref a0]) (As := []) rfl G tg_X5_init (ct_X5_init (xhl G) _ _ _ hw18) ww_80 ww_81 rfl (by decide) (by decide) (by first | exact ⟨Nat.le_of_ble_eq_true rfl, Nat.le_of_ble_eq_true rfl⟩ | (constructor <;> (show _ ≤ _; simp only [xRm]; omega))) rfl rfl (xroom (Nat.le_of_ble_eq_true rfl)) dX6_init_69 ?_
  obtain ⟨w19, hw19, hyp⟩ := x_some hyp
  refine r_putvF (C := RX6) (T := TX6) (N := 9) (ci := 6) G hin tyX6 tyX6_ok nmX6 6 hw19 rfl uw_6 (Nat.le_of_ble_eq_true rfl) rfl rfl ww_82 rfl rfl rfl dX6_init_72 ?_
  refine r_aload_n G 0 dX6_init_75 rfl rfl ?_
  refine r_iconst (v := (-1)) G dX6_init_76 (by decide) ?_
  obtain ⟨w20, hw20, hyp⟩ := x_some hyp
  refine r_putv (C := RX6) (T := TX6) (N := 9) (ci := 6) G tyX6 tyX6_ok nmX6 7 hw20 rfl uw_6 (Nat.le_of_ble_eq_true rfl) rfl ww_83 rfl rfl rfl dX6_init_77 ?_
  refine r_aload_n G 0 dX6_init_80 rfl rfl ?_
  refine r_iconst (v := (-1)) G dX6_init_81 (by decide) ?_
  obtain ⟨w21, hw21, hyp⟩ := x_some hyp
  refine r_putv (C := RX6) (T := TX6) (N := 9) (ci := 6) G tyX6 tyX6_ok nmX6 8 hw21 rfl uw_6 (Nat.le_of_ble_eq_true rfl) rfl ww_84 rfl rfl rfl dX6_init_82 ?_
  exact r_vretC G hyp (by first | exact Nat.le_of_ble_eq_true rfl | omega) (by first | exact Nat.le_of_ble_eq_true rfl | omega) dX6_init_85
theorem tg_J9_min_7cf53 : xTgt yJ9_min_7cf53 cJ9_min_7cf53 2 (some .int) 2 := ⟨ww_87, ww_88, by decide, by decide +kernel, by decide +kernel⟩
section
variable {Γ : xG} {p : Program} {l : Launch} {e : Env} {s : State} {m : MethodId} {args : Array Value} {below : List Frame} {meth : Method} {c : Code} {rF : Int32 ⊕ String} {wF : xW}
end
set_option maxRecDepth 100000 in
set_option maxHeartbeats 4000000 in
theorem ct_J9_min_7cf53 {Γ : xG} {l : Launch} (hl : l.stackTraces = false) (x0 : Int32) (x1 : Int32) (w0 : xW) (rF : Int32 ⊕ String) (wF : xW) (hyp : f_J9_min_7cf53 x0 x1 w0 = some (rF, wF)) : xMet Γ l yJ9_min_7cf53 (xws yJ9_min_7cf53 cJ9_min_7cf53 2 (some .int)) 0 xI [.int x0, .int x1] w0 rF wF (x_mc rF) (x_ms rF) := by
  refine xOfW tg_J9_min_7cf53 hl (lv0 := [(0, .int x0), (1, .int x1)]) (Nat.le_of_ble_eq_true rfl) rfl ?_
  intro p e s m below meth c G hno hin
  rw [f_J9_min_7cf53] at hyp
  refine r_iload_n G 0 dJ9_min_7cf53_0 rfl rfl ?_
  refine r_iload_n G 1 dJ9_min_7cf53_1 rfl rfl ?_
  refine r_icmp_gt G 9 dJ9_min_7cf53_2 (by decide) hyp (fun c1 hyp => ?_) (fun c1 hyp => ?_)
  · refine r_iload_n G 1 dJ9_min_7cf53_9 rfl rfl ?_
    exact r_iret G hyp rfl (Nat.zero_le _) (Nat.zero_le _) dJ9_min_7cf53_10
  · refine r_iload_n G 0 dJ9_min_7cf53_5 rfl rfl ?_
    refine r_goto G 10 dJ9_min_7cf53_6 (by decide) ?_
    exact r_iret G hyp rfl (Nat.zero_le _) (Nat.zero_le _) dJ9_min_7cf53_10
theorem tg_X2_commit : xTgt yX2_commit cX2_commit 1 none 0 := ⟨ww_91, ww_51, by decide, by decide +kernel, by decide +kernel⟩
section
variable {Γ : xG} {p : Program} {l : Launch} {e : Env} {s : State} {m : MethodId} {args : Array Value} {below : List Frame} {meth : Method} {c : Code} {rF : Unit ⊕ String} {wF : xW}
end
set_option maxRecDepth 100000 in
set_option maxHeartbeats 4000000 in
theorem ct_X2_commit {Γ : xG} {l : Launch} (hl : l.stackTraces = false) (a0 : Nat) (w0 : xW) (rF : Unit ⊕ String) (wF : xW) (hyp : f_X2_commit a0 w0 = some (rF, wF)) : xMet Γ l yX2_commit (xws yX2_commit cX2_commit 1 none) 1 xV [.ref a0] w0 rF wF (x_mc rF) (x_ms rF) := by
  refine xOfW tg_X2_commit hl (lv0 := [(0, .ref a0)]) (Nat.le_of_ble_eq_true rfl) rfl ?_
  intro p e s m below meth c G hno hin
  rw [f_X2_commit] at hyp
  refine r_aload_n G 0 dX2_commit_0 rfl rfl ?_
  refine r_aload_n G 0 dX2_commit_1 rfl rfl ?_
  obtain ⟨v1, hv1, hyp⟩ := x_some hyp
  refine r_getv (C := RX2) (T := TX2) (N := 3) (ci := 2) G 1 (x_geti_e hv1) rfl uw_2 (Nat.le_of_ble_eq_true rfl) rfl ww_44 dX2_commit_2 ?_
  refine r_iconst (v := 1) G dX2_commit_5 (by decide) ?_
  refine r_iadd G dX2_commit_6 ?_
  refine r_aload_n G 0 dX2_commit_7 rfl rfl ?_
  obtain ⟨v2, hv2, hyp⟩ := x_some hyp
  refine r_getv (C := RX2) (T := TX2) (N := 3) (ci := 2) G 0 (x_getr_e hv2) rfl uw_2 (Nat.le_of_ble_eq_true rfl) rfl ww_43 dX2_commit_8 ?_
  refine r_ref hyp (fun a3 ha3 hz => ?_)
  clear hyp; subst ha3; have hyp := hz; clear hz
  obtain ⟨v4, hv4, hyp⟩ := x_some hyp
  refine r_len G hv4 dX2_commit_11 ?_
  refine r_icmp_ge G 24 dX2_commit_12 (by decide) hyp (fun c5 hyp => ?_) (fun c5 hyp => ?_)
  · refine r_iconst (v := 0) G dX2_commit_24 (by decide) ?_
    obtain ⟨w6, hw6, hyp⟩ := x_some hyp
    refine r_putv (C := RX2) (T := TX2) (N := 3) (ci := 2) G tyX2 tyX2_ok nmX2 1 hw6 rfl uw_2 (Nat.le_of_ble_eq_true rfl) rfl ww_44 rfl rfl rfl dX2_commit_25 ?_
    refine r_aload_n G 0 dX2_commit_28 rfl rfl ?_
    refine r_aload_n G 0 dX2_commit_29 rfl rfl ?_
    obtain ⟨v7, hv7, hyp⟩ := x_some hyp
    refine r_getv (C := RX2) (T := TX2) (N := 3) (ci := 2) G 2 (x_geti_e hv7) rfl uw_2 (Nat.le_of_ble_eq_true rfl) rfl ww_45 dX2_commit_30 ?_
    refine r_iconst (v := 1) G dX2_commit_33 (by decide) ?_
    refine r_iadd G dX2_commit_34 ?_
    refine r_bipush (v := 8) G dX2_commit_35 (by decide) ?_
    refine r_callS (ι := xI) (rest := [.ref a0]) (As := [.int (v7 + 1), .int 8]) G hno tg_J9_min_7cf53 (fun r w' h => ct_J9_min_7cf53 (xhl G) _ _ _ r w' h) hyp ww_89 ww_90 (by decide) (by decide) rfl rfl (xroom (Nat.le_of_ble_eq_true rfl)) dX2_commit_37 (push := (fun r9 => [.int r9, .ref a0])) (fun _ => rfl) (fun r9 w8 hyp => ?_)
    obtain ⟨w10, hw10, hyp⟩ := x_some hyp
    refine r_putv (C := RX2) (T := TX2) (N := 3) (ci := 2) G tyX2 tyX2_ok nmX2 2 hw10 rfl uw_2 (Nat.le_of_ble_eq_true rfl) rfl ww_45 rfl rfl rfl dX2_commit_40 ?_
    exact r_vret G hyp (Nat.zero_le _) (Nat.zero_le _) dX2_commit_43
  · refine r_aload_n G 0 dX2_commit_15 rfl rfl ?_
    obtain ⟨v11, hv11, hyp⟩ := x_some hyp
    refine r_getv (C := RX2) (T := TX2) (N := 3) (ci := 2) G 1 (x_geti_e hv11) rfl uw_2 (Nat.le_of_ble_eq_true rfl) rfl ww_44 dX2_commit_16 ?_
    refine r_iconst (v := 1) G dX2_commit_19 (by decide) ?_
    refine r_iadd G dX2_commit_20 ?_
    refine r_goto G 25 dX2_commit_21 (by decide) ?_
    obtain ⟨w12, hw12, hyp⟩ := x_some hyp
    refine r_putv (C := RX2) (T := TX2) (N := 3) (ci := 2) G tyX2 tyX2_ok nmX2 1 hw12 rfl uw_2 (Nat.le_of_ble_eq_true rfl) rfl ww_44 rfl rfl rfl dX2_commit_25 ?_
    refine r_aload_n G 0 dX2_commit_28 rfl rfl ?_
    refine r_aload_n G 0 dX2_commit_29 rfl rfl ?_
    obtain ⟨v13, hv13, hyp⟩ := x_some hyp
    refine r_getv (C := RX2) (T := TX2) (N := 3) (ci := 2) G 2 (x_geti_e hv13) rfl uw_2 (Nat.le_of_ble_eq_true rfl) rfl ww_45 dX2_commit_30 ?_
    refine r_iconst (v := 1) G dX2_commit_33 (by decide) ?_
    refine r_iadd G dX2_commit_34 ?_
    refine r_bipush (v := 8) G dX2_commit_35 (by decide) ?_
    refine r_callS (ι := xI) (rest := [.ref a0]) (As := [.int (v13 + 1), .int 8]) G hno tg_J9_min_7cf53 (fun r w' h => ct_J9_min_7cf53 (xhl G) _ _ _ r w' h) hyp ww_89 ww_90 (by decide) (by decide) rfl rfl (xroom (Nat.le_of_ble_eq_true rfl)) dX2_commit_37 (push := (fun r15 => [.int r15, .ref a0])) (fun _ => rfl) (fun r15 w14 hyp => ?_)
    obtain ⟨w16, hw16, hyp⟩ := x_some hyp
    refine r_putv (C := RX2) (T := TX2) (N := 3) (ci := 2) G tyX2 tyX2_ok nmX2 2 hw16 rfl uw_2 (Nat.le_of_ble_eq_true rfl) rfl ww_45 rfl rfl rfl dX2_commit_40 ?_
    exact r_vret G hyp (Nat.zero_le _) (Nat.zero_le _) dX2_commit_43
theorem tg_X2_nextSlot : xTgt yX2_nextSlot cX2_nextSlot 1 (some (.object "ShadowWall$Layers")) 0 := ⟨ww_92, ww_51, by decide, by decide +kernel, by decide +kernel⟩
section
variable {Γ : xG} {p : Program} {l : Launch} {e : Env} {s : State} {m : MethodId} {args : Array Value} {below : List Frame} {meth : Method} {c : Code} {rF : Option Nat ⊕ String} {wF : xW}
end
set_option maxRecDepth 100000 in
set_option maxHeartbeats 4000000 in
theorem ct_X2_nextSlot {Γ : xG} {l : Launch} (hl : l.stackTraces = false) (a0 : Nat) (w0 : xW) (rF : Option Nat ⊕ String) (wF : xW) (hyp : f_X2_nextSlot a0 w0 = some (rF, wF)) : xMet Γ l yX2_nextSlot (xws yX2_nextSlot cX2_nextSlot 1 (some (.object "ShadowWall$Layers"))) 0 xQ [.ref a0] w0 rF wF (x_mc rF) (x_ms rF) := by
  refine xOfW tg_X2_nextSlot hl (lv0 := [(0, .ref a0)]) (Nat.le_of_ble_eq_true rfl) rfl ?_
  intro p e s m below meth c G hno hin
  rw [f_X2_nextSlot] at hyp
  refine r_aload_n G 0 dX2_nextSlot_0 rfl rfl ?_
  obtain ⟨v1, hv1, hyp⟩ := x_some hyp
  refine r_getv (C := RX2) (T := TX2) (N := 3) (ci := 2) G 1 (x_geti_e hv1) rfl uw_2 (Nat.le_of_ble_eq_true rfl) rfl ww_44 dX2_nextSlot_1 ?_
  refine r_if_lt G 31 dX2_nextSlot_4 (by decide) hyp (fun c2 hyp => ?_) (fun c2 hyp => ?_)
  · refine r_aconst_null G dX2_nextSlot_31 ?_
    exact r_aret (v := none) G hyp (Nat.zero_le _) (Nat.zero_le _) dX2_nextSlot_32
  · refine r_aload_n G 0 dX2_nextSlot_7 rfl rfl ?_
    obtain ⟨v3, hv3, hyp⟩ := x_some hyp
    refine r_getv (C := RX2) (T := TX2) (N := 3) (ci := 2) G 1 (x_geti_e hv3) rfl uw_2 (Nat.le_of_ble_eq_true rfl) rfl ww_44 dX2_nextSlot_8 ?_
    refine r_aload_n G 0 dX2_nextSlot_11 rfl rfl ?_
    obtain ⟨v4, hv4, hyp⟩ := x_some hyp
    refine r_getv (C := RX2) (T := TX2) (N := 3) (ci := 2) G 0 (x_getr_e hv4) rfl uw_2 (Nat.le_of_ble_eq_true rfl) rfl ww_43 dX2_nextSlot_12 ?_
    refine r_ref hyp (fun a5 ha5 hz => ?_)
    clear hyp; subst ha5; have hyp := hz; clear hz
    obtain ⟨v6, hv6, hyp⟩ := x_some hyp
    refine r_len G hv6 dX2_nextSlot_15 ?_
    refine r_icmp_ge G 31 dX2_nextSlot_16 (by decide) hyp (fun c7 hyp => ?_) (fun c7 hyp => ?_)
    · refine r_aconst_null G dX2_nextSlot_31 ?_
      exact r_aret (v := none) G hyp (Nat.zero_le _) (Nat.zero_le _) dX2_nextSlot_32
    · refine r_aload_n G 0 dX2_nextSlot_19 rfl rfl ?_
      obtain ⟨v8, hv8, hyp⟩ := x_some hyp
      refine r_getv (C := RX2) (T := TX2) (N := 3) (ci := 2) G 0 (x_getr_e hv8) rfl uw_2 (Nat.le_of_ble_eq_true rfl) rfl ww_43 dX2_nextSlot_20 ?_
      refine r_aload_n G 0 dX2_nextSlot_23 rfl rfl ?_
      obtain ⟨v9, hv9, hyp⟩ := x_some hyp
      refine r_getv (C := RX2) (T := TX2) (N := 3) (ci := 2) G 1 (x_geti_e hv9) rfl uw_2 (Nat.le_of_ble_eq_true rfl) rfl ww_44 dX2_nextSlot_24 ?_
      refine r_ref hyp (fun a10 ha10 hz => ?_)
      clear hyp; subst ha10; have hyp := hz; clear hz
      obtain ⟨v11, hv11, hyp⟩ := x_some hyp
      refine r_aald G 4 rfl (by decide) hv11 dX2_nextSlot_27 ?_
      refine r_goto G 32 dX2_nextSlot_28 (by decide) ?_
      exact r_aret (v := v11) G hyp (Nat.zero_le _) (Nat.zero_le _) dX2_nextSlot_32
theorem tg_X3_copyFrom : xTgt yX3_copyFrom cX3_copyFrom 2 none 1 := ⟨ww_97, ww_28, by decide, by decide +kernel, by decide +kernel⟩
section
variable {Γ : xG} {p : Program} {l : Launch} {e : Env} {s : State} {m : MethodId} {args : Array Value} {below : List Frame} {meth : Method} {c : Code} {rF : Unit ⊕ String} {wF : xW}
end
set_option maxRecDepth 100000 in
set_option maxHeartbeats 4000000 in
theorem ct_X3_copyFrom {Γ : xG} {l : Launch} (hl : l.stackTraces = false) (a0 : Nat) (x1 : Option Nat) (w0 : xW) (rF : Unit ⊕ String) (wF : xW) (hyp : f_X3_copyFrom a0 x1 w0 = some (rF, wF)) : xMet Γ l yX3_copyFrom (xws yX3_copyFrom cX3_copyFrom 2 none) 1 xV [.ref a0, va_rf x1] w0 rF wF (x_mc rF) (x_ms rF) := by
  refine xOfW tg_X3_copyFrom hl (lv0 := [(0, .ref a0), (1, va_rf x1)]) (by cases x1 <;> exact Nat.le_of_ble_eq_true rfl) (by cases x1 <;> rfl) ?_
  intro p e s m below meth c G hno hin
  rw [f_X3_copyFrom] at hyp
  refine r_aload_n G 0 dX3_copyFrom_0 rfl rfl ?_
  refine r_aload_nq G 1 dX3_copyFrom_1 rfl rfl ?_
  refine r_ref hyp (fun a1 ha1 hz => ?_)
  clear hyp; subst ha1; have hyp := hz; clear hz
  obtain ⟨v2, hv2, hyp⟩ := x_some hyp
  refine r_getv (C := RX3) (T := TX3) (N := 3) (ci := 3) G 0 (x_geti_e hv2) rfl uw_3 (Nat.le_of_ble_eq_true rfl) rfl ww_24 dX3_copyFrom_2 ?_
  obtain ⟨h3, hyp⟩ := x_chk hyp
  obtain ⟨w4, hw4, hyp⟩ := x_some hyp
  refine r_putv (C := RX3) (T := TX3) (N := 3) (ci := 3) G tyX3 tyX3_ok nmX3 0 hw4 rfl uw_3 (Nat.le_of_ble_eq_true rfl) rfl ww_24 rfl (xnc h3).1 (xnc h3).2 dX3_copyFrom_5 ?_
  refine r_aload_n G 0 dX3_copyFrom_8 rfl rfl ?_
  refine r_aload_n G 1 dX3_copyFrom_9 rfl rfl ?_
  obtain ⟨v5, hv5, hyp⟩ := x_some hyp
  refine r_getv (C := RX3) (T := TX3) (N := 3) (ci := 3) G 1 (x_geti_e hv5) rfl uw_3 (Nat.le_of_ble_eq_true rfl) rfl ww_25 dX3_copyFrom_10 ?_
  obtain ⟨h6, hyp⟩ := x_chk hyp
  obtain ⟨w7, hw7, hyp⟩ := x_some hyp
  refine r_putv (C := RX3) (T := TX3) (N := 3) (ci := 3) G tyX3 tyX3_ok nmX3 1 hw7 rfl uw_3 (Nat.le_of_ble_eq_true rfl) rfl ww_25 rfl (xnz h6).1 (xnz h6).2 dX3_copyFrom_13 ?_
  refine r_aload_n G 1 dX3_copyFrom_16 rfl rfl ?_
  obtain ⟨v8, hv8, hyp⟩ := x_some hyp
  refine r_getv (C := RX3) (T := TX3) (N := 3) (ci := 3) G 2 (x_getr_e hv8) rfl uw_3 (Nat.le_of_ble_eq_true rfl) rfl ww_26 dX3_copyFrom_17 ?_
  refine r_iconst (v := 0) G dX3_copyFrom_20 (by decide) ?_
  refine r_aload_n G 0 dX3_copyFrom_21 rfl rfl ?_
  obtain ⟨v9, hv9, hyp⟩ := x_some hyp
  refine r_getv (C := RX3) (T := TX3) (N := 3) (ci := 3) G 2 (x_getr_e hv9) rfl uw_3 (Nat.le_of_ble_eq_true rfl) rfl ww_26 dX3_copyFrom_22 ?_
  refine r_iconst (v := 0) G dX3_copyFrom_25 (by decide) ?_
  refine r_bipush (v := 48) G dX3_copyFrom_26 (by decide) ?_
  refine r_ref hyp (fun a10 ha10 hz => ?_)
  clear hyp; subst ha10; have hyp := hz; clear hz
  refine r_ref hyp (fun a11 ha11 hz => ?_)
  clear hyp; subst ha11; have hyp := hz; clear hz
  obtain ⟨w12, hw12, hyp⟩ := x_some hyp
  refine r_copy G hw12 ww_93 ww_94 ww_95 ww_96 (Nat.le_of_ble_eq_true rfl) (by first | exact Nat.le_of_ble_eq_true rfl | decide) dX3_copyFrom_28 ?_
  exact r_vret G hyp (Nat.zero_le _) (Nat.zero_le _) dX3_copyFrom_31
theorem tg_X4_at : xTgt yX4_at cX4_at 2 (some (.object "ShadowWall$Layer")) 1 := ⟨ww_98, ww_40, by decide, by decide +kernel, by decide +kernel⟩
section
variable {Γ : xG} {p : Program} {l : Launch} {e : Env} {s : State} {m : MethodId} {args : Array Value} {below : List Frame} {meth : Method} {c : Code} {rF : Option Nat ⊕ String} {wF : xW}
end
set_option maxRecDepth 100000 in
set_option maxHeartbeats 4000000 in
theorem ct_X4_at {Γ : xG} {l : Launch} (hl : l.stackTraces = false) (a0 : Nat) (x1 : Int32) (w0 : xW) (rF : Option Nat ⊕ String) (wF : xW) (hyp : f_X4_at a0 x1 w0 = some (rF, wF)) : xMet Γ l yX4_at (xws yX4_at cX4_at 2 (some (.object "ShadowWall$Layer"))) 0 xQ [.ref a0, .int x1] w0 rF wF (x_mc rF) (x_ms rF) := by
  refine xOfW tg_X4_at hl (lv0 := [(0, .ref a0), (1, .int x1)]) (Nat.le_of_ble_eq_true rfl) rfl ?_
  intro p e s m below meth c G hno hin
  rw [f_X4_at] at hyp
  refine r_iload_n G 1 dX4_at_0 rfl rfl ?_
  refine r_if_lt G 30 dX4_at_1 (by decide) hyp (fun c1 hyp => ?_) (fun c1 hyp => ?_)
  · refine r_aconst_null G dX4_at_30 ?_
    exact r_aret (v := none) G hyp (Nat.zero_le _) (Nat.zero_le _) dX4_at_31
  · refine r_iload_n G 1 dX4_at_4 rfl rfl ?_
    refine r_aload_n G 0 dX4_at_5 rfl rfl ?_
    obtain ⟨v2, hv2, hyp⟩ := x_some hyp
    refine r_getv (C := RX4) (T := TX4) (N := 4) (ci := 4) G 1 (x_geti_e hv2) rfl uw_4 (Nat.le_of_ble_eq_true rfl) rfl ww_32 dX4_at_6 ?_
    refine r_icmp_ge G 30 dX4_at_9 (by decide) hyp (fun c3 hyp => ?_) (fun c3 hyp => ?_)
    · refine r_aconst_null G dX4_at_30 ?_
      exact r_aret (v := none) G hyp (Nat.zero_le _) (Nat.zero_le _) dX4_at_31
    · refine r_iload_n G 1 dX4_at_12 rfl rfl ?_
      refine r_aload_n G 0 dX4_at_13 rfl rfl ?_
      obtain ⟨v4, hv4, hyp⟩ := x_some hyp
      refine r_getv (C := RX4) (T := TX4) (N := 4) (ci := 4) G 0 (x_getr_e hv4) rfl uw_4 (Nat.le_of_ble_eq_true rfl) rfl ww_31 dX4_at_14 ?_
      refine r_ref hyp (fun a5 ha5 hz => ?_)
      clear hyp; subst ha5; have hyp := hz; clear hz
      obtain ⟨v6, hv6, hyp⟩ := x_some hyp
      refine r_len G hv6 dX4_at_17 ?_
      refine r_icmp_ge G 30 dX4_at_18 (by decide) hyp (fun c7 hyp => ?_) (fun c7 hyp => ?_)
      · refine r_aconst_null G dX4_at_30 ?_
        exact r_aret (v := none) G hyp (Nat.zero_le _) (Nat.zero_le _) dX4_at_31
      · refine r_aload_n G 0 dX4_at_21 rfl rfl ?_
        obtain ⟨v8, hv8, hyp⟩ := x_some hyp
        refine r_getv (C := RX4) (T := TX4) (N := 4) (ci := 4) G 0 (x_getr_e hv8) rfl uw_4 (Nat.le_of_ble_eq_true rfl) rfl ww_31 dX4_at_22 ?_
        refine r_iload_n G 1 dX4_at_25 rfl rfl ?_
        refine r_ref hyp (fun a9 ha9 hz => ?_)
        clear hyp; subst ha9; have hyp := hz; clear hz
        obtain ⟨v10, hv10, hyp⟩ := x_some hyp
        refine r_aald G 3 rfl (by decide) hv10 dX4_at_26 ?_
        refine r_goto G 31 dX4_at_27 (by decide) ?_
        exact r_aret (v := v10) G hyp (Nat.zero_le _) (Nat.zero_le _) dX4_at_31
theorem tg_X4_copyFrom : xTgt yX4_copyFrom cX4_copyFrom 5 none 1 := ⟨ww_105, ww_40, by decide, by decide +kernel, by decide +kernel⟩
section
variable {Γ : xG} {p : Program} {l : Launch} {e : Env} {s : State} {m : MethodId} {args : Array Value} {below : List Frame} {meth : Method} {c : Code} {rF : Unit ⊕ String} {wF : xW}
set_option maxRecDepth 100000 in
set_option maxHeartbeats 4000000 in
theorem nd_X4_copyFrom_L26 (G : xCx Γ p l s m args meth c RX4 cX4_copyFrom 5 none) (hno : ∀ x ∈ c.exceptionTable.toList, False) : ∀ (n : Nat) (a0 : Nat) (x1 : Option Nat) (x2 : Int32) (w0 : xW), f_X4_copyFrom_L26 n a0 x1 x2 w0 = some (rF, wF) → xAW Γ p l e (xRm 2 (x_mc rF) (x_ms rF)) s m args below meth c 5 (xQm Γ below xV rF wF args s (x_mc rF) (x_ms rF)) w0 0 0 26 [(0, .ref a0), (1, va_rf x1), (2, .int x2)] [] := by
  intro n
  induction n with
  | zero =>
    intro a0 x1 x2 w0 hyp
    cases (show (none : xO Unit) = some (rF, wF) from hyp)
  | succ n ih =>
    intro a0 x1 x2 w0 hyp
    rw [f_X4_copyFrom_L26] at hyp
    refine r_iload_n G 2 dX4_copyFrom_26 rfl rfl ?_
    refine r_aload_n G 0 dX4_copyFrom_27 rfl rfl ?_
    obtain ⟨v8, hv8, hyp⟩ := x_some hyp
    refine r_getv (C := RX4) (T := TX4) (N := 4) (ci := 4) G 1 (x_geti_e hv8) rfl uw_4 (Nat.le_of_ble_eq_true rfl) rfl ww_32 dX4_copyFrom_28 ?_
    refine r_icmp_ge G 68 dX4_copyFrom_31 (by decide) hyp (fun c9 hyp => ?_) (fun c9 hyp => ?_)
    · exact r_vret G hyp (Nat.zero_le _) (Nat.zero_le _) dX4_copyFrom_68
    · refine r_aload_n G 0 dX4_copyFrom_34 rfl rfl ?_
      refine r_iload_n G 2 dX4_copyFrom_35 rfl rfl ?_
      obtain ⟨o12, hyp⟩ := x_chk hyp
      refine r_callV (ι := xQ) (T := TX4) (N := 4) (ci := 4) (b := a0) (rest := []) (As := [.int x2]) G hno tg_X4_at (fun r w' h => ct_X4_at (xhl G) _ _ _ r w' h) o12 hyp rfl ww_99 ww_101 ww_100 (by decide) (by decide) rfl rfl (xroom (Nat.le_of_ble_eq_true rfl)) dX4_copyFrom_36 (push := (fun r11 => [va_rf r11])) (fun _ => rfl) (fun r11 w10 hyp => ?_)
      refine r_astore_nq (lv' := [(3, va_rf r11), (0, .ref a0), (1, va_rf x1), (2, .int x2)]) G dX4_copyFrom_39 rfl (by decide) ⟨fun _ => rfl, fun _ => xcq _, fun _ => rfl, trivial⟩ rfl ?_
      refine r_aload_nq G 2 dX4_copyFrom_40 rfl rfl ?_
      refine r_iload_n G 3 dX4_copyFrom_41 rfl rfl ?_
      refine r_ref hyp (fun a13 ha13 hz => ?_)
      clear hyp; subst ha13; have hyp := hz; clear hz
      obtain ⟨o16, hyp⟩ := x_chk hyp
      refine r_callV (ι := xQ) (T := TX4) (N := 4) (ci := 4) (b := a13) (rest := []) (As := [.int x2]) G hno tg_X4_at (fun r w' h => ct_X4_at (xhl G) _ _ _ r w' h) o16 hyp rfl ww_99 ww_101 ww_100 (by decide) (by decide) rfl rfl (xroom (Nat.le_of_ble_eq_true rfl)) dX4_copyFrom_42 (push := (fun r15 => [va_rf r15])) (fun _ => rfl) (fun r15 w14 hyp => ?_)
      refine r_astoreq (lv' := [(4, va_rf r15), (3, va_rf r11), (0, .ref a0), (1, .ref a13), (2, .int x2)]) G dX4_copyFrom_45 (by decide) ⟨fun _ => xcq _, fun _ => rfl, fun _ => rfl, fun _ => rfl, trivial⟩ rfl ?_
      refine r_aload_nq G 1 dX4_copyFrom_47 rfl rfl ?_
      refine r_ifnull G 62 dX4_copyFrom_48 (by decide) hyp (fun hyp => ?_) (fun a17 ha17 hz => ?_)
      · refine r_iinc (v := (x2 + 1)) (lv' := [(2, .int (x2 + 1)), (4, va_rf r15), (3, va_rf r11), (0, .ref a0), (1, .ref a13)]) G 4 dX4_copyFrom_62 rfl rfl (by decide) ⟨fun _ => xcq _, fun _ => xcq _, fun _ => rfl, fun _ => rfl, fun _ => rfl, trivial⟩ rfl ?_
        refine r_goto G 26 dX4_copyFrom_65 (by decide) ?_
        refine r_weak (lv' := [(0, .ref a0), (1, .ref a13), (2, .int (x2 + 1))]) [3, 4, 0] rfl ?_
        exact ih a0 (some a13) (x2 + 1) w14 hyp
      · clear hyp; subst ha17; have hyp := hz; clear hz
        refine r_aloadq G 0 dX4_copyFrom_51 rfl ?_
        refine r_ifnull G 62 dX4_copyFrom_53 (by decide) hyp (fun hyp => ?_) (fun a18 ha18 hz => ?_)
        · refine r_iinc (v := (x2 + 1)) (lv' := [(2, .int (x2 + 1)), (4, va_rf r15), (3, .ref a17), (0, .ref a0), (1, .ref a13)]) G 4 dX4_copyFrom_62 rfl rfl (by decide) ⟨fun _ => xcq _, fun _ => rfl, fun _ => rfl, fun _ => rfl, fun _ => rfl, trivial⟩ rfl ?_
          refine r_goto G 26 dX4_copyFrom_65 (by decide) ?_
          refine r_weak (lv' := [(0, .ref a0), (1, .ref a13), (2, .int (x2 + 1))]) [3, 4, 0] rfl ?_
          exact ih a0 (some a13) (x2 + 1) w14 hyp
        · clear hyp; subst ha18; have hyp := hz; clear hz
          refine r_aload_n G 1 dX4_copyFrom_56 rfl rfl ?_
          refine r_aload G 0 dX4_copyFrom_57 rfl ?_
          obtain ⟨o21, hyp⟩ := x_chk hyp
          refine r_callV (ι := xV) (T := TX3) (N := 3) (ci := 3) (b := a17) (rest := []) (As := [va_rf (some a18)]) G hno tg_X3_copyFrom (fun r w' h => ct_X3_copyFrom (xhl G) _ _ _ r w' h) o21 hyp rfl ww_102 ww_104 ww_103 (by decide) (by decide) rfl rfl (xroom (Nat.le_of_ble_eq_true rfl)) dX4_copyFrom_59 (push := (fun _ => [])) (fun _ => rfl) (fun _ w19 hyp => ?_)
          refine r_iinc (v := (x2 + 1)) (lv' := [(2, .int (x2 + 1)), (4, .ref a18), (3, .ref a17), (0, .ref a0), (1, .ref a13)]) G 4 dX4_copyFrom_62 rfl rfl (by decide) ⟨fun _ => rfl, fun _ => rfl, fun _ => rfl, fun _ => rfl, fun _ => rfl, trivial⟩ rfl ?_
          refine r_goto G 26 dX4_copyFrom_65 (by decide) ?_
          refine r_weak (lv' := [(0, .ref a0), (1, .ref a13), (2, .int (x2 + 1))]) [3, 4, 0] rfl ?_
          exact ih a0 (some a13) (x2 + 1) w19 hyp
end
set_option maxRecDepth 100000 in
set_option maxHeartbeats 4000000 in
theorem ct_X4_copyFrom {Γ : xG} {l : Launch} (hl : l.stackTraces = false) (a0 : Nat) (x1 : Option Nat) (w0 : xW) (rF : Unit ⊕ String) (wF : xW) (hyp : f_X4_copyFrom a0 x1 w0 = some (rF, wF)) : xMet Γ l yX4_copyFrom (xws yX4_copyFrom cX4_copyFrom 5 none) 2 xV [.ref a0, va_rf x1] w0 rF wF (x_mc rF) (x_ms rF) := by
  refine xOfW tg_X4_copyFrom hl (lv0 := [(0, .ref a0), (1, va_rf x1)]) (by cases x1 <;> exact Nat.le_of_ble_eq_true rfl) (by cases x1 <;> rfl) ?_
  intro p e s m below meth c G hno hin
  rw [f_X4_copyFrom] at hyp
  refine r_aload_n G 0 dX4_copyFrom_0 rfl rfl ?_
  refine r_aload_nq G 1 dX4_copyFrom_1 rfl rfl ?_
  refine r_ref hyp (fun a1 ha1 hz => ?_)
  clear hyp; subst ha1; have hyp := hz; clear hz
  obtain ⟨v2, hv2, hyp⟩ := x_some hyp
  refine r_getv (C := RX4) (T := TX4) (N := 4) (ci := 4) G 1 (x_geti_e hv2) rfl uw_4 (Nat.le_of_ble_eq_true rfl) rfl ww_32 dX4_copyFrom_2 ?_
  obtain ⟨w3, hw3, hyp⟩ := x_some hyp
  refine r_putv (C := RX4) (T := TX4) (N := 4) (ci := 4) G tyX4 tyX4_ok nmX4 1 hw3 rfl uw_4 (Nat.le_of_ble_eq_true rfl) rfl ww_32 rfl rfl rfl dX4_copyFrom_5 ?_
  refine r_aload_n G 0 dX4_copyFrom_8 rfl rfl ?_
  refine r_aload_n G 1 dX4_copyFrom_9 rfl rfl ?_
  obtain ⟨v4, hv4, hyp⟩ := x_some hyp
  refine r_getv (C := RX4) (T := TX4) (N := 4) (ci := 4) G 2 (x_geti_e hv4) rfl uw_4 (Nat.le_of_ble_eq_true rfl) rfl ww_33 dX4_copyFrom_10 ?_
  obtain ⟨w5, hw5, hyp⟩ := x_some hyp
  refine r_putv (C := RX4) (T := TX4) (N := 4) (ci := 4) G tyX4 tyX4_ok nmX4 2 hw5 rfl uw_4 (Nat.le_of_ble_eq_true rfl) rfl ww_33 rfl rfl rfl dX4_copyFrom_13 ?_
  refine r_aload_n G 0 dX4_copyFrom_16 rfl rfl ?_
  refine r_aload_n G 1 dX4_copyFrom_17 rfl rfl ?_
  obtain ⟨v6, hv6, hyp⟩ := x_some hyp
  refine r_getv (C := RX4) (T := TX4) (N := 4) (ci := 4) G 3 (x_geti_e hv6) rfl uw_4 (Nat.le_of_ble_eq_true rfl) rfl ww_34 dX4_copyFrom_18 ?_
  obtain ⟨w7, hw7, hyp⟩ := x_some hyp
  refine r_putv (C := RX4) (T := TX4) (N := 4) (ci := 4) G tyX4 tyX4_ok nmX4 3 hw7 rfl uw_4 (Nat.le_of_ble_eq_true rfl) rfl ww_34 rfl rfl rfl dX4_copyFrom_21 ?_
  refine r_iconst (v := 0) G dX4_copyFrom_24 (by decide) ?_
  refine r_istore_n (lv' := [(2, .int 0), (0, .ref a0), (1, .ref a1)]) G dX4_copyFrom_25 rfl (by decide) ⟨fun _ => rfl, fun _ => rfl, trivial⟩ rfl ?_
  refine r_weak (lv' := [(0, .ref a0), (1, .ref a1), (2, .int 0)]) [1, 2, 0] rfl ?_
  exact nd_X4_copyFrom_L26 G hno xfuel a0 (some a1) 0 w7 hyp
theorem tg_X2_prepare : xTgt yX2_prepare cX2_prepare 3 none 1 := ⟨ww_112, ww_51, by decide, by decide +kernel, by decide +kernel⟩
section
variable {Γ : xG} {p : Program} {l : Launch} {e : Env} {s : State} {m : MethodId} {args : Array Value} {below : List Frame} {meth : Method} {c : Code} {rF : Unit ⊕ String} {wF : xW}
end
set_option maxRecDepth 100000 in
set_option maxHeartbeats 4000000 in
theorem ct_X2_prepare {Γ : xG} {l : Launch} (hl : l.stackTraces = false) (a0 : Nat) (x1 : Option Nat) (w0 : xW) (rF : Unit ⊕ String) (wF : xW) (hyp : f_X2_prepare a0 x1 w0 = some (rF, wF)) : xMet Γ l yX2_prepare (xws yX2_prepare cX2_prepare 3 none) 3 xV [.ref a0, va_rf x1] w0 rF wF (x_mc rF) (x_ms rF) := by
  refine xOfW tg_X2_prepare hl (lv0 := [(0, .ref a0), (1, va_rf x1)]) (by cases x1 <;> exact Nat.le_of_ble_eq_true rfl) (by cases x1 <;> rfl) ?_
  intro p e s m below meth c G hno hin
  rw [f_X2_prepare] at hyp
  refine r_aload_n G 0 dX2_prepare_0 rfl rfl ?_
  obtain ⟨o3, hyp⟩ := x_chk hyp
  refine r_callV (ι := xQ) (T := TX2) (N := 3) (ci := 2) (b := a0) (rest := []) (As := []) G hno tg_X2_nextSlot (fun r w' h => ct_X2_nextSlot (xhl G) _ _ r w' h) o3 hyp rfl ww_106 ww_108 ww_107 (by decide) (by decide) rfl rfl (xroom (Nat.le_of_ble_eq_true rfl)) dX2_prepare_1 (push := (fun r2 => [va_rf r2])) (fun _ => rfl) (fun r2 w1 hyp => ?_)
  refine r_astore_nq (lv' := [(2, va_rf r2), (0, .ref a0), (1, va_rf x1)]) G dX2_prepare_4 rfl (by decide) ⟨fun _ => rfl, fun _ => xcq _, trivial⟩ rfl ?_
  refine r_aload_nq G 0 dX2_prepare_5 rfl rfl ?_
  refine r_ifnull G 14 dX2_prepare_6 (by decide) hyp (fun hyp => ?_) (fun a4 ha4 hz => ?_)
  · exact r_vret G hyp (Nat.zero_le _) (Nat.zero_le _) dX2_prepare_14
  · clear hyp; subst ha4; have hyp := hz; clear hz
    refine r_aload_n G 0 dX2_prepare_9 rfl rfl ?_
    refine r_aload_nq G 2 dX2_prepare_10 rfl rfl ?_
    obtain ⟨o7, hyp⟩ := x_chk hyp
    refine r_callV (ι := xV) (T := TX4) (N := 4) (ci := 4) (b := a4) (rest := []) (As := [va_rf x1]) G hno tg_X4_copyFrom (fun r w' h => ct_X4_copyFrom (xhl G) _ _ _ r w' h) o7 hyp rfl ww_109 ww_111 ww_110 (by decide) (by decide) rfl rfl (xroom (Nat.le_of_ble_eq_true rfl)) dX2_prepare_11 (push := (fun _ => [])) (fun _ => rfl) (fun _ w5 hyp => ?_)
    exact r_vret G hyp (Nat.zero_le _) (Nat.zero_le _) dX2_prepare_14
theorem tg_X6_isMode : xTgt yX6_isMode cX6_isMode 1 (some .boolean) 1 := ⟨ww_113, ww_86, by decide, by decide +kernel, by decide +kernel⟩
section
variable {Γ : xG} {p : Program} {l : Launch} {e : Env} {s : State} {m : MethodId} {args : Array Value} {below : List Frame} {meth : Method} {c : Code} {rF : Int32 ⊕ String} {wF : xW}
end
set_option maxRecDepth 100000 in
set_option maxHeartbeats 4000000 in
theorem ct_X6_isMode {Γ : xG} {l : Launch} (hl : l.stackTraces = false) (x0 : Int32) (w0 : xW) (rF : Int32 ⊕ String) (wF : xW) (hyp : f_X6_isMode x0 w0 = some (rF, wF)) : xMet Γ l yX6_isMode (xws yX6_isMode cX6_isMode 1 (some .boolean)) 0 xI [.int x0] w0 rF wF (x_mc rF) (x_ms rF) := by
  refine xOfW tg_X6_isMode hl (lv0 := [(0, .int x0)]) (Nat.le_of_ble_eq_true rfl) rfl ?_
  intro p e s m below meth c G hno hin
  rw [f_X6_isMode] at hyp
  refine r_iload_n G 0 dX6_isMode_0 rfl rfl ?_
  refine r_bipush (v := 110) G dX6_isMode_1 (by decide) ?_
  refine r_icmp_eq G 36 dX6_isMode_3 (by decide) hyp (fun c1 hyp => ?_) (fun c1 hyp => ?_)
  · refine r_iconst (v := 1) G dX6_isMode_36 (by decide) ?_
    refine r_goto G 41 dX6_isMode_37 (by decide) ?_
    exact r_iret G hyp (by decide) (Nat.zero_le _) (Nat.zero_le _) dX6_isMode_41
  · refine r_iload_n G 0 dX6_isMode_6 rfl rfl ?_
    refine r_bipush (v := 109) G dX6_isMode_7 (by decide) ?_
    refine r_icmp_eq G 36 dX6_isMode_9 (by decide) hyp (fun c2 hyp => ?_) (fun c2 hyp => ?_)
    · refine r_iconst (v := 1) G dX6_isMode_36 (by decide) ?_
      refine r_goto G 41 dX6_isMode_37 (by decide) ?_
      exact r_iret G hyp (by decide) (Nat.zero_le _) (Nat.zero_le _) dX6_isMode_41
    · refine r_iload_n G 0 dX6_isMode_12 rfl rfl ?_
      refine r_bipush (v := 115) G dX6_isMode_13 (by decide) ?_
      refine r_icmp_eq G 36 dX6_isMode_15 (by decide) hyp (fun c3 hyp => ?_) (fun c3 hyp => ?_)
      · refine r_iconst (v := 1) G dX6_isMode_36 (by decide) ?_
        refine r_goto G 41 dX6_isMode_37 (by decide) ?_
        exact r_iret G hyp (by decide) (Nat.zero_le _) (Nat.zero_le _) dX6_isMode_41
      · refine r_iload_n G 0 dX6_isMode_18 rfl rfl ?_
        refine r_bipush (v := 100) G dX6_isMode_19 (by decide) ?_
        refine r_icmp_eq G 36 dX6_isMode_21 (by decide) hyp (fun c4 hyp => ?_) (fun c4 hyp => ?_)
        · refine r_iconst (v := 1) G dX6_isMode_36 (by decide) ?_
          refine r_goto G 41 dX6_isMode_37 (by decide) ?_
          exact r_iret G hyp (by decide) (Nat.zero_le _) (Nat.zero_le _) dX6_isMode_41
        · refine r_iload_n G 0 dX6_isMode_24 rfl rfl ?_
          refine r_bipush (v := 108) G dX6_isMode_25 (by decide) ?_
          refine r_icmp_eq G 36 dX6_isMode_27 (by decide) hyp (fun c5 hyp => ?_) (fun c5 hyp => ?_)
          · refine r_iconst (v := 1) G dX6_isMode_36 (by decide) ?_
            refine r_goto G 41 dX6_isMode_37 (by decide) ?_
            exact r_iret G hyp (by decide) (Nat.zero_le _) (Nat.zero_le _) dX6_isMode_41
          · refine r_iload_n G 0 dX6_isMode_30 rfl rfl ?_
            refine r_bipush (v := 97) G dX6_isMode_31 (by decide) ?_
            refine r_icmp_ne G 40 dX6_isMode_33 (by decide) hyp (fun c6 hyp => ?_) (fun c6 hyp => ?_)
            · refine r_iconst (v := 0) G dX6_isMode_40 (by decide) ?_
              exact r_iret G hyp (by decide) (Nat.zero_le _) (Nat.zero_le _) dX6_isMode_41
            · refine r_iconst (v := 1) G dX6_isMode_36 (by decide) ?_
              refine r_goto G 41 dX6_isMode_37 (by decide) ?_
              exact r_iret G hyp (by decide) (Nat.zero_le _) (Nat.zero_le _) dX6_isMode_41
theorem tg_J7_fill_53178 : xTgt yJ7_fill_53178 cJ7_fill_53178 4 none 2 := ⟨ww_114, ww_115, by decide, by decide +kernel, by decide +kernel⟩
section
variable {Γ : xG} {p : Program} {l : Launch} {e : Env} {s : State} {m : MethodId} {args : Array Value} {below : List Frame} {meth : Method} {c : Code} {rF : Unit ⊕ String} {wF : xW}
set_option maxRecDepth 100000 in
set_option maxHeartbeats 4000000 in
theorem nd_J7_fill_53178_L5 (G : xCx Γ p l s m args meth c RJ7 cJ7_fill_53178 4 none) (hno : ∀ x ∈ c.exceptionTable.toList, False) : ∀ (n : Nat) (x0 : Option Nat) (x1 : Int32) (x2 : Int32) (x3 : Int32) (w0 : xW), f_J7_fill_53178_L5 n x0 x1 x2 x3 w0 = some (rF, wF) → xAW Γ p l e (xRm 0 (x_mc rF) (x_ms rF)) s m args below meth c 4 (xQm Γ below xV rF wF args s (x_mc rF) (x_ms rF)) w0 0 0 5 [(0, va_rf x0), (1, .int x1), (2, .int x2), (3, .int x3)] [] := by
  intro n
  induction n with
  | zero =>
    intro x0 x1 x2 x3 w0 hyp
    cases (show (none : xO Unit) = some (rF, wF) from hyp)
  | succ n ih =>
    intro x0 x1 x2 x3 w0 hyp
    rw [f_J7_fill_53178_L5] at hyp
    refine r_iload_n G 2 dJ7_fill_53178_5 rfl rfl ?_
    refine r_iload_n G 3 dJ7_fill_53178_6 rfl rfl ?_
    refine r_icmp_ge G 20 dJ7_fill_53178_7 (by decide) hyp (fun c3 hyp => ?_) (fun c3 hyp => ?_)
    · exact r_vret G hyp (Nat.zero_le _) (Nat.zero_le _) dJ7_fill_53178_20
    · refine r_aload_nq G 0 dJ7_fill_53178_10 rfl rfl ?_
      refine r_iload_n G 2 dJ7_fill_53178_11 rfl rfl ?_
      refine r_iload_n G 1 dJ7_fill_53178_12 rfl rfl ?_
      refine r_ref hyp (fun a4 ha4 hz => ?_)
      clear hyp; subst ha4; have hyp := hz; clear hz
      obtain ⟨w5, hw5, hyp⟩ := x_some hyp
      refine r_iast G hw5 dJ7_fill_53178_13 ?_
      refine r_iinc (v := (x2 + 1)) (lv' := [(2, .int (x2 + 1)), (0, .ref a4), (1, .int x1), (3, .int x3)]) G 2 dJ7_fill_53178_14 rfl rfl (by decide) ⟨fun _ => rfl, fun _ => rfl, fun _ => rfl, fun _ => rfl, trivial⟩ rfl ?_
      refine r_goto G 5 dJ7_fill_53178_17 (by decide) ?_
      refine r_weak (lv' := [(0, .ref a4), (1, .int x1), (2, .int (x2 + 1)), (3, .int x3)]) [1, 2, 0, 3] rfl ?_
      exact ih (some a4) x1 (x2 + 1) x3 w5 hyp
end
set_option maxRecDepth 100000 in
set_option maxHeartbeats 4000000 in
theorem ct_J7_fill_53178 {Γ : xG} {l : Launch} (hl : l.stackTraces = false) (x0 : Option Nat) (x1 : Int32) (w0 : xW) (rF : Unit ⊕ String) (wF : xW) (hyp : f_J7_fill_53178 x0 x1 w0 = some (rF, wF)) : xMet Γ l yJ7_fill_53178 (xws yJ7_fill_53178 cJ7_fill_53178 4 none) 0 xV [va_rf x0, .int x1] w0 rF wF (x_mc rF) (x_ms rF) := by
  refine xOfW tg_J7_fill_53178 hl (lv0 := [(0, va_rf x0), (1, .int x1)]) (by cases x0 <;> exact Nat.le_of_ble_eq_true rfl) (by cases x0 <;> rfl) ?_
  intro p e s m below meth c G hno hin
  rw [f_J7_fill_53178] at hyp
  refine r_iconst (v := 0) G dJ7_fill_53178_0 (by decide) ?_
  refine r_istore_n (lv' := [(2, .int 0), (0, va_rf x0), (1, .int x1)]) G dJ7_fill_53178_1 rfl (by decide) ⟨fun _ => xcq _, fun _ => rfl, trivial⟩ rfl ?_
  refine r_aload_nq G 1 dJ7_fill_53178_2 rfl rfl ?_
  refine r_ref hyp (fun a1 ha1 hz => ?_)
  clear hyp; subst ha1; have hyp := hz; clear hz
  obtain ⟨v2, hv2, hyp⟩ := x_some hyp
  refine r_len G hv2 dJ7_fill_53178_3 ?_
  refine r_istore_n (lv' := [(3, .int v2), (2, .int 0), (0, .ref a1), (1, .int x1)]) G dJ7_fill_53178_4 rfl (by decide) ⟨fun _ => rfl, fun _ => rfl, fun _ => rfl, trivial⟩ rfl ?_
  refine r_weak (lv' := [(0, .ref a1), (1, .int x1), (2, .int 0), (3, .int v2)]) [2, 3, 1, 0] rfl ?_
  exact nd_J7_fill_53178_L5 G hno xfuel (some a1) x1 0 v2 w0 hyp
theorem tg_X3_begin : xTgt yX3_begin cX3_begin 2 none 1 := ⟨ww_118, ww_28, by decide, by decide +kernel, by decide +kernel⟩
section
variable {Γ : xG} {p : Program} {l : Launch} {e : Env} {s : State} {m : MethodId} {args : Array Value} {below : List Frame} {meth : Method} {c : Code} {rF : Unit ⊕ String} {wF : xW}
end
set_option maxRecDepth 100000 in
set_option maxHeartbeats 4000000 in
theorem ct_X3_begin {Γ : xG} {l : Launch} (hl : l.stackTraces = false) (a0 : Nat) (x1 : Int32) (w0 : xW) (rF : Unit ⊕ String) (wF : xW) (hyp : f_X3_begin a0 x1 w0 = some (rF, wF)) : xMet Γ l yX3_begin (xws yX3_begin cX3_begin 2 none) 1 xV [.ref a0, .int x1] w0 rF wF (x_mc rF) (x_ms rF) := by
  refine xOfW tg_X3_begin hl (lv0 := [(0, .ref a0), (1, .int x1)]) (Nat.le_of_ble_eq_true rfl) rfl ?_
  intro p e s m below meth c G hno hin
  rw [f_X3_begin] at hyp
  refine r_aload_n G 0 dX3_begin_0 rfl rfl ?_
  refine r_iload_n G 1 dX3_begin_1 rfl rfl ?_
  obtain ⟨h1, hyp⟩ := x_chk hyp
  obtain ⟨w2, hw2, hyp⟩ := x_some hyp
  refine r_putv (C := RX3) (T := TX3) (N := 3) (ci := 3) G tyX3 tyX3_ok nmX3 0 hw2 rfl uw_3 (Nat.le_of_ble_eq_true rfl) rfl ww_24 rfl (xnc h1).1 (xnc h1).2 dX3_begin_2 ?_
  refine r_aload_n G 0 dX3_begin_5 rfl rfl ?_
  refine r_iconst (v := 1) G dX3_begin_6 (by decide) ?_
  obtain ⟨w3, hw3, hyp⟩ := x_some hyp
  refine r_putv (C := RX3) (T := TX3) (N := 3) (ci := 3) G tyX3 tyX3_ok nmX3 1 hw3 rfl uw_3 (Nat.le_of_ble_eq_true rfl) rfl ww_25 rfl (by decide) (by decide) dX3_begin_7 ?_
  refine r_aload_n G 0 dX3_begin_10 rfl rfl ?_
  obtain ⟨v4, hv4, hyp⟩ := x_some hyp
  refine r_getv (C := RX3) (T := TX3) (N := 3) (ci := 3) G 2 (x_getr_e hv4) rfl uw_3 (Nat.le_of_ble_eq_true rfl) rfl ww_26 dX3_begin_11 ?_
  refine r_iconst (v := (-1)) G dX3_begin_14 (by decide) ?_
  refine r_callS (ι := xV) (rest := []) (As := [va_rf v4, .int (-1)]) G hno tg_J7_fill_53178 (fun r w' h => ct_J7_fill_53178 (xhl G) _ _ _ r w' h) hyp ww_116 ww_117 (by decide) (by decide) rfl rfl (xroom (Nat.le_of_ble_eq_true rfl)) dX3_begin_15 (push := (fun _ => [])) (fun _ => rfl) (fun _ w5 hyp => ?_)
  exact r_vret G hyp (Nat.zero_le _) (Nat.zero_le _) dX3_begin_18
theorem tg_X4_beginLayer : xTgt yX4_beginLayer cX4_beginLayer 3 (some (.object "ShadowWall$Layer")) 1 := ⟨ww_122, ww_40, by decide, by decide +kernel, by decide +kernel⟩
section
variable {Γ : xG} {p : Program} {l : Launch} {e : Env} {s : State} {m : MethodId} {args : Array Value} {below : List Frame} {meth : Method} {c : Code} {rF : Option Nat ⊕ String} {wF : xW}
end
set_option maxRecDepth 100000 in
set_option maxHeartbeats 4000000 in
theorem ct_X4_beginLayer {Γ : xG} {l : Launch} (hl : l.stackTraces = false) (a0 : Nat) (x1 : Int32) (w0 : xW) (rF : Option Nat ⊕ String) (wF : xW) (hyp : f_X4_beginLayer a0 x1 w0 = some (rF, wF)) : xMet Γ l yX4_beginLayer (xws yX4_beginLayer cX4_beginLayer 3 (some (.object "ShadowWall$Layer"))) 2 xQ [.ref a0, .int x1] w0 rF wF (x_mc rF) (x_ms rF) := by
  refine xOfW tg_X4_beginLayer hl (lv0 := [(0, .ref a0), (1, .int x1)]) (Nat.le_of_ble_eq_true rfl) rfl ?_
  intro p e s m below meth c G hno hin
  rw [f_X4_beginLayer] at hyp
  refine r_aload_n G 0 dX4_beginLayer_0 rfl rfl ?_
  obtain ⟨v1, hv1, hyp⟩ := x_some hyp
  refine r_getv (C := RX4) (T := TX4) (N := 4) (ci := 4) G 1 (x_geti_e hv1) rfl uw_4 (Nat.le_of_ble_eq_true rfl) rfl ww_32 dX4_beginLayer_1 ?_
  refine r_bipush (v := 6) G dX4_beginLayer_4 (by decide) ?_
  refine r_icmp_lt G 11 dX4_beginLayer_6 (by decide) hyp (fun c2 hyp => ?_) (fun c2 hyp => ?_)
  · refine r_aload_n G 0 dX4_beginLayer_11 rfl rfl ?_
    refine r_dup G dX4_beginLayer_12 rfl ?_
    obtain ⟨v3, hv3, hyp⟩ := x_some hyp
    refine r_getv (C := RX4) (T := TX4) (N := 4) (ci := 4) G 1 (x_geti_e hv3) rfl uw_4 (Nat.le_of_ble_eq_true rfl) rfl ww_32 dX4_beginLayer_13 ?_
    refine r_iconst (v := 1) G dX4_beginLayer_16 (by decide) ?_
    refine r_iadd G dX4_beginLayer_17 ?_
    obtain ⟨w4, hw4, hyp⟩ := x_some hyp
    refine r_putv (C := RX4) (T := TX4) (N := 4) (ci := 4) G tyX4 tyX4_ok nmX4 1 hw4 rfl uw_4 (Nat.le_of_ble_eq_true rfl) rfl ww_32 rfl rfl rfl dX4_beginLayer_18 ?_
    refine r_aload_n G 0 dX4_beginLayer_21 rfl rfl ?_
    refine r_aload_n G 0 dX4_beginLayer_22 rfl rfl ?_
    obtain ⟨v5, hv5, hyp⟩ := x_some hyp
    refine r_getv (C := RX4) (T := TX4) (N := 4) (ci := 4) G 1 (x_geti_e hv5) rfl uw_4 (Nat.le_of_ble_eq_true rfl) rfl ww_32 dX4_beginLayer_23 ?_
    refine r_iconst (v := 1) G dX4_beginLayer_26 (by decide) ?_
    refine r_isub G dX4_beginLayer_27 ?_
    obtain ⟨o8, hyp⟩ := x_chk hyp
    refine r_callV (ι := xQ) (T := TX4) (N := 4) (ci := 4) (b := a0) (rest := []) (As := [.int (v5 - 1)]) G hno tg_X4_at (fun r w' h => ct_X4_at (xhl G) _ _ _ r w' h) o8 hyp rfl ww_99 ww_101 ww_100 (by decide) (by decide) rfl rfl (xroom (Nat.le_of_ble_eq_true rfl)) dX4_beginLayer_28 (push := (fun r7 => [va_rf r7])) (fun _ => rfl) (fun r7 w6 hyp => ?_)
    refine r_astore_nq (lv' := [(2, va_rf r7), (0, .ref a0), (1, .int x1)]) G dX4_beginLayer_31 rfl (by decide) ⟨fun _ => rfl, fun _ => rfl, trivial⟩ rfl ?_
    refine r_aload_nq G 0 dX4_beginLayer_32 rfl rfl ?_
    refine r_ifnull G 41 dX4_beginLayer_33 (by decide) hyp (fun hyp => ?_) (fun a9 ha9 hz => ?_)
    · refine r_aload_nq G 0 dX4_beginLayer_41 rfl rfl ?_
      exact r_aret (v := r7) G hyp (Nat.zero_le _) (Nat.zero_le _) dX4_beginLayer_42
    · clear hyp; subst ha9; have hyp := hz; clear hz
      refine r_aload_n G 0 dX4_beginLayer_36 rfl rfl ?_
      refine r_iload_n G 2 dX4_beginLayer_37 rfl rfl ?_
      obtain ⟨o12, hyp⟩ := x_chk hyp
      refine r_callV (ι := xV) (T := TX3) (N := 3) (ci := 3) (b := a9) (rest := []) (As := [.int x1]) G hno tg_X3_begin (fun r w' h => ct_X3_begin (xhl G) _ _ _ r w' h) o12 hyp rfl ww_119 ww_121 ww_120 (by decide) (by decide) rfl rfl (xroom (Nat.le_of_ble_eq_true rfl)) dX4_beginLayer_38 (push := (fun _ => [])) (fun _ => rfl) (fun _ w10 hyp => ?_)
      refine r_aload_n G 0 dX4_beginLayer_41 rfl rfl ?_
      exact r_aret (v := (some a9)) G hyp (Nat.zero_le _) (Nat.zero_le _) dX4_beginLayer_42
  · refine r_aconst_null G dX4_beginLayer_9 ?_
    exact r_aret (v := none) G hyp (Nat.zero_le _) (Nat.zero_le _) dX4_beginLayer_10
theorem tg_X4_addOnTop : xTgt yX4_addOnTop cX4_addOnTop 2 (some .int) 1 := ⟨ww_128, ww_40, by decide, by decide +kernel, by decide +kernel⟩
section
variable {Γ : xG} {p : Program} {l : Launch} {e : Env} {s : State} {m : MethodId} {args : Array Value} {below : List Frame} {meth : Method} {c : Code} {rF : Int32 ⊕ String} {wF : xW}
end
set_option maxRecDepth 100000 in
set_option maxHeartbeats 4000000 in
theorem ct_X4_addOnTop {Γ : xG} {l : Launch} (hl : l.stackTraces = false) (a0 : Nat) (x1 : Int32) (w0 : xW) (rF : Int32 ⊕ String) (wF : xW) (hyp : f_X4_addOnTop a0 x1 w0 = some (rF, wF)) : xMet Γ l yX4_addOnTop (xws yX4_addOnTop cX4_addOnTop 2 (some .int)) 3 xI [.ref a0, .int x1] w0 rF wF (x_mc rF) (x_ms rF) := by
  refine xOfW tg_X4_addOnTop hl (lv0 := [(0, .ref a0), (1, .int x1)]) (Nat.le_of_ble_eq_true rfl) rfl ?_
  intro p e s m below meth c G hno hin
  rw [f_X4_addOnTop] at hyp
  refine r_iload_n G 1 dX4_addOnTop_0 rfl rfl ?_
  refine r_callSN (ι := xI) (rest := []) (As := [.int x1]) G hno tg_X6_isMode (fun r w' h => ct_X6_isMode (xhl G) _ _ r w' h) hyp ww_123 ww_124 (by decide) (by decide) rfl rfl (xroom (Nat.le_of_ble_eq_true rfl)) dX4_addOnTop_1 (push := (fun r2 => [.int r2])) (fun _ => rfl) (fun r2 w1 hyp => ?_)
  refine r_if_ne G 10 dX4_addOnTop_4 (by decide) hyp (fun c3 hyp => ?_) (fun c3 hyp => ?_)
  · refine r_aload_n G 0 dX4_addOnTop_10 rfl rfl ?_
    refine r_iload_n G 1 dX4_addOnTop_11 rfl rfl ?_
    obtain ⟨o6, hyp⟩ := x_chk hyp
    refine r_callV (ι := xQ) (T := TX4) (N := 4) (ci := 4) (b := a0) (rest := []) (As := [.int x1]) G hno tg_X4_beginLayer (fun r w' h => ct_X4_beginLayer (xhl G) _ _ _ r w' h) o6 hyp rfl ww_125 ww_127 ww_126 (by decide) (by decide) rfl rfl (xroom (Nat.le_of_ble_eq_true rfl)) dX4_addOnTop_12 (push := (fun r5 => [va_rf r5])) (fun _ => rfl) (fun r5 w4 hyp => ?_)
    refine r_ifnonnull G 23 dX4_addOnTop_15 (by decide) hyp (fun a7 ha7 hz => ?_) (fun hyp => ?_)
    · clear hyp; subst ha7; have hyp := hz; clear hz
      refine r_aload_n G 0 dX4_addOnTop_23 rfl rfl ?_
      obtain ⟨v8, hv8, hyp⟩ := x_some hyp
      refine r_getv (C := RX4) (T := TX4) (N := 4) (ci := 4) G 1 (x_geti_e hv8) rfl uw_4 (Nat.le_of_ble_eq_true rfl) rfl ww_32 dX4_addOnTop_24 ?_
      refine r_iconst (v := 1) G dX4_addOnTop_27 (by decide) ?_
      refine r_isub G dX4_addOnTop_28 ?_
      exact r_iret G hyp rfl (Nat.zero_le _) (Nat.zero_le _) dX4_addOnTop_29
    · refine r_bipush (v := (-4)) G dX4_addOnTop_18 (by decide) ?_
      refine r_goto G 29 dX4_addOnTop_20 (by decide) ?_
      exact r_iret G hyp rfl (Nat.zero_le _) (Nat.zero_le _) dX4_addOnTop_29
  · refine r_bipush (v := (-3)) G dX4_addOnTop_7 (by decide) ?_
    exact r_iret G hyp rfl (Nat.zero_le _) (Nat.zero_le _) dX4_addOnTop_9
theorem tg_X6_addLayer : xTgt yX6_addLayer cX6_addLayer 3 (some .int) 1 := ⟨ww_138, ww_86, by decide, by decide +kernel, by decide +kernel⟩
section
variable {Γ : xG} {p : Program} {l : Launch} {e : Env} {s : State} {m : MethodId} {args : Array Value} {below : List Frame} {meth : Method} {c : Code} {rF : Int32 ⊕ String} {wF : xW}
end
set_option maxRecDepth 100000 in
set_option maxHeartbeats 4000000 in
theorem ct_X6_addLayer {Γ : xG} {l : Launch} (hl : l.stackTraces = false) (a0 : Nat) (x1 : Int32) (w0 : xW) (rF : Int32 ⊕ String) (wF : xW) (hyp : f_X6_addLayer a0 x1 w0 = some (rF, wF)) : xMet Γ l yX6_addLayer (xws yX6_addLayer cX6_addLayer 3 (some .int)) 6 xI [.ref a0, .int x1] w0 rF wF (x_mc rF) (x_ms rF) := by
  refine xOfW tg_X6_addLayer hl (lv0 := [(0, .ref a0), (1, .int x1)]) (Nat.le_of_ble_eq_true rfl) rfl ?_
  intro p e s m below meth c G hno hin
  rw [f_X6_addLayer] at hyp
  refine r_aload_n G 0 dX6_addLayer_0 rfl rfl ?_
  obtain ⟨v1, hv1, hyp⟩ := x_some hyp
  refine r_getv (C := RX6) (T := TX6) (N := 9) (ci := 6) G 1 (x_getr_e hv1) rfl uw_6 (Nat.le_of_ble_eq_true rfl) rfl ww_65 dX6_addLayer_1 ?_
  refine r_aload_n G 0 dX6_addLayer_4 rfl rfl ?_
  obtain ⟨v2, hv2, hyp⟩ := x_some hyp
  refine r_getv (C := RX6) (T := TX6) (N := 9) (ci := 6) G 0 (x_getr_e hv2) rfl uw_6 (Nat.le_of_ble_eq_true rfl) rfl ww_60 dX6_addLayer_5 ?_
  refine r_ref hyp (fun a3 ha3 hz => ?_)
  clear hyp; subst ha3; have hyp := hz; clear hz
  obtain ⟨o6, hyp⟩ := x_chk hyp
  refine r_callV (ι := xV) (T := TX2) (N := 3) (ci := 2) (b := a3) (rest := []) (As := [va_rf v2]) G hno tg_X2_prepare (fun r w' h => ct_X2_prepare (xhl G) _ _ _ r w' h) o6 hyp rfl ww_129 ww_131 ww_130 (by decide) (by decide) rfl rfl (xroom (Nat.le_of_ble_eq_true rfl)) dX6_addLayer_8 (push := (fun _ => [])) (fun _ => rfl) (fun _ w4 hyp => ?_)
  refine r_aload_n G 0 dX6_addLayer_11 rfl rfl ?_
  obtain ⟨v7, hv7, hyp⟩ := x_some hyp
  refine r_getv (C := RX6) (T := TX6) (N := 9) (ci := 6) G 0 (x_getr_e hv7) rfl uw_6 (Nat.le_of_ble_eq_true rfl) rfl ww_60 dX6_addLayer_12 ?_
  refine r_iload_n G 1 dX6_addLayer_15 rfl rfl ?_
  refine r_ref hyp (fun a8 ha8 hz => ?_)
  clear hyp; subst ha8; have hyp := hz; clear hz
  obtain ⟨o11, hyp⟩ := x_chk hyp
  refine r_callV (ι := xI) (T := TX4) (N := 4) (ci := 4) (b := a8) (rest := []) (As := [.int x1]) G hno tg_X4_addOnTop (fun r w' h => ct_X4_addOnTop (xhl G) _ _ _ r w' h) o11 hyp rfl ww_132 ww_134 ww_133 (by decide) (by decide) rfl rfl (xroom (Nat.le_of_ble_eq_true rfl)) dX6_addLayer_16 (push := (fun r10 => [.int r10])) (fun _ => rfl) (fun r10 w9 hyp => ?_)
  refine r_istore_n (lv' := [(2, .int r10), (0, .ref a0), (1, .int x1)]) G dX6_addLayer_19 rfl (by decide) ⟨fun _ => rfl, fun _ => rfl, trivial⟩ rfl ?_
  refine r_iload_n G 0 dX6_addLayer_20 rfl rfl ?_
  refine r_bipush (v := (-3)) G dX6_addLayer_21 (by decide) ?_
  refine r_icmp_ne G 36 dX6_addLayer_23 (by decide) hyp (fun c12 hyp => ?_) (fun c12 hyp => ?_)
  · refine r_iload_n G 0 dX6_addLayer_36 rfl rfl ?_
    refine r_bipush (v := (-4)) G dX6_addLayer_37 (by decide) ?_
    refine r_icmp_ne G 52 dX6_addLayer_39 (by decide) hyp (fun c13 hyp => ?_) (fun c13 hyp => ?_)
    · refine r_aload_n G 1 dX6_addLayer_52 rfl rfl ?_
      obtain ⟨v14, hv14, hyp⟩ := x_some hyp
      refine r_getv (C := RX6) (T := TX6) (N := 9) (ci := 6) G 1 (x_getr_e hv14) rfl uw_6 (Nat.le_of_ble_eq_true rfl) rfl ww_65 dX6_addLayer_53 ?_
      refine r_ref hyp (fun a15 ha15 hz => ?_)
      clear hyp; subst ha15; have hyp := hz; clear hz
      obtain ⟨o18, hyp⟩ := x_chk hyp
      refine r_callV (ι := xV) (T := TX2) (N := 3) (ci := 2) (b := a15) (rest := []) (As := []) G hno tg_X2_commit (fun r w' h => ct_X2_commit (xhl G) _ _ r w' h) o18 hyp rfl ww_135 ww_137 ww_136 (by decide) (by decide) rfl rfl (xroom (Nat.le_of_ble_eq_true rfl)) dX6_addLayer_56 (push := (fun _ => [])) (fun _ => rfl) (fun _ w16 hyp => ?_)
      refine r_iload_n G 0 dX6_addLayer_59 rfl rfl ?_
      exact r_iret G hyp rfl (Nat.zero_le _) (Nat.zero_le _) dX6_addLayer_60
    · exact r_throw 1 G hno hyp th_RX6_77 lit_1 (by decide) dX6_addLayer_42 dX6_addLayer_45 dX6_addLayer_46 dX6_addLayer_48 dX6_addLayer_51
  · exact r_throw 0 G hno hyp th_RX6_70 lit_0 (by decide) dX6_addLayer_26 dX6_addLayer_29 dX6_addLayer_30 dX6_addLayer_32 dX6_addLayer_35
theorem tg_X6_blend : xTgt yX6_blend cX6_blend 3 (some .int) 3 := ⟨ww_139, ww_86, by decide, by decide +kernel, by decide +kernel⟩
section
variable {Γ : xG} {p : Program} {l : Launch} {e : Env} {s : State} {m : MethodId} {args : Array Value} {below : List Frame} {meth : Method} {c : Code} {rF : Int32 ⊕ String} {wF : xW}
end
set_option maxRecDepth 100000 in
set_option maxHeartbeats 4000000 in
theorem ct_X6_blend {Γ : xG} {l : Launch} (hl : l.stackTraces = false) (x0 : Int32) (x1 : Int32) (x2 : Int32) (w0 : xW) (rF : Int32 ⊕ String) (wF : xW) (hyp : f_X6_blend x0 x1 x2 w0 = some (rF, wF)) : xMet Γ l yX6_blend (xws yX6_blend cX6_blend 3 (some .int)) 0 xI [.int x0, .int x1, .int x2] w0 rF wF (x_mc rF) (x_ms rF) := by
  refine xOfW tg_X6_blend hl (lv0 := [(0, .int x0), (1, .int x1), (2, .int x2)]) (Nat.le_of_ble_eq_true rfl) rfl ?_
  intro p e s m below meth c G hno hin
  rw [f_X6_blend] at hyp
  refine r_iload_n G 0 dX6_blend_0 rfl rfl ?_
  rcases x_if hyp with ⟨k1, hyp⟩ | ⟨k1, hyp⟩
  · refine r_lkK G 97 k1 97 dX6_blend_1 (by decide) rfl (by decide) ?_
    refine r_iload_n G 1 dX6_blend_97 rfl rfl ?_
    refine r_iload_n G 2 dX6_blend_98 rfl rfl ?_
    refine r_iadd G dX6_blend_99 ?_
    refine r_iconst (v := 2) G dX6_blend_100 (by decide) ?_
    refine r_idiv G dX6_blend_101 (by decide) ?_
    exact r_iret G hyp rfl (Nat.zero_le _) (Nat.zero_le _) dX6_blend_102
  rcases x_if hyp with ⟨k2, hyp⟩ | ⟨k2, hyp⟩
  · refine r_lkK G 100 k2 75 dX6_blend_1 (by decide) rfl (by decide) ?_
    refine r_iload_n G 1 dX6_blend_75 rfl rfl ?_
    refine r_iload_n G 2 dX6_blend_76 rfl rfl ?_
    refine r_icmp_ge G 84 dX6_blend_77 (by decide) hyp (fun c3 hyp => ?_) (fun c3 hyp => ?_)
    · refine r_iload_n G 2 dX6_blend_84 rfl rfl ?_
      exact r_iret G hyp rfl (Nat.zero_le _) (Nat.zero_le _) dX6_blend_85
    · refine r_iload_n G 1 dX6_blend_80 rfl rfl ?_
      refine r_goto G 85 dX6_blend_81 (by decide) ?_
      exact r_iret G hyp rfl (Nat.zero_le _) (Nat.zero_le _) dX6_blend_85
  rcases x_if hyp with ⟨k4, hyp⟩ | ⟨k4, hyp⟩
  · refine r_lkK G 108 k4 86 dX6_blend_1 (by decide) rfl (by decide) ?_
    refine r_iload_n G 1 dX6_blend_86 rfl rfl ?_
    refine r_iload_n G 2 dX6_blend_87 rfl rfl ?_
    refine r_icmp_le G 95 dX6_blend_88 (by decide) hyp (fun c5 hyp => ?_) (fun c5 hyp => ?_)
    · refine r_iload_n G 2 dX6_blend_95 rfl rfl ?_
      exact r_iret G hyp rfl (Nat.zero_le _) (Nat.zero_le _) dX6_blend_96
    · refine r_iload_n G 1 dX6_blend_91 rfl rfl ?_
      refine r_goto G 96 dX6_blend_92 (by decide) ?_
      exact r_iret G hyp rfl (Nat.zero_le _) (Nat.zero_le _) dX6_blend_96
  rcases x_if hyp with ⟨k6, hyp⟩ | ⟨k6, hyp⟩
  · refine r_lkK G 109 k6 52 dX6_blend_1 (by decide) rfl (by decide) ?_
    refine r_iload_n G 1 dX6_blend_52 rfl rfl ?_
    refine r_iload_n G 2 dX6_blend_53 rfl rfl ?_
    refine r_imul G dX6_blend_54 ?_
    refine r_bipush (v := 15) G dX6_blend_55 (by decide) ?_
    refine r_idiv G dX6_blend_57 (by decide) ?_
    exact r_iret G hyp rfl (Nat.zero_le _) (Nat.zero_le _) dX6_blend_58
  rcases x_if hyp with ⟨k7, hyp⟩ | ⟨k7, hyp⟩
  · refine r_lkK G 115 k7 59 dX6_blend_1 (by decide) rfl (by decide) ?_
    refine r_bipush (v := 15) G dX6_blend_59 (by decide) ?_
    refine r_bipush (v := 15) G dX6_blend_61 (by decide) ?_
    refine r_iload_n G 1 dX6_blend_63 rfl rfl ?_
    refine r_isub G dX6_blend_64 ?_
    refine r_bipush (v := 15) G dX6_blend_65 (by decide) ?_
    refine r_iload_n G 2 dX6_blend_67 rfl rfl ?_
    refine r_isub G dX6_blend_68 ?_
    refine r_imul G dX6_blend_69 ?_
    refine r_bipush (v := 15) G dX6_blend_70 (by decide) ?_
    refine r_idiv G dX6_blend_72 (by decide) ?_
    refine r_isub G dX6_blend_73 ?_
    exact r_iret G hyp rfl (Nat.zero_le _) (Nat.zero_le _) dX6_blend_74
  refine r_lkD G [97, 100, 108, 109, 115] (by intro k hk; simp only [List.mem_cons, List.not_mem_nil, or_false] at hk; rcases hk with rfl | rfl | rfl | rfl | rfl <;> assumption) 103 dX6_blend_1 (by decide) (by decide) (by decide) ?_
  refine r_iload_n G 2 dX6_blend_103 rfl rfl ?_
  exact r_iret G hyp rfl (Nat.zero_le _) (Nat.zero_le _) dX6_blend_104
theorem tg_X3_toneAt : xTgt yX3_toneAt cX3_toneAt 2 (some .int) 1 := ⟨ww_140, ww_28, by decide, by decide +kernel, by decide +kernel⟩
section
variable {Γ : xG} {p : Program} {l : Launch} {e : Env} {s : State} {m : MethodId} {args : Array Value} {below : List Frame} {meth : Method} {c : Code} {rF : Int32 ⊕ String} {wF : xW}
end
set_option maxRecDepth 100000 in
set_option maxHeartbeats 4000000 in
theorem ct_X3_toneAt {Γ : xG} {l : Launch} (hl : l.stackTraces = false) (a0 : Nat) (x1 : Int32) (w0 : xW) (rF : Int32 ⊕ String) (wF : xW) (hyp : f_X3_toneAt a0 x1 w0 = some (rF, wF)) : xMet Γ l yX3_toneAt (xws yX3_toneAt cX3_toneAt 2 (some .int)) 0 xI [.ref a0, .int x1] w0 rF wF (x_mc rF) (x_ms rF) := by
  refine xOfW tg_X3_toneAt hl (lv0 := [(0, .ref a0), (1, .int x1)]) (Nat.le_of_ble_eq_true rfl) rfl ?_
  intro p e s m below meth c G hno hin
  rw [f_X3_toneAt] at hyp
  refine r_iload_n G 1 dX3_toneAt_0 rfl rfl ?_
  refine r_if_lt G 22 dX3_toneAt_1 (by decide) hyp (fun c1 hyp => ?_) (fun c1 hyp => ?_)
  · refine r_iconst (v := (-1)) G dX3_toneAt_22 (by decide) ?_
    exact r_iret G hyp rfl (Nat.zero_le _) (Nat.zero_le _) dX3_toneAt_23
  · refine r_iload_n G 1 dX3_toneAt_4 rfl rfl ?_
    refine r_aload_n G 0 dX3_toneAt_5 rfl rfl ?_
    obtain ⟨v2, hv2, hyp⟩ := x_some hyp
    refine r_getv (C := RX3) (T := TX3) (N := 3) (ci := 3) G 2 (x_getr_e hv2) rfl uw_3 (Nat.le_of_ble_eq_true rfl) rfl ww_26 dX3_toneAt_6 ?_
    refine r_ref hyp (fun a3 ha3 hz => ?_)
    clear hyp; subst ha3; have hyp := hz; clear hz
    obtain ⟨v4, hv4, hyp⟩ := x_some hyp
    refine r_len G hv4 dX3_toneAt_9 ?_
    refine r_icmp_ge G 22 dX3_toneAt_10 (by decide) hyp (fun c5 hyp => ?_) (fun c5 hyp => ?_)
    · refine r_iconst (v := (-1)) G dX3_toneAt_22 (by decide) ?_
      exact r_iret G hyp rfl (Nat.zero_le _) (Nat.zero_le _) dX3_toneAt_23
    · refine r_aload_n G 0 dX3_toneAt_13 rfl rfl ?_
      obtain ⟨v6, hv6, hyp⟩ := x_some hyp
      refine r_getv (C := RX3) (T := TX3) (N := 3) (ci := 3) G 2 (x_getr_e hv6) rfl uw_3 (Nat.le_of_ble_eq_true rfl) rfl ww_26 dX3_toneAt_14 ?_
      refine r_iload_n G 1 dX3_toneAt_17 rfl rfl ?_
      refine r_ref hyp (fun a7 ha7 hz => ?_)
      clear hyp; subst ha7; have hyp := hz; clear hz
      obtain ⟨v8, hv8, hyp⟩ := x_some hyp
      refine r_iald G hv8 dX3_toneAt_18 ?_
      refine r_goto G 23 dX3_toneAt_19 (by decide) ?_
      exact r_iret G hyp rfl (Nat.zero_le _) (Nat.zero_le _) dX3_toneAt_23
theorem tg_X3_toneOver : xTgt yX3_toneOver cX3_toneOver 4 (some .int) 2 := ⟨ww_146, ww_28, by decide, by decide +kernel, by decide +kernel⟩
section
variable {Γ : xG} {p : Program} {l : Launch} {e : Env} {s : State} {m : MethodId} {args : Array Value} {below : List Frame} {meth : Method} {c : Code} {rF : Int32 ⊕ String} {wF : xW}
end
set_option maxRecDepth 100000 in
set_option maxHeartbeats 4000000 in
theorem ct_X3_toneOver {Γ : xG} {l : Launch} (hl : l.stackTraces = false) (a0 : Nat) (x1 : Int32) (x2 : Int32) (w0 : xW) (rF : Int32 ⊕ String) (wF : xW) (hyp : f_X3_toneOver a0 x1 x2 w0 = some (rF, wF)) : xMet Γ l yX3_toneOver (xws yX3_toneOver cX3_toneOver 4 (some .int)) 1 xI [.ref a0, .int x1, .int x2] w0 rF wF (x_mc rF) (x_ms rF) := by
  refine xOfW tg_X3_toneOver hl (lv0 := [(0, .ref a0), (1, .int x1), (2, .int x2)]) (Nat.le_of_ble_eq_true rfl) rfl ?_
  intro p e s m below meth c G hno hin
  rw [f_X3_toneOver] at hyp
  refine r_aload_n G 0 dX3_toneOver_0 rfl rfl ?_
  obtain ⟨v1, hv1, hyp⟩ := x_some hyp
  refine r_getv (C := RX3) (T := TX3) (N := 3) (ci := 3) G 1 (x_geti_e hv1) rfl uw_3 (Nat.le_of_ble_eq_true rfl) rfl ww_25 dX3_toneOver_1 ?_
  refine r_if_eq G 15 dX3_toneOver_4 (by decide) hyp (fun c2 hyp => ?_) (fun c2 hyp => ?_)
  · refine r_iconst (v := (-1)) G dX3_toneOver_15 (by decide) ?_
    refine r_istore_n (lv' := [(3, .int (-1)), (0, .ref a0), (1, .int x1), (2, .int x2)]) G dX3_toneOver_16 rfl (by decide) ⟨fun _ => rfl, fun _ => rfl, fun _ => rfl, trivial⟩ rfl ?_
    refine r_iload_n G 0 dX3_toneOver_17 rfl rfl ?_
    refine r_iconst (v := (-1)) G dX3_toneOver_18 (by decide) ?_
    refine r_icmp_ne (A := none) G 26 dX3_toneOver_19 (by decide) ((if_pos (by decide)).trans hyp) (fun h _ => absurd h (by decide)) (fun _ hyp => ?_)
    refine r_iload_n G 2 dX3_toneOver_22 rfl rfl ?_
    refine r_goto G 35 dX3_toneOver_23 (by decide) ?_
    exact r_iret G hyp rfl (Nat.zero_le _) (Nat.zero_le _) dX3_toneOver_35
  · refine r_aload_n G 0 dX3_toneOver_7 rfl rfl ?_
    refine r_iload_n G 2 dX3_toneOver_8 rfl rfl ?_
    obtain ⟨o5, hyp⟩ := x_chk hyp
    refine r_callV (ι := xI) (T := TX3) (N := 3) (ci := 3) (b := a0) (rest := []) (As := [.int x2]) G hno tg_X3_toneAt (fun r w' h => ct_X3_toneAt (xhl G) _ _ _ r w' h) o5 hyp rfl ww_141 ww_143 ww_142 (by decide) (by decide) rfl rfl (xroom (Nat.le_of_ble_eq_true rfl)) dX3_toneOver_9 (push := (fun r4 => [.int r4])) (fun _ => rfl) (fun r4 w3 hyp => ?_)
    refine r_goto G 16 dX3_toneOver_12 (by decide) ?_
    refine r_istore_n (lv' := [(3, .int r4), (0, .ref a0), (1, .int x1), (2, .int x2)]) G dX3_toneOver_16 rfl (by decide) ⟨fun _ => rfl, fun _ => rfl, fun _ => rfl, trivial⟩ rfl ?_
    refine r_iload_n G 0 dX3_toneOver_17 rfl rfl ?_
    refine r_iconst (v := (-1)) G dX3_toneOver_18 (by decide) ?_
    refine r_icmp_ne G 26 dX3_toneOver_19 (by decide) hyp (fun c6 hyp => ?_) (fun c6 hyp => ?_)
    · refine r_aload_n G 1 dX3_toneOver_26 rfl rfl ?_
      obtain ⟨v7, hv7, hyp⟩ := x_some hyp
      refine r_getv (C := RX3) (T := TX3) (N := 3) (ci := 3) G 0 (x_geti_e hv7) rfl uw_3 (Nat.le_of_ble_eq_true rfl) rfl ww_24 dX3_toneOver_27 ?_
      refine r_iload_n G 2 dX3_toneOver_30 rfl rfl ?_
      refine r_iload_n G 0 dX3_toneOver_31 rfl rfl ?_
      refine r_callSN (ι := xI) (rest := []) (As := [.int v7, .int x1, .int r4]) G hno tg_X6_blend (fun r w' h => ct_X6_blend (xhl G) _ _ _ _ r w' h) hyp ww_144 ww_145 (by decide) (by decide) rfl rfl (xroom (Nat.le_of_ble_eq_true rfl)) dX3_toneOver_32 (push := (fun r9 => [.int r9])) (fun _ => rfl) (fun r9 w8 hyp => ?_)
      exact r_iret G hyp rfl (Nat.zero_le _) (Nat.zero_le _) dX3_toneOver_35
    · refine r_iload_n G 2 dX3_toneOver_22 rfl rfl ?_
      refine r_goto G 35 dX3_toneOver_23 (by decide) ?_
      exact r_iret G hyp rfl (Nat.zero_le _) (Nat.zero_le _) dX3_toneOver_35
theorem tg_X4_toneFrom : xTgt yX4_toneFrom cX4_toneFrom 6 (some .int) 2 := ⟨ww_150, ww_40, by decide, by decide +kernel, by decide +kernel⟩
section
variable {Γ : xG} {p : Program} {l : Launch} {e : Env} {s : State} {m : MethodId} {args : Array Value} {below : List Frame} {meth : Method} {c : Code} {rF : Int32 ⊕ String} {wF : xW}
set_option maxRecDepth 100000 in
set_option maxHeartbeats 4000000 in
theorem nd_X4_toneFrom_L6 (G : xCx Γ p l s m args meth c RX4 cX4_toneFrom 6 (some .int)) (hno : ∀ x ∈ c.exceptionTable.toList, False) : ∀ (n : Nat) (a0 : Nat) (x2 : Int32) (x3 : Int32) (x4 : Int32) (w0 : xW), f_X4_toneFrom_L6 n a0 x2 x3 x4 w0 = some (rF, wF) → xAW Γ p l e (xRm 2 (x_mc rF) (x_ms rF)) s m args below meth c 6 (xQm Γ below xI rF wF args s (x_mc rF) (x_ms rF)) w0 0 0 6 [(0, .ref a0), (2, .int x2), (3, .int x3), (4, .int x4)] [] := by
  intro n
  induction n with
  | zero =>
    intro a0 x2 x3 x4 w0 hyp
    cases (show (none : xO Int32) = some (rF, wF) from hyp)
  | succ n ih =>
    intro a0 x2 x3 x4 w0 hyp
    rw [f_X4_toneFrom_L6] at hyp
    refine r_iload G 3 dX4_toneFrom_6 rfl ?_
    refine r_aload_n G 0 dX4_toneFrom_8 rfl rfl ?_
    obtain ⟨v1, hv1, hyp⟩ := x_some hyp
    refine r_getv (C := RX4) (T := TX4) (N := 4) (ci := 4) G 1 (x_geti_e hv1) rfl uw_4 (Nat.le_of_ble_eq_true rfl) rfl ww_32 dX4_toneFrom_9 ?_
    refine r_icmp_ge G 42 dX4_toneFrom_12 (by decide) hyp (fun c2 hyp => ?_) (fun c2 hyp => ?_)
    · refine r_iload_n G 2 dX4_toneFrom_42 rfl rfl ?_
      exact r_iret G hyp rfl (Nat.zero_le _) (Nat.zero_le _) dX4_toneFrom_43
    · refine r_aload_n G 0 dX4_toneFrom_15 rfl rfl ?_
      refine r_iload G 3 dX4_toneFrom_16 rfl ?_
      obtain ⟨o5, hyp⟩ := x_chk hyp
      refine r_callV (ι := xQ) (T := TX4) (N := 4) (ci := 4) (b := a0) (rest := []) (As := [.int x4]) G hno tg_X4_at (fun r w' h => ct_X4_at (xhl G) _ _ _ r w' h) o5 hyp rfl ww_99 ww_101 ww_100 (by decide) (by decide) rfl rfl (xroom (Nat.le_of_ble_eq_true rfl)) dX4_toneFrom_18 (push := (fun r4 => [va_rf r4])) (fun _ => rfl) (fun r4 w3 hyp => ?_)
      refine r_astoreq (lv' := [(5, va_rf r4), (0, .ref a0), (2, .int x2), (3, .int x3), (4, .int x4)]) G dX4_toneFrom_21 (by decide) ⟨fun _ => rfl, fun _ => rfl, fun _ => rfl, fun _ => rfl, trivial⟩ rfl ?_
      refine r_aloadq G 0 dX4_toneFrom_23 rfl ?_
      refine r_ifnull G 36 dX4_toneFrom_25 (by decide) hyp (fun hyp => ?_) (fun a6 ha6 hz => ?_)
      · refine r_iinc (v := (x4 + 1)) (lv' := [(4, .int (x4 + 1)), (5, va_rf r4), (0, .ref a0), (2, .int x2), (3, .int x3)]) G 4 dX4_toneFrom_36 rfl rfl (by decide) ⟨fun _ => xcq _, fun _ => rfl, fun _ => rfl, fun _ => rfl, fun _ => rfl, trivial⟩ rfl ?_
        refine r_goto G 6 dX4_toneFrom_39 (by decide) ?_
        refine r_weak (lv' := [(0, .ref a0), (2, .int x2), (3, .int x3), (4, .int (x4 + 1))]) [2, 3, 4, 0] rfl ?_
        exact ih a0 x2 x3 (x4 + 1) w3 hyp
      · clear hyp; subst ha6; have hyp := hz; clear hz
        refine r_aload G 0 dX4_toneFrom_28 rfl ?_
        refine r_iload_n G 3 dX4_toneFrom_30 rfl rfl ?_
        refine r_iload_n G 2 dX4_toneFrom_31 rfl rfl ?_
        obtain ⟨o9, hyp⟩ := x_chk hyp
        refine r_callV (ι := xI) (T := TX3) (N := 3) (ci := 3) (b := a6) (rest := []) (As := [.int x3, .int x2]) G hno tg_X3_toneOver (fun r w' h => ct_X3_toneOver (xhl G) _ _ _ _ r w' h) o9 hyp rfl ww_147 ww_149 ww_148 (by decide) (by decide) rfl rfl (xroom (Nat.le_of_ble_eq_true rfl)) dX4_toneFrom_32 (push := (fun r8 => [.int r8])) (fun _ => rfl) (fun r8 w7 hyp => ?_)
        refine r_istore_n (lv' := [(3, .int r8), (5, .ref a6), (0, .ref a0), (2, .int x2), (4, .int x4)]) G dX4_toneFrom_35 rfl (by decide) ⟨fun _ => rfl, fun _ => rfl, fun _ => rfl, fun _ => rfl, fun _ => rfl, trivial⟩ rfl ?_
        refine r_iinc (v := (x4 + 1)) (lv' := [(4, .int (x4 + 1)), (3, .int r8), (5, .ref a6), (0, .ref a0), (2, .int x2)]) G 4 dX4_toneFrom_36 rfl rfl (by decide) ⟨fun _ => rfl, fun _ => rfl, fun _ => rfl, fun _ => rfl, fun _ => rfl, trivial⟩ rfl ?_
        refine r_goto G 6 dX4_toneFrom_39 (by decide) ?_
        refine r_weak (lv' := [(0, .ref a0), (2, .int x2), (3, .int r8), (4, .int (x4 + 1))]) [3, 4, 1, 0] rfl ?_
        exact ih a0 x2 r8 (x4 + 1) w7 hyp
end
set_option maxRecDepth 100000 in
set_option maxHeartbeats 4000000 in
theorem ct_X4_toneFrom {Γ : xG} {l : Launch} (hl : l.stackTraces = false) (a0 : Nat) (x1 : Int32) (x2 : Int32) (w0 : xW) (rF : Int32 ⊕ String) (wF : xW) (hyp : f_X4_toneFrom a0 x1 x2 w0 = some (rF, wF)) : xMet Γ l yX4_toneFrom (xws yX4_toneFrom cX4_toneFrom 6 (some .int)) 2 xI [.ref a0, .int x1, .int x2] w0 rF wF (x_mc rF) (x_ms rF) := by
  refine xOfW tg_X4_toneFrom hl (lv0 := [(0, .ref a0), (1, .int x1), (2, .int x2)]) (Nat.le_of_ble_eq_true rfl) rfl ?_
  intro p e s m below meth c G hno hin
  rw [f_X4_toneFrom] at hyp
  refine r_bipush (v := 15) G dX4_toneFrom_0 (by decide) ?_
  refine r_istore_n (lv' := [(3, .int 15), (0, .ref a0), (1, .int x1), (2, .int x2)]) G dX4_toneFrom_2 rfl (by decide) ⟨fun _ => rfl, fun _ => rfl, fun _ => rfl, trivial⟩ rfl ?_
  refine r_iload_n G 2 dX4_toneFrom_3 rfl rfl ?_
  refine r_istore (lv' := [(4, .int x1), (3, .int 15), (0, .ref a0), (1, .int x1), (2, .int x2)]) G dX4_toneFrom_4 (by decide) ⟨fun _ => rfl, fun _ => rfl, fun _ => rfl, fun _ => rfl, trivial⟩ rfl ?_
  refine r_weak (lv' := [(0, .ref a0), (2, .int x2), (3, .int 15), (4, .int x1)]) [2, 4, 1, 0] rfl ?_
  exact nd_X4_toneFrom_L6 G hno xfuel a0 x2 15 x1 w0 hyp
theorem tg_X1_flatten : xTgt yX1_flatten cX1_flatten 3 none 1 := ⟨ww_154, ww_22, by decide, by decide +kernel, by decide +kernel⟩
section
variable {Γ : xG} {p : Program} {l : Launch} {e : Env} {s : State} {m : MethodId} {args : Array Value} {below : List Frame} {meth : Method} {c : Code} {rF : Unit ⊕ String} {wF : xW}
set_option maxRecDepth 100000 in
set_option maxHeartbeats 4000000 in
theorem nd_X1_flatten_L2 (G : xCx Γ p l s m args meth c RX1 cX1_flatten 3 none) (hno : ∀ x ∈ c.exceptionTable.toList, False) : ∀ (n : Nat) (a0 : Nat) (x1 : Option Nat) (x2 : Int32) (w0 : xW), f_X1_flatten_L2 n a0 x1 x2 w0 = some (rF, wF) → xAW Γ p l e (xRm 3 (x_mc rF) (x_ms rF)) s m args below meth c 3 (xQm Γ below xV rF wF args s (x_mc rF) (x_ms rF)) w0 0 0 2 [(0, .ref a0), (1, va_rf x1), (2, .int x2)] [] := by
  intro n
  induction n with
  | zero =>
    intro a0 x1 x2 w0 hyp
    cases (show (none : xO Unit) = some (rF, wF) from hyp)
  | succ n ih =>
    intro a0 x1 x2 w0 hyp
    rw [f_X1_flatten_L2] at hyp
    refine r_iload_n G 2 dX1_flatten_2 rfl rfl ?_
    refine r_aload_n G 0 dX1_flatten_3 rfl rfl ?_
    obtain ⟨v1, hv1, hyp⟩ := x_some hyp
    refine r_getv (C := RX1) (T := TX1) (N := 6) (ci := 1) G 0 (x_getr_e hv1) rfl uw_1 (Nat.le_of_ble_eq_true rfl) rfl ww_14 dX1_flatten_4 ?_
    refine r_ref hyp (fun a2 ha2 hz => ?_)
    clear hyp; subst ha2; have hyp := hz; clear hz
    obtain ⟨v3, hv3, hyp⟩ := x_some hyp
    refine r_len G hv3 dX1_flatten_7 ?_
    refine r_icmp_ge G 29 dX1_flatten_8 (by decide) hyp (fun c4 hyp => ?_) (fun c4 hyp => ?_)
    · exact r_vret G hyp (Nat.zero_le _) (Nat.zero_le _) dX1_flatten_29
    · refine r_aload_n G 0 dX1_flatten_11 rfl rfl ?_
      obtain ⟨v5, hv5, hyp⟩ := x_some hyp
      refine r_getv (C := RX1) (T := TX1) (N := 6) (ci := 1) G 0 (x_getr_e hv5) rfl uw_1 (Nat.le_of_ble_eq_true rfl) rfl ww_14 dX1_flatten_12 ?_
      refine r_iload_n G 2 dX1_flatten_15 rfl rfl ?_
      refine r_aload_nq G 1 dX1_flatten_16 rfl rfl ?_
      refine r_iconst (v := 0) G dX1_flatten_17 (by decide) ?_
      refine r_iload_n G 2 dX1_flatten_18 rfl rfl ?_
      refine r_ref hyp (fun a6 ha6 hz => ?_)
      clear hyp; subst ha6; have hyp := hz; clear hz
      obtain ⟨o9, hyp⟩ := x_chk hyp
      refine r_callV (ι := xI) (T := TX4) (N := 4) (ci := 4) (b := a6) (rest := [.int x2, va_rf v5]) (As := [.int 0, .int x2]) G hno tg_X4_toneFrom (fun r w' h => ct_X4_toneFrom (xhl G) _ _ _ _ r w' h) o9 hyp rfl ww_151 ww_153 ww_152 (by decide) (by decide) rfl rfl (xroom (Nat.le_of_ble_eq_true rfl)) dX1_flatten_19 (push := (fun r8 => [.int r8, .int x2, va_rf v5])) (fun _ => rfl) (fun r8 w7 hyp => ?_)
      refine r_ref hyp (fun a10 ha10 hz => ?_)
      clear hyp; subst ha10; have hyp := hz; clear hz
      obtain ⟨w11, hw11, hyp⟩ := x_some hyp
      refine r_iast G hw11 dX1_flatten_22 ?_
      refine r_iinc (v := (x2 + 1)) (lv' := [(2, .int (x2 + 1)), (0, .ref a0), (1, .ref a6)]) G 2 dX1_flatten_23 rfl rfl (by decide) ⟨fun _ => rfl, fun _ => rfl, fun _ => rfl, trivial⟩ rfl ?_
      refine r_goto G 2 dX1_flatten_26 (by decide) ?_
      refine r_weak (lv' := [(0, .ref a0), (1, .ref a6), (2, .int (x2 + 1))]) [1, 2, 0] rfl ?_
      exact ih a0 (some a6) (x2 + 1) w11 hyp
end
set_option maxRecDepth 100000 in
set_option maxHeartbeats 4000000 in
theorem ct_X1_flatten {Γ : xG} {l : Launch} (hl : l.stackTraces = false) (a0 : Nat) (x1 : Option Nat) (w0 : xW) (rF : Unit ⊕ String) (wF : xW) (hyp : f_X1_flatten a0 x1 w0 = some (rF, wF)) : xMet Γ l yX1_flatten (xws yX1_flatten cX1_flatten 3 none) 3 xV [.ref a0, va_rf x1] w0 rF wF (x_mc rF) (x_ms rF) := by
  refine xOfW tg_X1_flatten hl (lv0 := [(0, .ref a0), (1, va_rf x1)]) (by cases x1 <;> exact Nat.le_of_ble_eq_true rfl) (by cases x1 <;> rfl) ?_
  intro p e s m below meth c G hno hin
  rw [f_X1_flatten] at hyp
  refine r_iconst (v := 0) G dX1_flatten_0 (by decide) ?_
  refine r_istore_n (lv' := [(2, .int 0), (0, .ref a0), (1, va_rf x1)]) G dX1_flatten_1 rfl (by decide) ⟨fun _ => rfl, fun _ => xcq _, trivial⟩ rfl ?_
  refine r_weak (lv' := [(0, .ref a0), (1, va_rf x1), (2, .int 0)]) [1, 2, 0] rfl ?_
  exact nd_X1_flatten_L2 G hno xfuel a0 x1 0 w0 hyp
theorem tg_X6_flattened : xTgt yX6_flattened cX6_flattened 1 (some (.object "ShadowWall$FlatWall")) 0 := ⟨ww_158, ww_86, by decide, by decide +kernel, by decide +kernel⟩
section
variable {Γ : xG} {p : Program} {l : Launch} {e : Env} {s : State} {m : MethodId} {args : Array Value} {below : List Frame} {meth : Method} {c : Code} {rF : Option Nat ⊕ String} {wF : xW}
end
set_option maxRecDepth 100000 in
set_option maxHeartbeats 4000000 in
theorem ct_X6_flattened {Γ : xG} {l : Launch} (hl : l.stackTraces = false) (a0 : Nat) (w0 : xW) (rF : Option Nat ⊕ String) (wF : xW) (hyp : f_X6_flattened a0 w0 = some (rF, wF)) : xMet Γ l yX6_flattened (xws yX6_flattened cX6_flattened 1 (some (.object "ShadowWall$FlatWall"))) 4 xQ [.ref a0] w0 rF wF (x_mc rF) (x_ms rF) := by
  refine xOfW tg_X6_flattened hl (lv0 := [(0, .ref a0)]) (Nat.le_of_ble_eq_true rfl) rfl ?_
  intro p e s m below meth c G hno hin
  rw [f_X6_flattened] at hyp
  refine r_aload_n G 0 dX6_flattened_0 rfl rfl ?_
  obtain ⟨v1, hv1, hyp⟩ := x_some hyp
  refine r_getv (C := RX6) (T := TX6) (N := 9) (ci := 6) G 4 (x_getr_e hv1) rfl uw_6 (Nat.le_of_ble_eq_true rfl) rfl ww_72 dX6_flattened_1 ?_
  refine r_aload_n G 0 dX6_flattened_4 rfl rfl ?_
  obtain ⟨v2, hv2, hyp⟩ := x_some hyp
  refine r_getv (C := RX6) (T := TX6) (N := 9) (ci := 6) G 0 (x_getr_e hv2) rfl uw_6 (Nat.le_of_ble_eq_true rfl) rfl ww_60 dX6_flattened_5 ?_
  refine r_ref hyp (fun a3 ha3 hz => ?_)
  clear hyp; subst ha3; have hyp := hz; clear hz
  obtain ⟨o6, hyp⟩ := x_chk hyp
  refine r_callV (ι := xV) (T := TX1) (N := 6) (ci := 1) (b := a3) (rest := []) (As := [va_rf v2]) G hno tg_X1_flatten (fun r w' h => ct_X1_flatten (xhl G) _ _ _ r w' h) o6 hyp rfl ww_155 ww_157 ww_156 (by decide) (by decide) rfl rfl (xroom (Nat.le_of_ble_eq_true rfl)) dX6_flattened_8 (push := (fun _ => [])) (fun _ => rfl) (fun _ w4 hyp => ?_)
  refine r_aload_n G 0 dX6_flattened_11 rfl rfl ?_
  obtain ⟨v7, hv7, hyp⟩ := x_some hyp
  refine r_getv (C := RX6) (T := TX6) (N := 9) (ci := 6) G 4 (x_getr_e hv7) rfl uw_6 (Nat.le_of_ble_eq_true rfl) rfl ww_72 dX6_flattened_12 ?_
  exact r_aret (v := v7) G hyp (Nat.zero_le _) (Nat.zero_le _) dX6_flattened_15
theorem tg_X1_toneAt : xTgt yX1_toneAt cX1_toneAt 2 (some .int) 1 := ⟨ww_159, ww_22, by decide, by decide +kernel, by decide +kernel⟩
section
variable {Γ : xG} {p : Program} {l : Launch} {e : Env} {s : State} {m : MethodId} {args : Array Value} {below : List Frame} {meth : Method} {c : Code} {rF : Int32 ⊕ String} {wF : xW}
end
set_option maxRecDepth 100000 in
set_option maxHeartbeats 4000000 in
theorem ct_X1_toneAt {Γ : xG} {l : Launch} (hl : l.stackTraces = false) (a0 : Nat) (x1 : Int32) (w0 : xW) (rF : Int32 ⊕ String) (wF : xW) (hyp : f_X1_toneAt a0 x1 w0 = some (rF, wF)) : xMet Γ l yX1_toneAt (xws yX1_toneAt cX1_toneAt 2 (some .int)) 0 xI [.ref a0, .int x1] w0 rF wF (x_mc rF) (x_ms rF) := by
  refine xOfW tg_X1_toneAt hl (lv0 := [(0, .ref a0), (1, .int x1)]) (Nat.le_of_ble_eq_true rfl) rfl ?_
  intro p e s m below meth c G hno hin
  rw [f_X1_toneAt] at hyp
  refine r_iload_n G 1 dX1_toneAt_0 rfl rfl ?_
  refine r_if_lt G 22 dX1_toneAt_1 (by decide) hyp (fun c1 hyp => ?_) (fun c1 hyp => ?_)
  · refine r_iconst (v := (-1)) G dX1_toneAt_22 (by decide) ?_
    exact r_iret G hyp rfl (Nat.zero_le _) (Nat.zero_le _) dX1_toneAt_23
  · refine r_iload_n G 1 dX1_toneAt_4 rfl rfl ?_
    refine r_aload_n G 0 dX1_toneAt_5 rfl rfl ?_
    obtain ⟨v2, hv2, hyp⟩ := x_some hyp
    refine r_getv (C := RX1) (T := TX1) (N := 6) (ci := 1) G 0 (x_getr_e hv2) rfl uw_1 (Nat.le_of_ble_eq_true rfl) rfl ww_14 dX1_toneAt_6 ?_
    refine r_ref hyp (fun a3 ha3 hz => ?_)
    clear hyp; subst ha3; have hyp := hz; clear hz
    obtain ⟨v4, hv4, hyp⟩ := x_some hyp
    refine r_len G hv4 dX1_toneAt_9 ?_
    refine r_icmp_ge G 22 dX1_toneAt_10 (by decide) hyp (fun c5 hyp => ?_) (fun c5 hyp => ?_)
    · refine r_iconst (v := (-1)) G dX1_toneAt_22 (by decide) ?_
      exact r_iret G hyp rfl (Nat.zero_le _) (Nat.zero_le _) dX1_toneAt_23
    · refine r_aload_n G 0 dX1_toneAt_13 rfl rfl ?_
      obtain ⟨v6, hv6, hyp⟩ := x_some hyp
      refine r_getv (C := RX1) (T := TX1) (N := 6) (ci := 1) G 0 (x_getr_e hv6) rfl uw_1 (Nat.le_of_ble_eq_true rfl) rfl ww_14 dX1_toneAt_14 ?_
      refine r_iload_n G 1 dX1_toneAt_17 rfl rfl ?_
      refine r_ref hyp (fun a7 ha7 hz => ?_)
      clear hyp; subst ha7; have hyp := hz; clear hz
      obtain ⟨v8, hv8, hyp⟩ := x_some hyp
      refine r_iald G hv8 dX1_toneAt_18 ?_
      refine r_goto G 23 dX1_toneAt_19 (by decide) ?_
      exact r_iret G hyp rfl (Nat.zero_le _) (Nat.zero_le _) dX1_toneAt_23
