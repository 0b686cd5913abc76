theorem tg_J0_length_8abf5 : xTgt yJ0_length_8abf5 cJ0_length_8abf5 1 (some .int) 0 := ⟨ww_823, ww_824, by decide, by decide +kernel, by decide +kernel⟩
theorem tg_J0_coder_7d493 : xTgt yJ0_coder_7d493 cJ0_coder_7d493 1 (some .byte) 0 := ⟨ww_825, ww_824, by decide, by decide +kernel, by decide +kernel⟩
theorem tg_J0_charAt_5068e : xTgt yJ0_charAt_5068e cJ0_charAt_5068e 2 (some .char) 1 := ⟨ww_826, ww_824, by decide, by decide +kernel, by decide +kernel⟩
theorem tg_J0_isLatin1_aae02 : xTgt yJ0_isLatin1_aae02 cJ0_isLatin1_aae02 1 (some .boolean) 0 := ⟨ww_827, ww_824, by decide, by decide +kernel, by decide +kernel⟩
theorem tg_J1_charAt_3b067 : xTgt yJ1_charAt_3b067 cJ1_charAt_3b067 2 (some .char) 2 := ⟨ww_828, ww_829, by decide, by decide +kernel, by decide +kernel⟩
theorem tg_J0_checkIndex_df160 : xTgt yJ0_checkIndex_df160 cJ0_checkIndex_df160 2 none 2 := ⟨ww_830, ww_824, by decide, by decide +kernel, by decide +kernel⟩
theorem tg_J3_checkIndex_8e157 : xTgt yJ3_checkIndex_8e157 cJ3_checkIndex_8e157 3 (some .int) 3 := ⟨ww_831, ww_832, by decide, by decide +kernel, by decide +kernel⟩
section
variable {Γ : xG} {l : Launch}
set_option maxRecDepth 100000 in
set_option maxHeartbeats 4000000 in
theorem ct_J0_isLatin1_aae02 (hl : l.stackTraces = false) (i : Nat) (w0 : xW) (rF : Int32 ⊕ String) (wF : xW) (hyp : f_J0_isLatin1_aae02 i w0 = some (rF, wF)) : xMet Γ l yJ0_isLatin1_aae02 (xws yJ0_isLatin1_aae02 cJ0_isLatin1_aae02 1 (some .boolean)) 0 xI [.ref (Γ.2.2.2.1 i)] w0 rF wF (x_mc rF) (x_ms rF) := by
  refine xOfW tg_J0_isLatin1_aae02 hl (lv0 := [(0, .ref (Γ.2.2.2.1 i))]) (Nat.le_of_ble_eq_true rfl) rfl ?_
  intro p e s m below meth c G hno hin
  rw [f_J0_isLatin1_aae02] at hyp
  obtain ⟨hi, hyp⟩ := x_chk hyp
  obtain ⟨q, hq⟩ := xLit_at hi
  obtain ⟨s1, s2, s3, s4, s5⟩ := G.2.2.2.2.2.1.2.2.2.2.2.2.1 i q hq
  refine r_gets G G.2.2.2.2.2.1.2.2.2.2.1 ww_807 dJ0_isLatin1_aae02_0 ?_
  refine r_if_eq (A := (none : xO Int32)) G 17 dJ0_isLatin1_aae02_3 (by decide) ((if_neg (by decide)).trans hyp) (fun h _ => absurd h (by decide)) (fun _ hyp => ?_)
  refine r_aload_n G 0 dJ0_isLatin1_aae02_6 rfl rfl ?_
  refine r_kget G s3 ww_808 dJ0_isLatin1_aae02_7 ?_
  refine r_if_ne (A := (none : xO Int32)) G 17 dJ0_isLatin1_aae02_10 (by decide) ((if_pos rfl).trans hyp) (fun h _ => absurd rfl h) (fun _ hyp => ?_)
  refine r_iconst (v := 1) G dJ0_isLatin1_aae02_13 (by decide) ?_
  refine r_goto G 18 dJ0_isLatin1_aae02_14 (by decide) ?_
  exact r_iret G hyp (by decide) (Nat.zero_le _) (Nat.zero_le _) dJ0_isLatin1_aae02_18
set_option maxRecDepth 100000 in
set_option maxHeartbeats 4000000 in
theorem ct_J0_coder_7d493 (hl : l.stackTraces = false) (i : Nat) (w0 : xW) (rF : Int32 ⊕ String) (wF : xW) (hyp : f_J0_coder_7d493 i w0 = some (rF, wF)) : xMet Γ l yJ0_coder_7d493 (xws yJ0_coder_7d493 cJ0_coder_7d493 1 (some .byte)) 0 xI [.ref (Γ.2.2.2.1 i)] w0 rF wF (x_mc rF) (x_ms rF) := by
  refine xOfW tg_J0_coder_7d493 hl (lv0 := [(0, .ref (Γ.2.2.2.1 i))]) (Nat.le_of_ble_eq_true rfl) rfl ?_
  intro p e s m below meth c G hno hin
  rw [f_J0_coder_7d493] at hyp
  obtain ⟨hi, hyp⟩ := x_chk hyp
  obtain ⟨q, hq⟩ := xLit_at hi
  obtain ⟨s1, s2, s3, s4, s5⟩ := G.2.2.2.2.2.1.2.2.2.2.2.2.1 i q hq
  refine r_gets G G.2.2.2.2.2.1.2.2.2.2.1 ww_807 dJ0_coder_7d493_0 ?_
  refine r_if_eq (A := (none : xO Int32)) G 13 dJ0_coder_7d493_3 (by decide) ((if_neg (by decide)).trans hyp) (fun h _ => absurd h (by decide)) (fun _ hyp => ?_)
  refine r_aload_n G 0 dJ0_coder_7d493_6 rfl rfl ?_
  refine r_kget G s3 ww_808 dJ0_coder_7d493_7 ?_
  refine r_goto G 14 dJ0_coder_7d493_10 (by decide) ?_
  exact r_iret G hyp (by decide) (Nat.zero_le _) (Nat.zero_le _) dJ0_coder_7d493_14
set_option maxRecDepth 100000 in
set_option maxHeartbeats 4000000 in
theorem ct_J0_length_8abf5 (hl : l.stackTraces = false) (i : Nat) (w0 : xW) (rF : Int32 ⊕ String) (wF : xW) (hyp : f_J0_length_8abf5 i w0 = some (rF, wF)) : xMet Γ l yJ0_length_8abf5 (xws yJ0_length_8abf5 cJ0_length_8abf5 1 (some .int)) 1 xI [.ref (Γ.2.2.2.1 i)] w0 rF wF (x_mc rF) (x_ms rF) := by
  refine xOfW tg_J0_length_8abf5 hl (lv0 := [(0, .ref (Γ.2.2.2.1 i))]) (Nat.le_of_ble_eq_true rfl) rfl ?_
  intro p e s m below meth c G hno hin
  rw [f_J0_length_8abf5] at hyp
  obtain ⟨hi, hyp⟩ := x_chk hyp
  obtain ⟨q, hq⟩ := xLit_at hi
  obtain ⟨s1, s2, s3, s4, s5⟩ := G.2.2.2.2.2.1.2.2.2.2.2.2.1 i q hq
  refine r_aload_n G 0 dJ0_length_8abf5_0 rfl rfl ?_
  refine r_kget G s4 ww_809 dJ0_length_8abf5_1 ?_
  refine r_tlen G s5 dJ0_length_8abf5_4 ?_
  refine r_aload_n G 0 dJ0_length_8abf5_5 rfl rfl ?_
  refine r_callStr (ι := xI) (i := i) (rest := [.int (nI (xBy i).length)]) (As := []) (x := f_J0_coder_7d493 i w0) (K := fun v w => x_ret (nI (xBy i).length >>> (v &&& 31)) w) G hno hi rfl tg_J0_coder_7d493 (fun r w' h => ct_J0_coder_7d493 (xhl G) _ _ r w' h) (by rw [f_J0_coder_7d493, if_pos hi]; show x_ret _ w0 = _; rw [x_sh0]; exact hyp) ww_810 ww_811 ww_812 (by decide) (by decide) rfl rfl (xroom (Nat.le_of_ble_eq_true rfl)) dJ0_length_8abf5_6 (push := fun v => [.int v, .int (nI (xBy i).length)]) (fun _ => rfl) (fun v w1 hyp => ?_)
  refine r_ishr G dJ0_length_8abf5_9 ?_
  exact r_iret G hyp rfl (Nat.zero_le _) (Nat.zero_le _) dJ0_length_8abf5_10
set_option maxRecDepth 100000 in
set_option maxHeartbeats 4000000 in
theorem ct_J3_checkIndex_8e157 (hl : l.stackTraces = false) (x0 x1 : Int32) (x2 : Option Nat) (w0 : xW) (rF : Int32 ⊕ String) (wF : xW) (hyp : f_J3_checkIndex_8e157 x0 x1 x2 w0 = some (rF, wF)) : xMet Γ l yJ3_checkIndex_8e157 (xws yJ3_checkIndex_8e157 cJ3_checkIndex_8e157 3 (some .int)) 0 xI [.int x0, .int x1, va_rf x2] w0 rF wF (x_mc rF) (x_ms rF) := by
  refine xOfW tg_J3_checkIndex_8e157 hl (lv0 := [(0, .int x0), (1, .int x1), (2, va_rf x2)]) (by cases x2 <;> exact Nat.le_of_ble_eq_true rfl) (by cases x2 <;> rfl) ?_
  intro p e s m below meth c G hno hin
  rw [f_J3_checkIndex_8e157] at hyp
  obtain ⟨⟨h0, h1⟩, hyp⟩ := x_chk hyp
  have h0' : ¬ x0 < 0 := Int32.not_lt.mpr h0
  refine r_iload_n G 0 dJ3_checkIndex_8e157_0 rfl rfl ?_
  refine r_if_lt (A := (none : xO Int32)) G 9 dJ3_checkIndex_8e157_1 (by decide) ((if_neg h0').trans hyp) (fun h _ => absurd h h0') (fun _ hyp => ?_)
  refine r_iload_n G 0 dJ3_checkIndex_8e157_4 rfl rfl ?_
  refine r_iload_n G 1 dJ3_checkIndex_8e157_5 rfl rfl ?_
  refine r_icmp_lt (B := (none : xO Int32)) G 16 dJ3_checkIndex_8e157_6 (by decide) ((if_pos h1).trans hyp) (fun _ hyp => ?_) (fun h _ => absurd h1 h)
  refine r_iload_n G 0 dJ3_checkIndex_8e157_16 rfl rfl ?_
  exact r_iret G hyp rfl (Nat.zero_le _) (Nat.zero_le _) dJ3_checkIndex_8e157_17
set_option maxRecDepth 100000 in
set_option maxHeartbeats 4000000 in
theorem ct_J0_checkIndex_df160 (hl : l.stackTraces = false) (x0 x1 : Int32) (w0 : xW) (rF : Unit ⊕ String) (wF : xW) (hyp : f_J0_checkIndex_df160 x0 x1 w0 = some (rF, wF)) : xMet Γ l yJ0_checkIndex_df160 (xws yJ0_checkIndex_df160 cJ0_checkIndex_df160 2 none) 1 xV [.int x0, .int x1] w0 rF wF (x_mc rF) (x_ms rF) := by
  refine xOfW tg_J0_checkIndex_df160 hl (lv0 := [(0, .int x0), (1, .int x1)]) (Nat.le_of_ble_eq_true rfl) rfl ?_
  intro p e s m below meth c G hno hin
  rw [f_J0_checkIndex_df160] at hyp
  obtain ⟨h01, hyp⟩ := x_chk hyp
  have hz : ∃ o : Option Nat, va_Z "jdk/internal/util/Preconditions" "SIOOBE_FORMATTER" "Ljava/util/function/BiFunction;" (va_rf o) (xA Γ) s s.heap := by
    rcases G.2.2.2.2.2.1.2.2.2.2.2.1 with h | ⟨t, h⟩
    · exact ⟨none, h⟩
    · exact ⟨some t, h⟩
  obtain ⟨o, hz⟩ := hz
  refine r_iload_n G 0 dJ0_checkIndex_df160_0 rfl rfl ?_
  refine r_iload_n G 1 dJ0_checkIndex_df160_1 rfl rfl ?_
  refine r_gets G hz ww_813 dJ0_checkIndex_df160_2 ?_
  refine r_callS (ι := xI) (rest := []) (As := [.int x0, .int x1, va_rf o]) (x := f_J3_checkIndex_8e157 x0 x1 o w0) (K := fun _ w => x_ret () w) G hno tg_J3_checkIndex_8e157 (fun r w' h => ct_J3_checkIndex_8e157 (xhl G) _ _ _ _ r w' h) (by rw [f_J3_checkIndex_8e157, if_pos h01]; exact hyp) ww_814 ww_815 (by decide) (by decide) rfl rfl (xroom (Nat.le_of_ble_eq_true rfl)) dJ0_checkIndex_df160_5 (push := fun v => [.int v]) (fun _ => rfl) (fun v w1 hyp => ?_)
  refine r_pop G dJ0_checkIndex_df160_8 rfl ?_
  exact r_vret G hyp (Nat.zero_le _) (Nat.zero_le _) dJ0_checkIndex_df160_9
theorem x_bnd {N : Nat} {x : Int32} (hN : N < 2 ^ 31) (h0 : 0 ≤ x) (h1 : x < nI N) : vp_in x N := by
  have h0' : ¬ x < 0 := Int32.not_lt.mpr h0
  obtain ⟨j, hj, rfl⟩ := nI_of h0'
  exact vp_in_nI ((nI_ltI hj hN).mp h1) hN
set_option maxRecDepth 100000 in
set_option maxHeartbeats 4000000 in
theorem ct_J1_charAt_3b067 (hl : l.stackTraces = false) (i : Nat) (x1 : Int32) (w0 : xW) (rF : Int32 ⊕ String) (wF : xW) (hyp : f_J1_charAt_3b067 i x1 w0 = some (rF, wF)) : xMet Γ l yJ1_charAt_3b067 (xws yJ1_charAt_3b067 cJ1_charAt_3b067 2 (some .char)) 2 xI [.ref (Γ.2.2.2.2 i), .int x1] w0 rF wF (x_mc rF) (x_ms rF) := by
  refine xOfW tg_J1_charAt_3b067 hl (lv0 := [(0, .ref (Γ.2.2.2.2 i)), (1, .int x1)]) (Nat.le_of_ble_eq_true rfl) rfl ?_
  intro p e s m below meth c G hno hin
  rw [f_J1_charAt_3b067] at hyp
  obtain ⟨⟨hi, h0, h1⟩, hyp⟩ := x_chk hyp
  obtain ⟨q, hq⟩ := xLit_at hi
  obtain ⟨s1, s2, s3, s4, s5⟩ := G.2.2.2.2.2.1.2.2.2.2.2.2.1 i q hq
  refine r_iload_n G 1 dJ1_charAt_3b067_0 rfl rfl ?_
  refine r_aload_n G 0 dJ1_charAt_3b067_1 rfl rfl ?_
  refine r_tlen G s5 dJ1_charAt_3b067_2 ?_
  refine r_callS (ι := xV) (rest := []) (As := [.int x1, .int (nI (xBy i).length)]) (x := f_J0_checkIndex_df160 x1 (nI (xBy i).length) w0) (K := fun _ w => x_ret (x_sch i x1) w) G hno tg_J0_checkIndex_df160 (fun r w' h => ct_J0_checkIndex_df160 (xhl G) _ _ _ r w' h) (by rw [f_J0_checkIndex_df160, if_pos ⟨h0, h1⟩]; exact hyp) ww_816 ww_817 (by decide) (by decide) rfl rfl (xroom (Nat.le_of_ble_eq_true rfl)) dJ1_charAt_3b067_3 (push := fun _ => []) (fun _ => rfl) (fun _ w1 hyp => ?_)
  refine r_aload_n G 0 dJ1_charAt_3b067_6 rfl rfl ?_
  refine r_iload_n G 1 dJ1_charAt_3b067_7 rfl rfl ?_
  refine r_tb G s5 (x_bnd (Nat.lt_trans (xBy_lt i hi) (by decide)) h0 h1) rfl dJ1_charAt_3b067_8 ?_
  refine r_sipush (v := 255) G dJ1_charAt_3b067_9 (by decide) ?_
  refine r_iand G dJ1_charAt_3b067_12 ?_
  refine r_i2c G dJ1_charAt_3b067_13 ?_
  exact r_iret G hyp (pk_nc _) (Nat.zero_le _) (Nat.zero_le _) dJ1_charAt_3b067_14
set_option maxRecDepth 100000 in
set_option maxHeartbeats 4000000 in
theorem ct_J0_charAt_5068e (hl : l.stackTraces = false) (i : Nat) (x1 : Int32) (w0 : xW) (rF : Int32 ⊕ String) (wF : xW) (hyp : f_J0_charAt_5068e i x1 w0 = some (rF, wF)) : xMet Γ l yJ0_charAt_5068e (xws yJ0_charAt_5068e cJ0_charAt_5068e 2 (some .char)) 3 xI [.ref (Γ.2.2.2.1 i), .int x1] w0 rF wF (x_mc rF) (x_ms rF) := by
  refine xOfW tg_J0_charAt_5068e hl (lv0 := [(0, .ref (Γ.2.2.2.1 i)), (1, .int x1)]) (Nat.le_of_ble_eq_true rfl) rfl ?_
  intro p e s m below meth c G hno hin
  rw [f_J0_charAt_5068e] at hyp
  obtain ⟨hh, hyp⟩ := x_chk hyp
  have hi := hh.1
  obtain ⟨q, hq⟩ := xLit_at hi
  obtain ⟨s1, s2, s3, s4, s5⟩ := G.2.2.2.2.2.1.2.2.2.2.2.2.1 i q hq
  refine r_aload_n G 0 dJ0_charAt_5068e_0 rfl rfl ?_
  refine r_callStr (ι := xI) (i := i) (rest := []) (As := []) (x := f_J0_isLatin1_aae02 i w0) (K := fun v w => if v = 0 then none else x_ret (x_sch i x1) w) G hno hi rfl tg_J0_isLatin1_aae02 (fun r w' h => ct_J0_isLatin1_aae02 (xhl G) _ _ r w' h) (by rw [f_J0_isLatin1_aae02, if_pos hi]; show (if (1 : Int32) = 0 then none else x_ret _ w0) = _; rw [if_neg (by decide)]; exact hyp) ww_818 ww_819 ww_820 (by decide) (by decide) rfl rfl (xroom (Nat.le_of_ble_eq_true rfl)) dJ0_charAt_5068e_1 (push := fun v => [.int v]) (fun _ => rfl) (fun v w1 hyp => ?_)
  refine r_if_eq (A := (none : xO Int32)) G 16 dJ0_charAt_5068e_4 (by decide) hyp (fun _ h => nomatch h) (fun _ hyp => ?_)
  refine r_aload_n G 0 dJ0_charAt_5068e_7 rfl rfl ?_
  refine r_kget G s4 ww_809 dJ0_charAt_5068e_8 ?_
  refine r_iload_n G 1 dJ0_charAt_5068e_11 rfl rfl ?_
  refine r_callS (ι := xI) (rest := []) (As := [.ref (Γ.2.2.2.2 i), .int x1]) (x := f_J1_charAt_3b067 i x1 w1) (K := fun v w => if narrow .char (.int v) = .int v then x_ret v w else none) G hno tg_J1_charAt_3b067 (fun r w' h => ct_J1_charAt_3b067 (xhl G) _ _ _ r w' h) (by rw [f_J1_charAt_3b067, if_pos hh]; show (if narrow .char (.int (x_sch i x1)) = .int (x_sch i x1) then x_ret _ w1 else none) = _; exact (if_pos (show narrow .char (.int (x_sch i x1)) = .int (x_sch i x1) from pk_nc _)).trans hyp) ww_821 ww_822 (by decide) (by decide) rfl rfl (xroom (Nat.le_of_ble_eq_true rfl)) dJ0_charAt_5068e_12 (push := fun v => [.int v]) (fun _ => rfl) (fun v w2 hyp => ?_)
  obtain ⟨hn, hyp⟩ := x_chk hyp
  exact r_iret G hyp hn (Nat.zero_le _) (Nat.zero_le _) dJ0_charAt_5068e_15
end
