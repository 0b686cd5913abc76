section
variable {Γ : xG} {p : Program} {l : Launch} {e : Env} {s : State} {m : MethodId} {below : List Frame} {meth : Method} {c : Code} {wF : xW} {b L : Nat} {xs : Nat → Int32}
set_option maxRecDepth 100000 in
set_option maxHeartbeats 4000000 in
theorem nd_L_law_J2052 {k23 : Nat → Nat → Nat → Int32 → xW → xO Int32} (G : xCx Γ p l s m #[Value.ref b] meth c RL cL_law 9 (some .boolean)) (hN : xNc s) (hX : xSc Γ b L xs s) (n : Nat) (hk23 : ∀ (x1 : Nat) (x2 : Nat) (x3 : Nat) (x4 : Int32) (w : xW) (cells slots : Nat), cells + n * 1 ≤ 601024 → slots + n * 6 ≤ 7293034 → k23 x1 x2 x3 x4 w = some (Sum.inl (1 : Int32), wF) → xAW Γ p l e room_1 s m #[Value.ref b] below meth c 9 (lw_Z below #[Value.ref b] s) w cells slots 23 [(0, .ref b), (1, .ref x1), (2, .ref x2), (3, .ref x3), (4, .int x4)] []) (x1 : Nat) (x2 : Nat) (x3 : Nat) (x4 : Int32) (w0 : xW) (cells slots : Nat) (hcl : cells + (n + 1) * 1 ≤ 601024) (hsl : slots + (n + 1) * 6 ≤ 7293034) (hyp : f_L_law_J2052 xs L k23 x1 x2 x3 x4 w0 = some (Sum.inl (1 : Int32), wF)) : xAW Γ p l e room_1 s m #[Value.ref b] below meth c 9 (lw_Z below #[Value.ref b] s) w0 cells slots 2052 [(0, .ref b), (1, .ref x1), (2, .ref x2), (3, .ref x3), (4, .int x4)] [] := by
  rw [f_L_law_J2052] at hyp
  refine r_aload_n G 1 dL_law_2052 rfl rfl ?_
  obtain ⟨o507, hyp⟩ := x_chk hyp
  refine r_callLV (ι := xDb) (T := TX6) (N := 9) (ci := 6) (b := x1) (rest := []) (As := []) G tg_X6_meanTone (fun r w' h => ct_X6_meanTone (xhl G) _ _ r w' h) o507 hyp rfl ww_1168 ww_1170 ww_1169 (by decide) (by decide) (by first | exact ⟨Nat.le_of_ble_eq_true rfl, Nat.le_of_ble_eq_true rfl⟩ | (constructor <;> (show _ ≤ _; simp only [room_1]; omega))) rfl rfl (xroom (Nat.le_of_ble_eq_true rfl)) dL_law_2053 (push := (fun r506 => [.double r506])) (fun _ => rfl) (fun r506 w505 hyp => ?_)
  refine r_dstore (lv' := [(5, .double r506), (0, .ref b), (1, .ref x1), (2, .ref x2), (3, .ref x3), (4, .int x4)]) G dL_law_2056 (by decide) rfl ?_
  refine r_aload_n G 3 dL_law_2058 rfl rfl ?_
  obtain ⟨o510, hyp⟩ := x_chk hyp
  refine r_callLV (ι := xDb) (T := TX7) (N := 22) (ci := 7) (b := x2) (rest := []) (As := []) G tg_X7_meanTone (fun r w' h => ct_X7_meanTone (xhl G) _ _ r w' h) o510 hyp rfl ww_1171 ww_1173 ww_1172 (by decide) (by decide) (by first | exact ⟨Nat.le_of_ble_eq_true rfl, Nat.le_of_ble_eq_true rfl⟩ | (constructor <;> (show _ ≤ _; simp only [room_1]; omega))) rfl rfl (xroom (Nat.le_of_ble_eq_true rfl)) dL_law_2059 (push := (fun r509 => [.double r509])) (fun _ => rfl) (fun r509 w508 hyp => ?_)
  refine r_dstore (lv' := [(7, .double r509), (5, .double r506), (0, .ref b), (1, .ref x1), (2, .ref x2), (3, .ref x3), (4, .int x4)]) G dL_law_2062 (by decide) rfl ?_
  refine r_dload G 1 dL_law_2064 rfl ?_
  refine r_dload G 0 dL_law_2066 rfl ?_
  refine r_dcmp G dL_law_2068 ?_
  refine r_if_eq G 2090 dL_law_2069 (by decide) hyp (fun c511 hyp => ?_) (fun c511 hyp => ?_)
  · refine r_goto G 2578 dL_law_2090 (by decide) ?_
    refine r_iinc (v := (x4 + 7)) (lv' := [(4, .int (x4 + 7)), (7, .double r509), (5, .double r506), (0, .ref b), (1, .ref x1), (2, .ref x2), (3, .ref x3)]) G 6 dL_law_2578 rfl rfl (by decide) ⟨fun h => absurd h (show ¬ (7 + 1 = 4) by decide), fun h => absurd h (show ¬ (5 + 1 = 4) by decide), fun _ => rfl, fun _ => rfl, fun _ => rfl, fun _ => rfl, fun _ => rfl, trivial⟩ rfl ?_
    refine r_goto G 23 dL_law_2581 (by decide) ?_
    refine r_weak (lv' := [(0, .ref b), (1, .ref x1), (2, .ref x2), (3, .ref x3), (4, .int (x4 + 7))]) [3, 4, 5, 6, 0] rfl ?_
    exact hk23 x1 x2 x3 (x4 + 7) w508 _ _ (by omega) (by omega) hyp
  · refine r_dload G 1 dL_law_2072 rfl ?_
    refine r_dload G 1 dL_law_2074 rfl ?_
    refine r_dcmp G dL_law_2076 ?_
    refine r_if_eq G 2088 dL_law_2077 (by decide) hyp (fun c512 hyp => ?_) (fun c512 hyp => ?_)
    · refine r_iconst (v := 0) G dL_law_2088 (by decide) ?_
      exact r_lwF hyp
    · refine r_dload G 0 dL_law_2080 rfl ?_
      refine r_dload G 0 dL_law_2082 rfl ?_
      refine r_dcmp G dL_law_2084 ?_
      refine r_if_ne G 2090 dL_law_2085 (by decide) hyp (fun c513 hyp => ?_) (fun c513 hyp => ?_)
      · refine r_goto G 2578 dL_law_2090 (by decide) ?_
        refine r_iinc (v := (x4 + 7)) (lv' := [(4, .int (x4 + 7)), (7, .double r509), (5, .double r506), (0, .ref b), (1, .ref x1), (2, .ref x2), (3, .ref x3)]) G 6 dL_law_2578 rfl rfl (by decide) ⟨fun h => absurd h (show ¬ (7 + 1 = 4) by decide), fun h => absurd h (show ¬ (5 + 1 = 4) by decide), fun _ => rfl, fun _ => rfl, fun _ => rfl, fun _ => rfl, fun _ => rfl, trivial⟩ rfl ?_
        refine r_goto G 23 dL_law_2581 (by decide) ?_
        refine r_weak (lv' := [(0, .ref b), (1, .ref x1), (2, .ref x2), (3, .ref x3), (4, .int (x4 + 7))]) [3, 4, 5, 6, 0] rfl ?_
        exact hk23 x1 x2 x3 (x4 + 7) w508 _ _ (by omega) (by omega) hyp
      · refine r_iconst (v := 0) G dL_law_2088 (by decide) ?_
        exact r_lwF hyp
end
section
variable {Γ : xG} {p : Program} {l : Launch} {e : Env} {s : State} {m : MethodId} {below : List Frame} {meth : Method} {c : Code} {wF : xW} {b L : Nat} {xs : Nat → Int32}
set_option maxRecDepth 100000 in
set_option maxHeartbeats 4000000 in
theorem nd_L_law_J2093 {k23 : Nat → Nat → Nat → Int32 → xW → xO Int32} (G : xCx Γ p l s m #[Value.ref b] meth c RL cL_law 9 (some .boolean)) (hN : xNc s) (hX : xSc Γ b L xs s) (n : Nat) (hk23 : ∀ (x1 : Nat) (x2 : Nat) (x3 : Nat) (x4 : Int32) (w : xW) (cells slots : Nat), cells + n * 1 ≤ 601024 → slots + n * 6 ≤ 7293034 → k23 x1 x2 x3 x4 w = some (Sum.inl (1 : Int32), wF) → xAW Γ p l e room_1 s m #[Value.ref b] below meth c 9 (lw_Z below #[Value.ref b] s) w cells slots 23 [(0, .ref b), (1, .ref x1), (2, .ref x2), (3, .ref x3), (4, .int x4)] []) (x1 : Nat) (x2 : Nat) (x3 : Nat) (x4 : Int32) (w0 : xW) (cells slots : Nat) (hcl : cells + (n + 1) * 1 ≤ 601024) (hsl : slots + (n + 1) * 6 ≤ 7293034) (hyp : f_L_law_J2093 xs L k23 x1 x2 x3 x4 w0 = some (Sum.inl (1 : Int32), wF)) : xAW Γ p l e room_1 s m #[Value.ref b] below meth c 9 (lw_Z below #[Value.ref b] s) w0 cells slots 2093 [(0, .ref b), (1, .ref x1), (2, .ref x2), (3, .ref x3), (4, .int x4)] [] := by
  rw [f_L_law_J2093] at hyp
  refine r_aload_n G 1 dL_law_2093 rfl rfl ?_
  obtain ⟨o517, hyp⟩ := x_chk hyp
  refine r_callLV (ι := xFl) (T := TX6) (N := 9) (ci := 6) (b := x1) (rest := []) (As := []) G tg_X6_coveredShare (fun r w' h => ct_X6_coveredShare (xhl G) _ _ r w' h) o517 hyp rfl ww_1174 ww_1176 ww_1175 (by decide) (by decide) (by first | exact ⟨Nat.le_of_ble_eq_true rfl, Nat.le_of_ble_eq_true rfl⟩ | (constructor <;> (show _ ≤ _; simp only [room_1]; omega))) rfl rfl (xroom (Nat.le_of_ble_eq_true rfl)) dL_law_2094 (push := (fun r516 => [.float r516])) (fun _ => rfl) (fun r516 w515 hyp => ?_)
  obtain ⟨h518, hyp⟩ := x_chk hyp
  refine r_f2d G dL_law_2097 (x_n64_e h518) ?_
  refine r_dstore (lv' := [(5, .double (FP.f2d r516)), (0, .ref b), (1, .ref x1), (2, .ref x2), (3, .ref x3), (4, .int x4)]) G dL_law_2098 (by decide) rfl ?_
  refine r_aload_n G 3 dL_law_2100 rfl rfl ?_
  obtain ⟨o521, hyp⟩ := x_chk hyp
  refine r_callLV (ι := xFl) (T := TX7) (N := 22) (ci := 7) (b := x2) (rest := []) (As := []) G tg_X7_coveredShare (fun r w' h => ct_X7_coveredShare (xhl G) _ _ r w' h) o521 hyp rfl ww_1177 ww_1179 ww_1178 (by decide) (by decide) (by first | exact ⟨Nat.le_of_ble_eq_true rfl, Nat.le_of_ble_eq_true rfl⟩ | (constructor <;> (show _ ≤ _; simp only [room_1]; omega))) rfl rfl (xroom (Nat.le_of_ble_eq_true rfl)) dL_law_2101 (push := (fun r520 => [.float r520])) (fun _ => rfl) (fun r520 w519 hyp => ?_)
  obtain ⟨h522, hyp⟩ := x_chk hyp
  refine r_f2d G dL_law_2104 (x_n64_e h522) ?_
  refine r_dstore (lv' := [(7, .double (FP.f2d r520)), (5, .double (FP.f2d r516)), (0, .ref b), (1, .ref x1), (2, .ref x2), (3, .ref x3), (4, .int x4)]) G dL_law_2105 (by decide) rfl ?_
  refine r_dload G 1 dL_law_2107 rfl ?_
  refine r_dload G 0 dL_law_2109 rfl ?_
  refine r_dcmp G dL_law_2111 ?_
  refine r_if_eq G 2133 dL_law_2112 (by decide) hyp (fun c523 hyp => ?_) (fun c523 hyp => ?_)
  · refine r_goto G 2578 dL_law_2133 (by decide) ?_
    refine r_iinc (v := (x4 + 7)) (lv' := [(4, .int (x4 + 7)), (7, .double (FP.f2d r520)), (5, .double (FP.f2d r516)), (0, .ref b), (1, .ref x1), (2, .ref x2), (3, .ref x3)]) G 6 dL_law_2578 rfl rfl (by decide) ⟨fun h => absurd h (show ¬ (7 + 1 = 4) by decide), fun h => absurd h (show ¬ (5 + 1 = 4) by decide), fun _ => rfl, fun _ => rfl, fun _ => rfl, fun _ => rfl, fun _ => rfl, trivial⟩ rfl ?_
    refine r_goto G 23 dL_law_2581 (by decide) ?_
    refine r_weak (lv' := [(0, .ref b), (1, .ref x1), (2, .ref x2), (3, .ref x3), (4, .int (x4 + 7))]) [3, 4, 5, 6, 0] rfl ?_
    exact hk23 x1 x2 x3 (x4 + 7) w519 _ _ (by omega) (by omega) hyp
  · refine r_dload G 1 dL_law_2115 rfl ?_
    refine r_dload G 1 dL_law_2117 rfl ?_
    refine r_dcmp G dL_law_2119 ?_
    refine r_if_eq G 2131 dL_law_2120 (by decide) hyp (fun c524 hyp => ?_) (fun c524 hyp => ?_)
    · refine r_iconst (v := 0) G dL_law_2131 (by decide) ?_
      exact r_lwF hyp
    · refine r_dload G 0 dL_law_2123 rfl ?_
      refine r_dload G 0 dL_law_2125 rfl ?_
      refine r_dcmp G dL_law_2127 ?_
      refine r_if_ne G 2133 dL_law_2128 (by decide) hyp (fun c525 hyp => ?_) (fun c525 hyp => ?_)
      · refine r_goto G 2578 dL_law_2133 (by decide) ?_
        refine r_iinc (v := (x4 + 7)) (lv' := [(4, .int (x4 + 7)), (7, .double (FP.f2d r520)), (5, .double (FP.f2d r516)), (0, .ref b), (1, .ref x1), (2, .ref x2), (3, .ref x3)]) G 6 dL_law_2578 rfl rfl (by decide) ⟨fun h => absurd h (show ¬ (7 + 1 = 4) by decide), fun h => absurd h (show ¬ (5 + 1 = 4) by decide), fun _ => rfl, fun _ => rfl, fun _ => rfl, fun _ => rfl, fun _ => rfl, trivial⟩ rfl ?_
        refine r_goto G 23 dL_law_2581 (by decide) ?_
        refine r_weak (lv' := [(0, .ref b), (1, .ref x1), (2, .ref x2), (3, .ref x3), (4, .int (x4 + 7))]) [3, 4, 5, 6, 0] rfl ?_
        exact hk23 x1 x2 x3 (x4 + 7) w519 _ _ (by omega) (by omega) hyp
      · refine r_iconst (v := 0) G dL_law_2131 (by decide) ?_
        exact r_lwF hyp
end
section
variable {Γ : xG} {p : Program} {l : Launch} {e : Env} {s : State} {m : MethodId} {below : List Frame} {meth : Method} {c : Code} {wF : xW} {b L : Nat} {xs : Nat → Int32}
set_option maxRecDepth 100000 in
set_option maxHeartbeats 4000000 in
theorem nd_L_law_J2136 {k23 : Nat → Nat → Nat → Int32 → xW → xO Int32} (G : xCx Γ p l s m #[Value.ref b] meth c RL cL_law 9 (some .boolean)) (hN : xNc s) (hX : xSc Γ b L xs s) (n : Nat) (hk23 : ∀ (x1 : Nat) (x2 : Nat) (x3 : Nat) (x4 : Int32) (w : xW) (cells slots : Nat), cells + n * 1 ≤ 601024 → slots + n * 6 ≤ 7293034 → k23 x1 x2 x3 x4 w = some (Sum.inl (1 : Int32), wF) → xAW Γ p l e room_1 s m #[Value.ref b] below meth c 9 (lw_Z below #[Value.ref b] s) w cells slots 23 [(0, .ref b), (1, .ref x1), (2, .ref x2), (3, .ref x3), (4, .int x4)] []) (x1 : Nat) (x2 : Nat) (x3 : Nat) (x4 : Int32) (w0 : xW) (cells slots : Nat) (hcl : cells + (n + 1) * 1 ≤ 601024) (hsl : slots + (n + 1) * 6 ≤ 7293034) (hyp : f_L_law_J2136 xs L k23 x1 x2 x3 x4 w0 = some (Sum.inl (1 : Int32), wF)) : xAW Γ p l e room_1 s m #[Value.ref b] below meth c 9 (lw_Z below #[Value.ref b] s) w0 cells slots 2136 [(0, .ref b), (1, .ref x1), (2, .ref x2), (3, .ref x3), (4, .int x4)] [] := by
  rw [f_L_law_J2136] at hyp
  refine r_aload_n G 1 dL_law_2136 rfl rfl ?_
  obtain ⟨o529, hyp⟩ := x_chk hyp
  refine r_callLV (ι := xI) (T := TX6) (N := 9) (ci := 6) (b := x1) (rest := []) (As := []) G tg_X6_isConsistent (fun r w' h => ct_X6_isConsistent (xhl G) _ _ r w' h) o529 hyp rfl ww_1180 ww_1182 ww_1181 (by decide) (by decide) (by first | exact ⟨Nat.le_of_ble_eq_true rfl, Nat.le_of_ble_eq_true rfl⟩ | (constructor <;> (show _ ≤ _; simp only [room_1]; omega))) rfl rfl (xroom (Nat.le_of_ble_eq_true rfl)) dL_law_2137 (push := (fun r528 => [.int r528])) (fun _ => rfl) (fun r528 w527 hyp => ?_)
  refine r_aload_n G 2 dL_law_2140 rfl rfl ?_
  obtain ⟨o532, hyp⟩ := x_chk hyp
  refine r_callLV (ι := xI) (T := TX7) (N := 22) (ci := 7) (b := x2) (rest := [.int r528]) (As := []) G tg_X7_isConsistent (fun r w' h => ct_X7_isConsistent (xhl G) _ _ r w' h) o532 hyp rfl ww_1183 ww_1185 ww_1184 (by decide) (by decide) (by first | exact ⟨Nat.le_of_ble_eq_true rfl, Nat.le_of_ble_eq_true rfl⟩ | (constructor <;> (show _ ≤ _; simp only [room_1]; omega))) rfl rfl (xroom (Nat.le_of_ble_eq_true rfl)) dL_law_2141 (push := (fun r531 => [.int r531, .int r528])) (fun _ => rfl) (fun r531 w530 hyp => ?_)
  refine r_icmp_eq G 2578 dL_law_2144 (by decide) hyp (fun c533 hyp => ?_) (fun c533 hyp => ?_)
  · refine r_iinc (v := (x4 + 7)) (lv' := [(4, .int (x4 + 7)), (0, .ref b), (1, .ref x1), (2, .ref x2), (3, .ref x3)]) G 4 dL_law_2578 rfl rfl (by decide) ⟨fun _ => rfl, fun _ => rfl, fun _ => rfl, fun _ => rfl, fun _ => rfl, trivial⟩ rfl ?_
    refine r_goto G 23 dL_law_2581 (by decide) ?_
    refine r_weak (lv' := [(0, .ref b), (1, .ref x1), (2, .ref x2), (3, .ref x3), (4, .int (x4 + 7))]) [1, 2, 3, 4, 0] rfl ?_
    exact hk23 x1 x2 x3 (x4 + 7) w530 _ _ (by omega) (by omega) hyp
  · refine r_iconst (v := 0) G dL_law_2147 (by decide) ?_
    exact r_lwF hyp
end
section
variable {Γ : xG} {p : Program} {l : Launch} {e : Env} {s : State} {m : MethodId} {below : List Frame} {meth : Method} {c : Code} {wF : xW} {b L : Nat} {xs : Nat → Int32}
set_option maxRecDepth 100000 in
set_option maxHeartbeats 4000000 in
theorem nd_L_law_J2149 {k23 : Nat → Nat → Nat → Int32 → xW → xO Int32} (G : xCx Γ p l s m #[Value.ref b] meth c RL cL_law 9 (some .boolean)) (hN : xNc s) (hX : xSc Γ b L xs s) (n : Nat) (hk23 : ∀ (x1 : Nat) (x2 : Nat) (x3 : Nat) (x4 : Int32) (w : xW) (cells slots : Nat), cells + n * 1 ≤ 601024 → slots + n * 6 ≤ 7293034 → k23 x1 x2 x3 x4 w = some (Sum.inl (1 : Int32), wF) → xAW Γ p l e room_1 s m #[Value.ref b] below meth c 9 (lw_Z below #[Value.ref b] s) w cells slots 23 [(0, .ref b), (1, .ref x1), (2, .ref x2), (3, .ref x3), (4, .int x4)] []) (x1 : Nat) (x2 : Nat) (x3 : Nat) (x4 : Int32) (w0 : xW) (cells slots : Nat) (hcl : cells + (n + 1) * 1 ≤ 601024) (hsl : slots + (n + 1) * 6 ≤ 7293034) (hyp : f_L_law_J2149 xs L k23 x1 x2 x3 x4 w0 = some (Sum.inl (1 : Int32), wF)) : xAW Γ p l e room_1 s m #[Value.ref b] below meth c 9 (lw_Z below #[Value.ref b] s) w0 cells slots 2149 [(0, .ref b), (1, .ref x1), (2, .ref x2), (3, .ref x3), (4, .int x4)] [] := by
  rw [f_L_law_J2149] at hyp
  refine r_aload_n G 1 dL_law_2149 rfl rfl ?_
  refine r_aload_n G 0 dL_law_2150 rfl rfl ?_
  refine r_iload G 4 dL_law_2151 rfl ?_
  refine r_iconst (v := 1) G dL_law_2153 (by decide) ?_
  refine r_iadd G dL_law_2154 ?_
  obtain ⟨h535, hyp⟩ := x_chk hyp
  refine r_sld G hX h535 dL_law_2155 ?_
  refine r_i2c G dL_law_2156 ?_
  refine r_aload_n G 3 dL_law_2157 rfl rfl ?_
  refine r_callLS (ι := xI) (rest := []) (As := [va_rf (some x1), .int (x_c (xs ((x4 + 1)).toNatClampNeg)), va_rf (some x3)]) G hN tgh_L_feed (fun r w' h => ct_L_feed (xhl G) _ _ _ _ r w' h) hyp ww_1186 ww_1187 (by decide) (by decide) (by first | exact ⟨Nat.le_of_ble_eq_true rfl, Nat.le_of_ble_eq_true rfl⟩ | (constructor <;> (show _ ≤ _; simp only [room_1]; omega))) rfl rfl (xroom (Nat.le_of_ble_eq_true rfl)) dL_law_2158 (push := (fun r537 => [.int r537])) (fun _ => rfl) (fun r537 w536 hyp => ?_)
  refine r_istore (lv' := [(5, .int r537), (0, .ref b), (1, .ref x1), (2, .ref x2), (3, .ref x3), (4, .int x4)]) G dL_law_2161 (by decide) ⟨fun _ => rfl, fun _ => rfl, fun _ => rfl, fun _ => rfl, fun _ => rfl, trivial⟩ rfl ?_
  refine r_aload_n G 3 dL_law_2163 rfl rfl ?_
  refine r_aload_n G 1 dL_law_2164 rfl rfl ?_
  refine r_iload G 5 dL_law_2165 rfl ?_
  refine r_iconst (v := 1) G dL_law_2167 (by decide) ?_
  refine r_iadd G dL_law_2168 ?_
  obtain ⟨h538, hyp⟩ := x_chk hyp
  refine r_sld G hX h538 dL_law_2169 ?_
  refine r_i2c G dL_law_2170 ?_
  obtain ⟨o541, hyp⟩ := x_chk hyp
  refine r_callLV (ι := xI) (T := TX7) (N := 22) (ci := 7) (b := x2) (rest := []) (As := [.int (x_c (xs ((x4 + 1)).toNatClampNeg))]) G tg_X7_feed (fun r w' h => ct_X7_feed (xhl G) _ _ _ r w' h) o541 hyp rfl ww_1188 ww_1190 ww_1189 (by decide) (by decide) (by first | exact ⟨Nat.le_of_ble_eq_true rfl, Nat.le_of_ble_eq_true rfl⟩ | (constructor <;> (show _ ≤ _; simp only [room_1]; omega))) rfl rfl (xroom (Nat.le_of_ble_eq_true rfl)) dL_law_2171 (push := (fun r540 => [.int r540])) (fun _ => rfl) (fun r540 w539 hyp => ?_)
  refine r_istore (lv' := [(6, .int r540), (5, .int r537), (0, .ref b), (1, .ref x1), (2, .ref x2), (3, .ref x3), (4, .int x4)]) G dL_law_2174 (by decide) ⟨fun _ => rfl, fun _ => rfl, fun _ => rfl, fun _ => rfl, fun _ => rfl, fun _ => rfl, trivial⟩ rfl ?_
  refine r_aload_n G 4 dL_law_2176 rfl rfl ?_
  obtain ⟨o544, hyp⟩ := x_chk hyp
  refine r_callLV (ι := xI) (T := TX7) (N := 22) (ci := 7) (b := x2) (rest := []) (As := []) G tg_X7_thrown (fun r w' h => ct_X7_thrown (xhl G) _ _ r w' h) o544 hyp rfl ww_996 ww_998 ww_997 (by decide) (by decide) (by first | exact ⟨Nat.le_of_ble_eq_true rfl, Nat.le_of_ble_eq_true rfl⟩ | (constructor <;> (show _ ≤ _; simp only [room_1]; omega))) rfl rfl (xroom (Nat.le_of_ble_eq_true rfl)) dL_law_2177 (push := (fun r543 => [.int r543])) (fun _ => rfl) (fun r543 w542 hyp => ?_)
  refine r_iload G 1 dL_law_2180 rfl ?_
  refine r_icmp_eq G 2187 dL_law_2182 (by decide) hyp (fun c545 hyp => ?_) (fun c545 hyp => ?_)
  · refine r_iload G 1 dL_law_2187 rfl ?_
    refine r_if_ne G 2204 dL_law_2189 (by decide) hyp (fun c546 hyp => ?_) (fun c546 hyp => ?_)
    · refine r_goto G 2578 dL_law_2204 (by decide) ?_
      refine r_iinc (v := (x4 + 7)) (lv' := [(4, .int (x4 + 7)), (6, .int r540), (5, .int r537), (0, .ref b), (1, .ref x1), (2, .ref x2), (3, .ref x3)]) G 6 dL_law_2578 rfl rfl (by decide) ⟨fun _ => rfl, fun _ => rfl, fun _ => rfl, fun _ => rfl, fun _ => rfl, fun _ => rfl, fun _ => rfl, trivial⟩ rfl ?_
      refine r_goto G 23 dL_law_2581 (by decide) ?_
      refine r_weak (lv' := [(0, .ref b), (1, .ref x1), (2, .ref x2), (3, .ref x3), (4, .int (x4 + 7))]) [3, 4, 5, 6, 0] rfl ?_
      exact hk23 x1 x2 x3 (x4 + 7) w542 _ _ (by omega) (by omega) hyp
    · refine r_aload_n G 5 dL_law_2192 rfl rfl ?_
      refine r_iconst (v := 0) G dL_law_2193 (by decide) ?_
      obtain ⟨v547, hv547, hyp⟩ := x_some hyp
      refine r_lald G hv547 dL_law_2194 ?_
      refine r_iload G 0 dL_law_2195 rfl ?_
      refine r_i2l G dL_law_2197 ?_
      refine r_lcmp G dL_law_2198 ?_
      refine r_if_eq G 2204 dL_law_2199 (by decide) hyp (fun c548 hyp => ?_) (fun c548 hyp => ?_)
      · refine r_goto G 2578 dL_law_2204 (by decide) ?_
        refine r_iinc (v := (x4 + 7)) (lv' := [(4, .int (x4 + 7)), (6, .int r540), (5, .int r537), (0, .ref b), (1, .ref x1), (2, .ref x2), (3, .ref x3)]) G 6 dL_law_2578 rfl rfl (by decide) ⟨fun _ => rfl, fun _ => rfl, fun _ => rfl, fun _ => rfl, fun _ => rfl, fun _ => rfl, fun _ => rfl, trivial⟩ rfl ?_
        refine r_goto G 23 dL_law_2581 (by decide) ?_
        refine r_weak (lv' := [(0, .ref b), (1, .ref x1), (2, .ref x2), (3, .ref x3), (4, .int (x4 + 7))]) [3, 4, 5, 6, 0] rfl ?_
        exact hk23 x1 x2 x3 (x4 + 7) w542 _ _ (by omega) (by omega) hyp
      · refine r_iconst (v := 0) G dL_law_2202 (by decide) ?_
        exact r_lwF hyp
  · refine r_iconst (v := 0) G dL_law_2185 (by decide) ?_
    exact r_lwF hyp
end
section
variable {Γ : xG} {p : Program} {l : Launch} {e : Env} {s : State} {m : MethodId} {below : List Frame} {meth : Method} {c : Code} {wF : xW} {b L : Nat} {xs : Nat → Int32}
set_option maxRecDepth 100000 in
set_option maxHeartbeats 4000000 in
theorem nd_L_law_J2207 {k23 : Nat → Nat → Nat → Int32 → xW → xO Int32} (G : xCx Γ p l s m #[Value.ref b] meth c RL cL_law 9 (some .boolean)) (hN : xNc s) (hX : xSc Γ b L xs s) (n : Nat) (hk23 : ∀ (x1 : Nat) (x2 : Nat) (x3 : Nat) (x4 : Int32) (w : xW) (cells slots : Nat), cells + n * 1 ≤ 601024 → slots + n * 6 ≤ 7293034 → k23 x1 x2 x3 x4 w = some (Sum.inl (1 : Int32), wF) → xAW Γ p l e room_1 s m #[Value.ref b] below meth c 9 (lw_Z below #[Value.ref b] s) w cells slots 23 [(0, .ref b), (1, .ref x1), (2, .ref x2), (3, .ref x3), (4, .int x4)] []) (x1 : Nat) (x2 : Nat) (x3 : Nat) (x4 : Int32) (w0 : xW) (cells slots : Nat) (hcl : cells + (n + 1) * 1 ≤ 601024) (hsl : slots + (n + 1) * 6 ≤ 7293034) (hyp : f_L_law_J2207 xs L k23 x1 x2 x3 x4 w0 = some (Sum.inl (1 : Int32), wF)) : xAW Γ p l e room_1 s m #[Value.ref b] below meth c 9 (lw_Z below #[Value.ref b] s) w0 cells slots 2207 [(0, .ref b), (1, .ref x1), (2, .ref x2), (3, .ref x3), (4, .int x4)] [] := by
  rw [f_L_law_J2207] at hyp
  refine r_aload_n G 1 dL_law_2207 rfl rfl ?_
  refine r_aload_n G 3 dL_law_2208 rfl rfl ?_
  refine r_callLS (ι := xI) (rest := []) (As := [va_rf (some x1), va_rf (some x3)]) G hN tgh_L_runCommands (fun r w' h => ct_L_runCommands (xhl G) _ _ _ r w' h) hyp ww_1191 ww_1192 (by decide) (by decide) (by first | exact ⟨Nat.le_of_ble_eq_true rfl, Nat.le_of_ble_eq_true rfl⟩ | (constructor <;> (show _ ≤ _; simp only [room_1]; omega))) rfl rfl (xroom (Nat.le_of_ble_eq_true rfl)) dL_law_2209 (push := (fun r551 => [.int r551])) (fun _ => rfl) (fun r551 w550 hyp => ?_)
  refine r_istore (lv' := [(5, .int r551), (0, .ref b), (1, .ref x1), (2, .ref x2), (3, .ref x3), (4, .int x4)]) G dL_law_2212 (by decide) ⟨fun _ => rfl, fun _ => rfl, fun _ => rfl, fun _ => rfl, fun _ => rfl, trivial⟩ rfl ?_
  refine r_aload_n G 3 dL_law_2214 rfl rfl ?_
  obtain ⟨o554, hyp⟩ := x_chk hyp
  refine r_callLV (ι := xI) (T := TX7) (N := 22) (ci := 7) (b := x2) (rest := []) (As := []) G tg_X7_runCommands (fun r w' h => ct_X7_runCommands (xhl G) _ _ r w' h) o554 hyp rfl ww_1193 ww_1195 ww_1194 (by decide) (by decide) (by first | exact ⟨Nat.le_of_ble_eq_true rfl, Nat.le_of_ble_eq_true rfl⟩ | (constructor <;> (show _ ≤ _; simp only [room_1]; omega))) rfl rfl (xroom (Nat.le_of_ble_eq_true rfl)) dL_law_2215 (push := (fun r553 => [.int r553])) (fun _ => rfl) (fun r553 w552 hyp => ?_)
  refine r_istore (lv' := [(6, .int r553), (5, .int r551), (0, .ref b), (1, .ref x1), (2, .ref x2), (3, .ref x3), (4, .int x4)]) G dL_law_2218 (by decide) ⟨fun _ => rfl, fun _ => rfl, fun _ => rfl, fun _ => rfl, fun _ => rfl, fun _ => rfl, trivial⟩ rfl ?_
  refine r_aload_n G 4 dL_law_2220 rfl rfl ?_
  obtain ⟨o557, hyp⟩ := x_chk hyp
  refine r_callLV (ι := xI) (T := TX7) (N := 22) (ci := 7) (b := x2) (rest := []) (As := []) G tg_X7_thrown (fun r w' h => ct_X7_thrown (xhl G) _ _ r w' h) o557 hyp rfl ww_996 ww_998 ww_997 (by decide) (by decide) (by first | exact ⟨Nat.le_of_ble_eq_true rfl, Nat.le_of_ble_eq_true rfl⟩ | (constructor <;> (show _ ≤ _; simp only [room_1]; omega))) rfl rfl (xroom (Nat.le_of_ble_eq_true rfl)) dL_law_2221 (push := (fun r556 => [.int r556])) (fun _ => rfl) (fun r556 w555 hyp => ?_)
  refine r_iload G 1 dL_law_2224 rfl ?_
  refine r_icmp_eq G 2231 dL_law_2226 (by decide) hyp (fun c558 hyp => ?_) (fun c558 hyp => ?_)
  · refine r_iload G 1 dL_law_2231 rfl ?_
    refine r_if_ne G 2248 dL_law_2233 (by decide) hyp (fun c559 hyp => ?_) (fun c559 hyp => ?_)
    · refine r_goto G 2578 dL_law_2248 (by decide) ?_
      refine r_iinc (v := (x4 + 7)) (lv' := [(4, .int (x4 + 7)), (6, .int r553), (5, .int r551), (0, .ref b), (1, .ref x1), (2, .ref x2), (3, .ref x3)]) G 6 dL_law_2578 rfl rfl (by decide) ⟨fun _ => rfl, fun _ => rfl, fun _ => rfl, fun _ => rfl, fun _ => rfl, fun _ => rfl, fun _ => rfl, trivial⟩ rfl ?_
      refine r_goto G 23 dL_law_2581 (by decide) ?_
      refine r_weak (lv' := [(0, .ref b), (1, .ref x1), (2, .ref x2), (3, .ref x3), (4, .int (x4 + 7))]) [3, 4, 5, 6, 0] rfl ?_
      exact hk23 x1 x2 x3 (x4 + 7) w555 _ _ (by omega) (by omega) hyp
    · refine r_aload_n G 5 dL_law_2236 rfl rfl ?_
      refine r_iconst (v := 0) G dL_law_2237 (by decide) ?_
      obtain ⟨v560, hv560, hyp⟩ := x_some hyp
      refine r_lald G hv560 dL_law_2238 ?_
      refine r_iload G 0 dL_law_2239 rfl ?_
      refine r_i2l G dL_law_2241 ?_
      refine r_lcmp G dL_law_2242 ?_
      refine r_if_eq G 2248 dL_law_2243 (by decide) hyp (fun c561 hyp => ?_) (fun c561 hyp => ?_)
      · refine r_goto G 2578 dL_law_2248 (by decide) ?_
        refine r_iinc (v := (x4 + 7)) (lv' := [(4, .int (x4 + 7)), (6, .int r553), (5, .int r551), (0, .ref b), (1, .ref x1), (2, .ref x2), (3, .ref x3)]) G 6 dL_law_2578 rfl rfl (by decide) ⟨fun _ => rfl, fun _ => rfl, fun _ => rfl, fun _ => rfl, fun _ => rfl, fun _ => rfl, fun _ => rfl, trivial⟩ rfl ?_
        refine r_goto G 23 dL_law_2581 (by decide) ?_
        refine r_weak (lv' := [(0, .ref b), (1, .ref x1), (2, .ref x2), (3, .ref x3), (4, .int (x4 + 7))]) [3, 4, 5, 6, 0] rfl ?_
        exact hk23 x1 x2 x3 (x4 + 7) w555 _ _ (by omega) (by omega) hyp
      · refine r_iconst (v := 0) G dL_law_2246 (by decide) ?_
        exact r_lwF hyp
  · refine r_iconst (v := 0) G dL_law_2229 (by decide) ?_
    exact r_lwF hyp
end
section
variable {Γ : xG} {p : Program} {l : Launch} {e : Env} {s : State} {m : MethodId} {below : List Frame} {meth : Method} {c : Code} {wF : xW} {b L : Nat} {xs : Nat → Int32}
set_option maxRecDepth 100000 in
set_option maxHeartbeats 4000000 in
theorem nd_L_law_J2251 {k23 : Nat → Nat → Nat → Int32 → xW → xO Int32} (G : xCx Γ p l s m #[Value.ref b] meth c RL cL_law 9 (some .boolean)) (hN : xNc s) (hX : xSc Γ b L xs s) (n : Nat) (hk23 : ∀ (x1 : Nat) (x2 : Nat) (x3 : Nat) (x4 : Int32) (w : xW) (cells slots : Nat), cells + n * 1 ≤ 601024 → slots + n * 6 ≤ 7293034 → k23 x1 x2 x3 x4 w = some (Sum.inl (1 : Int32), wF) → xAW Γ p l e room_1 s m #[Value.ref b] below meth c 9 (lw_Z below #[Value.ref b] s) w cells slots 23 [(0, .ref b), (1, .ref x1), (2, .ref x2), (3, .ref x3), (4, .int x4)] []) (x1 : Nat) (x2 : Nat) (x3 : Nat) (x4 : Int32) (w0 : xW) (cells slots : Nat) (hcl : cells + (n + 1) * 1 ≤ 601024) (hsl : slots + (n + 1) * 6 ≤ 7293034) (hyp : f_L_law_J2251 xs L k23 x1 x2 x3 x4 w0 = some (Sum.inl (1 : Int32), wF)) : xAW Γ p l e room_1 s m #[Value.ref b] below meth c 9 (lw_Z below #[Value.ref b] s) w0 cells slots 2251 [(0, .ref b), (1, .ref x1), (2, .ref x2), (3, .ref x3), (4, .int x4)] [] := by
  rw [f_L_law_J2251] at hyp
  refine r_aload_n G 1 dL_law_2251 rfl rfl ?_
  refine r_aload_n G 3 dL_law_2252 rfl rfl ?_
  refine r_callLS (ι := xI) (rest := []) (As := [va_rf (some x1), va_rf (some x3)]) G hN tgh_L_errorPosition (fun r w' h => ct_L_errorPosition (xhl G) _ _ _ r w' h) hyp ww_1196 ww_1197 (by decide) (by decide) (by first | exact ⟨Nat.le_of_ble_eq_true rfl, Nat.le_of_ble_eq_true rfl⟩ | (constructor <;> (show _ ≤ _; simp only [room_1]; omega))) rfl rfl (xroom (Nat.le_of_ble_eq_true rfl)) dL_law_2253 (push := (fun r564 => [.int r564])) (fun _ => rfl) (fun r564 w563 hyp => ?_)
  refine r_istore (lv' := [(5, .int r564), (0, .ref b), (1, .ref x1), (2, .ref x2), (3, .ref x3), (4, .int x4)]) G dL_law_2256 (by decide) ⟨fun _ => rfl, fun _ => rfl, fun _ => rfl, fun _ => rfl, fun _ => rfl, trivial⟩ rfl ?_
  refine r_aload_n G 3 dL_law_2258 rfl rfl ?_
  obtain ⟨o567, hyp⟩ := x_chk hyp
  refine r_callLV (ι := xI) (T := TX7) (N := 22) (ci := 7) (b := x2) (rest := []) (As := []) G tg_X7_errorPosition (fun r w' h => ct_X7_errorPosition (xhl G) _ _ r w' h) o567 hyp rfl ww_1198 ww_1200 ww_1199 (by decide) (by decide) (by first | exact ⟨Nat.le_of_ble_eq_true rfl, Nat.le_of_ble_eq_true rfl⟩ | (constructor <;> (show _ ≤ _; simp only [room_1]; omega))) rfl rfl (xroom (Nat.le_of_ble_eq_true rfl)) dL_law_2259 (push := (fun r566 => [.int r566])) (fun _ => rfl) (fun r566 w565 hyp => ?_)
  refine r_istore (lv' := [(6, .int r566), (5, .int r564), (0, .ref b), (1, .ref x1), (2, .ref x2), (3, .ref x3), (4, .int x4)]) G dL_law_2262 (by decide) ⟨fun _ => rfl, fun _ => rfl, fun _ => rfl, fun _ => rfl, fun _ => rfl, fun _ => rfl, trivial⟩ rfl ?_
  refine r_aload_n G 4 dL_law_2264 rfl rfl ?_
  obtain ⟨o570, hyp⟩ := x_chk hyp
  refine r_callLV (ι := xI) (T := TX7) (N := 22) (ci := 7) (b := x2) (rest := []) (As := []) G tg_X7_thrown (fun r w' h => ct_X7_thrown (xhl G) _ _ r w' h) o570 hyp rfl ww_996 ww_998 ww_997 (by decide) (by decide) (by first | exact ⟨Nat.le_of_ble_eq_true rfl, Nat.le_of_ble_eq_true rfl⟩ | (constructor <;> (show _ ≤ _; simp only [room_1]; omega))) rfl rfl (xroom (Nat.le_of_ble_eq_true rfl)) dL_law_2265 (push := (fun r569 => [.int r569])) (fun _ => rfl) (fun r569 w568 hyp => ?_)
  refine r_iload G 1 dL_law_2268 rfl ?_
  refine r_icmp_eq G 2275 dL_law_2270 (by decide) hyp (fun c571 hyp => ?_) (fun c571 hyp => ?_)
  · refine r_iload G 1 dL_law_2275 rfl ?_
    refine r_if_ne G 2292 dL_law_2277 (by decide) hyp (fun c572 hyp => ?_) (fun c572 hyp => ?_)
    · refine r_goto G 2578 dL_law_2292 (by decide) ?_
      refine r_iinc (v := (x4 + 7)) (lv' := [(4, .int (x4 + 7)), (6, .int r566), (5, .int r564), (0, .ref b), (1, .ref x1), (2, .ref x2), (3, .ref x3)]) G 6 dL_law_2578 rfl rfl (by decide) ⟨fun _ => rfl, fun _ => rfl, fun _ => rfl, fun _ => rfl, fun _ => rfl, fun _ => rfl, fun _ => rfl, trivial⟩ rfl ?_
      refine r_goto G 23 dL_law_2581 (by decide) ?_
      refine r_weak (lv' := [(0, .ref b), (1, .ref x1), (2, .ref x2), (3, .ref x3), (4, .int (x4 + 7))]) [3, 4, 5, 6, 0] rfl ?_
      exact hk23 x1 x2 x3 (x4 + 7) w568 _ _ (by omega) (by omega) hyp
    · refine r_aload_n G 5 dL_law_2280 rfl rfl ?_
      refine r_iconst (v := 0) G dL_law_2281 (by decide) ?_
      obtain ⟨v573, hv573, hyp⟩ := x_some hyp
      refine r_lald G hv573 dL_law_2282 ?_
      refine r_iload G 0 dL_law_2283 rfl ?_
      refine r_i2l G dL_law_2285 ?_
      refine r_lcmp G dL_law_2286 ?_
      refine r_if_eq G 2292 dL_law_2287 (by decide) hyp (fun c574 hyp => ?_) (fun c574 hyp => ?_)
      · refine r_goto G 2578 dL_law_2292 (by decide) ?_
        refine r_iinc (v := (x4 + 7)) (lv' := [(4, .int (x4 + 7)), (6, .int r566), (5, .int r564), (0, .ref b), (1, .ref x1), (2, .ref x2), (3, .ref x3)]) G 6 dL_law_2578 rfl rfl (by decide) ⟨fun _ => rfl, fun _ => rfl, fun _ => rfl, fun _ => rfl, fun _ => rfl, fun _ => rfl, fun _ => rfl, trivial⟩ rfl ?_
        refine r_goto G 23 dL_law_2581 (by decide) ?_
        refine r_weak (lv' := [(0, .ref b), (1, .ref x1), (2, .ref x2), (3, .ref x3), (4, .int (x4 + 7))]) [3, 4, 5, 6, 0] rfl ?_
        exact hk23 x1 x2 x3 (x4 + 7) w568 _ _ (by omega) (by omega) hyp
      · refine r_iconst (v := 0) G dL_law_2290 (by decide) ?_
        exact r_lwF hyp
  · refine r_iconst (v := 0) G dL_law_2273 (by decide) ?_
    exact r_lwF hyp
end
section
variable {Γ : xG} {p : Program} {l : Launch} {e : Env} {s : State} {m : MethodId} {below : List Frame} {meth : Method} {c : Code} {wF : xW} {b L : Nat} {xs : Nat → Int32}
set_option maxRecDepth 100000 in
set_option maxHeartbeats 4000000 in
theorem nd_L_law_J2295 {k23 : Nat → Nat → Nat → Int32 → xW → xO Int32} (G : xCx Γ p l s m #[Value.ref b] meth c RL cL_law 9 (some .boolean)) (hN : xNc s) (hX : xSc Γ b L xs s) (n : Nat) (hk23 : ∀ (x1 : Nat) (x2 : Nat) (x3 : Nat) (x4 : Int32) (w : xW) (cells slots : Nat), cells + n * 1 ≤ 601024 → slots + n * 6 ≤ 7293034 → k23 x1 x2 x3 x4 w = some (Sum.inl (1 : Int32), wF) → xAW Γ p l e room_1 s m #[Value.ref b] below meth c 9 (lw_Z below #[Value.ref b] s) w cells slots 23 [(0, .ref b), (1, .ref x1), (2, .ref x2), (3, .ref x3), (4, .int x4)] []) (x1 : Nat) (x2 : Nat) (x3 : Nat) (x4 : Int32) (w0 : xW) (cells slots : Nat) (hcl : cells + (n + 1) * 1 ≤ 601024) (hsl : slots + (n + 1) * 6 ≤ 7293034) (hyp : f_L_law_J2295 xs L k23 x1 x2 x3 x4 w0 = some (Sum.inl (1 : Int32), wF)) : xAW Γ p l e room_1 s m #[Value.ref b] below meth c 9 (lw_Z below #[Value.ref b] s) w0 cells slots 2295 [(0, .ref b), (1, .ref x1), (2, .ref x2), (3, .ref x3), (4, .int x4)] [] := by
  rw [f_L_law_J2295] at hyp
  refine r_aload_n G 1 dL_law_2295 rfl rfl ?_
  refine r_aload_n G 3 dL_law_2296 rfl rfl ?_
  refine r_callLS (ι := xI) (rest := []) (As := [va_rf (some x1), va_rf (some x3)]) G hN tgh_L_failedCommand (fun r w' h => ct_L_failedCommand (xhl G) _ _ _ r w' h) hyp ww_1201 ww_1202 (by decide) (by decide) (by first | exact ⟨Nat.le_of_ble_eq_true rfl, Nat.le_of_ble_eq_true rfl⟩ | (constructor <;> (show _ ≤ _; simp only [room_1]; omega))) rfl rfl (xroom (Nat.le_of_ble_eq_true rfl)) dL_law_2297 (push := (fun r577 => [.int r577])) (fun _ => rfl) (fun r577 w576 hyp => ?_)
  refine r_istore (lv' := [(5, .int r577), (0, .ref b), (1, .ref x1), (2, .ref x2), (3, .ref x3), (4, .int x4)]) G dL_law_2300 (by decide) ⟨fun _ => rfl, fun _ => rfl, fun _ => rfl, fun _ => rfl, fun _ => rfl, trivial⟩ rfl ?_
  refine r_aload_n G 3 dL_law_2302 rfl rfl ?_
  obtain ⟨o580, hyp⟩ := x_chk hyp
  refine r_callLV (ι := xI) (T := TX7) (N := 22) (ci := 7) (b := x2) (rest := []) (As := []) G tg_X7_failedCommand (fun r w' h => ct_X7_failedCommand (xhl G) _ _ r w' h) o580 hyp rfl ww_1203 ww_1205 ww_1204 (by decide) (by decide) (by first | exact ⟨Nat.le_of_ble_eq_true rfl, Nat.le_of_ble_eq_true rfl⟩ | (constructor <;> (show _ ≤ _; simp only [room_1]; omega))) rfl rfl (xroom (Nat.le_of_ble_eq_true rfl)) dL_law_2303 (push := (fun r579 => [.int r579])) (fun _ => rfl) (fun r579 w578 hyp => ?_)
  refine r_istore (lv' := [(6, .int r579), (5, .int r577), (0, .ref b), (1, .ref x1), (2, .ref x2), (3, .ref x3), (4, .int x4)]) G dL_law_2306 (by decide) ⟨fun _ => rfl, fun _ => rfl, fun _ => rfl, fun _ => rfl, fun _ => rfl, fun _ => rfl, trivial⟩ rfl ?_
  refine r_aload_n G 4 dL_law_2308 rfl rfl ?_
  obtain ⟨o583, hyp⟩ := x_chk hyp
  refine r_callLV (ι := xI) (T := TX7) (N := 22) (ci := 7) (b := x2) (rest := []) (As := []) G tg_X7_thrown (fun r w' h => ct_X7_thrown (xhl G) _ _ r w' h) o583 hyp rfl ww_996 ww_998 ww_997 (by decide) (by decide) (by first | exact ⟨Nat.le_of_ble_eq_true rfl, Nat.le_of_ble_eq_true rfl⟩ | (constructor <;> (show _ ≤ _; simp only [room_1]; omega))) rfl rfl (xroom (Nat.le_of_ble_eq_true rfl)) dL_law_2309 (push := (fun r582 => [.int r582])) (fun _ => rfl) (fun r582 w581 hyp => ?_)
  refine r_iload G 1 dL_law_2312 rfl ?_
  refine r_icmp_eq G 2319 dL_law_2314 (by decide) hyp (fun c584 hyp => ?_) (fun c584 hyp => ?_)
  · refine r_iload G 1 dL_law_2319 rfl ?_
    refine r_if_ne G 2336 dL_law_2321 (by decide) hyp (fun c585 hyp => ?_) (fun c585 hyp => ?_)
    · refine r_goto G 2578 dL_law_2336 (by decide) ?_
      refine r_iinc (v := (x4 + 7)) (lv' := [(4, .int (x4 + 7)), (6, .int r579), (5, .int r577), (0, .ref b), (1, .ref x1), (2, .ref x2), (3, .ref x3)]) G 6 dL_law_2578 rfl rfl (by decide) ⟨fun _ => rfl, fun _ => rfl, fun _ => rfl, fun _ => rfl, fun _ => rfl, fun _ => rfl, fun _ => rfl, trivial⟩ rfl ?_
      refine r_goto G 23 dL_law_2581 (by decide) ?_
      refine r_weak (lv' := [(0, .ref b), (1, .ref x1), (2, .ref x2), (3, .ref x3), (4, .int (x4 + 7))]) [3, 4, 5, 6, 0] rfl ?_
      exact hk23 x1 x2 x3 (x4 + 7) w581 _ _ (by omega) (by omega) hyp
    · refine r_aload_n G 5 dL_law_2324 rfl rfl ?_
      refine r_iconst (v := 0) G dL_law_2325 (by decide) ?_
      obtain ⟨v586, hv586, hyp⟩ := x_some hyp
      refine r_lald G hv586 dL_law_2326 ?_
      refine r_iload G 0 dL_law_2327 rfl ?_
      refine r_i2l G dL_law_2329 ?_
      refine r_lcmp G dL_law_2330 ?_
      refine r_if_eq G 2336 dL_law_2331 (by decide) hyp (fun c587 hyp => ?_) (fun c587 hyp => ?_)
      · refine r_goto G 2578 dL_law_2336 (by decide) ?_
        refine r_iinc (v := (x4 + 7)) (lv' := [(4, .int (x4 + 7)), (6, .int r579), (5, .int r577), (0, .ref b), (1, .ref x1), (2, .ref x2), (3, .ref x3)]) G 6 dL_law_2578 rfl rfl (by decide) ⟨fun _ => rfl, fun _ => rfl, fun _ => rfl, fun _ => rfl, fun _ => rfl, fun _ => rfl, fun _ => rfl, trivial⟩ rfl ?_
        refine r_goto G 23 dL_law_2581 (by decide) ?_
        refine r_weak (lv' := [(0, .ref b), (1, .ref x1), (2, .ref x2), (3, .ref x3), (4, .int (x4 + 7))]) [3, 4, 5, 6, 0] rfl ?_
        exact hk23 x1 x2 x3 (x4 + 7) w581 _ _ (by omega) (by omega) hyp
      · refine r_iconst (v := 0) G dL_law_2334 (by decide) ?_
        exact r_lwF hyp
  · refine r_iconst (v := 0) G dL_law_2317 (by decide) ?_
    exact r_lwF hyp
end
section
variable {Γ : xG} {p : Program} {l : Launch} {e : Env} {s : State} {m : MethodId} {below : List Frame} {meth : Method} {c : Code} {wF : xW} {b L : Nat} {xs : Nat → Int32}
set_option maxRecDepth 100000 in
set_option maxHeartbeats 4000000 in
theorem nd_L_law_J2339 {k23 : Nat → Nat → Nat → Int32 → xW → xO Int32} (G : xCx Γ p l s m #[Value.ref b] meth c RL cL_law 9 (some .boolean)) (hN : xNc s) (hX : xSc Γ b L xs s) (n : Nat) (hk23 : ∀ (x1 : Nat) (x2 : Nat) (x3 : Nat) (x4 : Int32) (w : xW) (cells slots : Nat), cells + n * 1 ≤ 601024 → slots + n * 6 ≤ 7293034 → k23 x1 x2 x3 x4 w = some (Sum.inl (1 : Int32), wF) → xAW Γ p l e room_1 s m #[Value.ref b] below meth c 9 (lw_Z below #[Value.ref b] s) w cells slots 23 [(0, .ref b), (1, .ref x1), (2, .ref x2), (3, .ref x3), (4, .int x4)] []) (x1 : Nat) (x2 : Nat) (x3 : Nat) (x4 : Int32) (w0 : xW) (cells slots : Nat) (hcl : cells + (n + 1) * 1 ≤ 601024) (hsl : slots + (n + 1) * 6 ≤ 7293034) (hyp : f_L_law_J2339 xs L k23 x1 x2 x3 x4 w0 = some (Sum.inl (1 : Int32), wF)) : xAW Γ p l e room_1 s m #[Value.ref b] below meth c 9 (lw_Z below #[Value.ref b] s) w0 cells slots 2339 [(0, .ref b), (1, .ref x1), (2, .ref x2), (3, .ref x3), (4, .int x4)] [] := by
  rw [f_L_law_J2339] at hyp
  refine r_aload_n G 1 dL_law_2339 rfl rfl ?_
  refine r_aload_n G 0 dL_law_2340 rfl rfl ?_
  refine r_iload G 4 dL_law_2341 rfl ?_
  refine r_iconst (v := 1) G dL_law_2343 (by decide) ?_
  refine r_iadd G dL_law_2344 ?_
  obtain ⟨h589, hyp⟩ := x_chk hyp
  refine r_sld G hX h589 dL_law_2345 ?_
  refine r_aload_n G 3 dL_law_2346 rfl rfl ?_
  refine r_callLS (ι := xI) (rest := []) (As := [va_rf (some x1), .int (xs ((x4 + 1)).toNatClampNeg), va_rf (some x3)]) G hN tgh_L_writeRow (fun r w' h => ct_L_writeRow (xhl G) _ _ _ _ r w' h) hyp ww_1206 ww_1207 (by decide) (by decide) (by first | exact ⟨Nat.le_of_ble_eq_true rfl, Nat.le_of_ble_eq_true rfl⟩ | (constructor <;> (show _ ≤ _; simp only [room_1]; omega))) rfl rfl (xroom (Nat.le_of_ble_eq_true rfl)) dL_law_2347 (push := (fun r591 => [.int r591])) (fun _ => rfl) (fun r591 w590 hyp => ?_)
  refine r_istore (lv' := [(5, .int r591), (0, .ref b), (1, .ref x1), (2, .ref x2), (3, .ref x3), (4, .int x4)]) G dL_law_2350 (by decide) ⟨fun _ => rfl, fun _ => rfl, fun _ => rfl, fun _ => rfl, fun _ => rfl, trivial⟩ rfl ?_
  refine r_aload_n G 3 dL_law_2352 rfl rfl ?_
  refine r_aload_n G 1 dL_law_2353 rfl rfl ?_
  refine r_iload G 5 dL_law_2354 rfl ?_
  refine r_iconst (v := 1) G dL_law_2356 (by decide) ?_
  refine r_iadd G dL_law_2357 ?_
  obtain ⟨h592, hyp⟩ := x_chk hyp
  refine r_sld G hX h592 dL_law_2358 ?_
  obtain ⟨o595, hyp⟩ := x_chk hyp
  refine r_callLV (ι := xI) (T := TX7) (N := 22) (ci := 7) (b := x2) (rest := []) (As := [.int (xs ((x4 + 1)).toNatClampNeg)]) G tg_X7_writeRow (fun r w' h => ct_X7_writeRow (xhl G) _ _ _ r w' h) o595 hyp rfl ww_1208 ww_1210 ww_1209 (by decide) (by decide) (by first | exact ⟨Nat.le_of_ble_eq_true rfl, Nat.le_of_ble_eq_true rfl⟩ | (constructor <;> (show _ ≤ _; simp only [room_1]; omega))) rfl rfl (xroom (Nat.le_of_ble_eq_true rfl)) dL_law_2359 (push := (fun r594 => [.int r594])) (fun _ => rfl) (fun r594 w593 hyp => ?_)
  refine r_istore (lv' := [(6, .int r594), (5, .int r591), (0, .ref b), (1, .ref x1), (2, .ref x2), (3, .ref x3), (4, .int x4)]) G dL_law_2362 (by decide) ⟨fun _ => rfl, fun _ => rfl, fun _ => rfl, fun _ => rfl, fun _ => rfl, fun _ => rfl, trivial⟩ rfl ?_
  refine r_aload_n G 4 dL_law_2364 rfl rfl ?_
  obtain ⟨o598, hyp⟩ := x_chk hyp
  refine r_callLV (ι := xI) (T := TX7) (N := 22) (ci := 7) (b := x2) (rest := []) (As := []) G tg_X7_thrown (fun r w' h => ct_X7_thrown (xhl G) _ _ r w' h) o598 hyp rfl ww_996 ww_998 ww_997 (by decide) (by decide) (by first | exact ⟨Nat.le_of_ble_eq_true rfl, Nat.le_of_ble_eq_true rfl⟩ | (constructor <;> (show _ ≤ _; simp only [room_1]; omega))) rfl rfl (xroom (Nat.le_of_ble_eq_true rfl)) dL_law_2365 (push := (fun r597 => [.int r597])) (fun _ => rfl) (fun r597 w596 hyp => ?_)
  refine r_iload G 1 dL_law_2368 rfl ?_
  refine r_icmp_eq G 2375 dL_law_2370 (by decide) hyp (fun c599 hyp => ?_) (fun c599 hyp => ?_)
  · refine r_iload G 1 dL_law_2375 rfl ?_
    refine r_if_ne G 2392 dL_law_2377 (by decide) hyp (fun c600 hyp => ?_) (fun c600 hyp => ?_)
    · refine r_goto G 2578 dL_law_2392 (by decide) ?_
      refine r_iinc (v := (x4 + 7)) (lv' := [(4, .int (x4 + 7)), (6, .int r594), (5, .int r591), (0, .ref b), (1, .ref x1), (2, .ref x2), (3, .ref x3)]) G 6 dL_law_2578 rfl rfl (by decide) ⟨fun _ => rfl, fun _ => rfl, fun _ => rfl, fun _ => rfl, fun _ => rfl, fun _ => rfl, fun _ => rfl, trivial⟩ rfl ?_
      refine r_goto G 23 dL_law_2581 (by decide) ?_
      refine r_weak (lv' := [(0, .ref b), (1, .ref x1), (2, .ref x2), (3, .ref x3), (4, .int (x4 + 7))]) [3, 4, 5, 6, 0] rfl ?_
      exact hk23 x1 x2 x3 (x4 + 7) w596 _ _ (by omega) (by omega) hyp
    · refine r_aload_n G 5 dL_law_2380 rfl rfl ?_
      refine r_iconst (v := 0) G dL_law_2381 (by decide) ?_
      obtain ⟨v601, hv601, hyp⟩ := x_some hyp
      refine r_lald G hv601 dL_law_2382 ?_
      refine r_iload G 0 dL_law_2383 rfl ?_
      refine r_i2l G dL_law_2385 ?_
      refine r_lcmp G dL_law_2386 ?_
      refine r_if_eq G 2392 dL_law_2387 (by decide) hyp (fun c602 hyp => ?_) (fun c602 hyp => ?_)
      · refine r_goto G 2578 dL_law_2392 (by decide) ?_
        refine r_iinc (v := (x4 + 7)) (lv' := [(4, .int (x4 + 7)), (6, .int r594), (5, .int r591), (0, .ref b), (1, .ref x1), (2, .ref x2), (3, .ref x3)]) G 6 dL_law_2578 rfl rfl (by decide) ⟨fun _ => rfl, fun _ => rfl, fun _ => rfl, fun _ => rfl, fun _ => rfl, fun _ => rfl, fun _ => rfl, trivial⟩ rfl ?_
        refine r_goto G 23 dL_law_2581 (by decide) ?_
        refine r_weak (lv' := [(0, .ref b), (1, .ref x1), (2, .ref x2), (3, .ref x3), (4, .int (x4 + 7))]) [3, 4, 5, 6, 0] rfl ?_
        exact hk23 x1 x2 x3 (x4 + 7) w596 _ _ (by omega) (by omega) hyp
      · refine r_iconst (v := 0) G dL_law_2390 (by decide) ?_
        exact r_lwF hyp
  · refine r_iconst (v := 0) G dL_law_2373 (by decide) ?_
    exact r_lwF hyp
end
section
variable {Γ : xG} {p : Program} {l : Launch} {e : Env} {s : State} {m : MethodId} {below : List Frame} {meth : Method} {c : Code} {wF : xW} {b L : Nat} {xs : Nat → Int32}
set_option maxRecDepth 100000 in
set_option maxHeartbeats 4000000 in
theorem nd_L_law_J2395 {k23 : Nat → Nat → Nat → Int32 → xW → xO Int32} (G : xCx Γ p l s m #[Value.ref b] meth c RL cL_law 9 (some .boolean)) (hN : xNc s) (hX : xSc Γ b L xs s) (n : Nat) (hk23 : ∀ (x1 : Nat) (x2 : Nat) (x3 : Nat) (x4 : Int32) (w : xW) (cells slots : Nat), cells + n * 1 ≤ 601024 → slots + n * 6 ≤ 7293034 → k23 x1 x2 x3 x4 w = some (Sum.inl (1 : Int32), wF) → xAW Γ p l e room_1 s m #[Value.ref b] below meth c 9 (lw_Z below #[Value.ref b] s) w cells slots 23 [(0, .ref b), (1, .ref x1), (2, .ref x2), (3, .ref x3), (4, .int x4)] []) (x1 : Nat) (x2 : Nat) (x3 : Nat) (x4 : Int32) (w0 : xW) (cells slots : Nat) (hcl : cells + (n + 1) * 1 ≤ 601024) (hsl : slots + (n + 1) * 6 ≤ 7293034) (hyp : f_L_law_J2395 xs L k23 x1 x2 x3 x4 w0 = some (Sum.inl (1 : Int32), wF)) : xAW Γ p l e room_1 s m #[Value.ref b] below meth c 9 (lw_Z below #[Value.ref b] s) w0 cells slots 2395 [(0, .ref b), (1, .ref x1), (2, .ref x2), (3, .ref x3), (4, .int x4)] [] := by
  rw [f_L_law_J2395] at hyp
  refine r_aload_n G 1 dL_law_2395 rfl rfl ?_
  obtain ⟨o606, hyp⟩ := x_chk hyp
  refine r_callLV (ι := xI) (T := TX6) (N := 9) (ci := 6) (b := x1) (rest := []) (As := []) G tg_X6_writeLayers (fun r w' h => ct_X6_writeLayers (xhl G) _ _ r w' h) o606 hyp rfl ww_1211 ww_1213 ww_1212 (by decide) (by decide) (by first | exact ⟨Nat.le_of_ble_eq_true rfl, Nat.le_of_ble_eq_true rfl⟩ | (constructor <;> (show _ ≤ _; simp only [room_1]; omega))) rfl rfl (xroom (Nat.le_of_ble_eq_true rfl)) dL_law_2396 (push := (fun r605 => [.int r605])) (fun _ => rfl) (fun r605 w604 hyp => ?_)
  refine r_aload_n G 2 dL_law_2399 rfl rfl ?_
  obtain ⟨o609, hyp⟩ := x_chk hyp
  refine r_callLV (ι := xI) (T := TX7) (N := 22) (ci := 7) (b := x2) (rest := [.int r605]) (As := []) G tg_X7_writeLayers (fun r w' h => ct_X7_writeLayers (xhl G) _ _ r w' h) o609 hyp rfl ww_1214 ww_1216 ww_1215 (by decide) (by decide) (by first | exact ⟨Nat.le_of_ble_eq_true rfl, Nat.le_of_ble_eq_true rfl⟩ | (constructor <;> (show _ ≤ _; simp only [room_1]; omega))) rfl rfl (xroom (Nat.le_of_ble_eq_true rfl)) dL_law_2400 (push := (fun r608 => [.int r608, .int r605])) (fun _ => rfl) (fun r608 w607 hyp => ?_)
  refine r_icmp_eq G 2578 dL_law_2403 (by decide) hyp (fun c610 hyp => ?_) (fun c610 hyp => ?_)
  · refine r_iinc (v := (x4 + 7)) (lv' := [(4, .int (x4 + 7)), (0, .ref b), (1, .ref x1), (2, .ref x2), (3, .ref x3)]) G 4 dL_law_2578 rfl rfl (by decide) ⟨fun _ => rfl, fun _ => rfl, fun _ => rfl, fun _ => rfl, fun _ => rfl, trivial⟩ rfl ?_
    refine r_goto G 23 dL_law_2581 (by decide) ?_
    refine r_weak (lv' := [(0, .ref b), (1, .ref x1), (2, .ref x2), (3, .ref x3), (4, .int (x4 + 7))]) [1, 2, 3, 4, 0] rfl ?_
    exact hk23 x1 x2 x3 (x4 + 7) w607 _ _ (by omega) (by omega) hyp
  · refine r_iconst (v := 0) G dL_law_2406 (by decide) ?_
    exact r_lwF hyp
end
section
variable {Γ : xG} {p : Program} {l : Launch} {e : Env} {s : State} {m : MethodId} {below : List Frame} {meth : Method} {c : Code} {wF : xW} {b L : Nat} {xs : Nat → Int32}
set_option maxRecDepth 100000 in
set_option maxHeartbeats 4000000 in
theorem nd_L_law_J2408 {k23 : Nat → Nat → Nat → Int32 → xW → xO Int32} (G : xCx Γ p l s m #[Value.ref b] meth c RL cL_law 9 (some .boolean)) (hN : xNc s) (hX : xSc Γ b L xs s) (n : Nat) (hk23 : ∀ (x1 : Nat) (x2 : Nat) (x3 : Nat) (x4 : Int32) (w : xW) (cells slots : Nat), cells + n * 1 ≤ 601024 → slots + n * 6 ≤ 7293034 → k23 x1 x2 x3 x4 w = some (Sum.inl (1 : Int32), wF) → xAW Γ p l e room_1 s m #[Value.ref b] below meth c 9 (lw_Z below #[Value.ref b] s) w cells slots 23 [(0, .ref b), (1, .ref x1), (2, .ref x2), (3, .ref x3), (4, .int x4)] []) (x1 : Nat) (x2 : Nat) (x3 : Nat) (x4 : Int32) (w0 : xW) (cells slots : Nat) (hcl : cells + (n + 1) * 1 ≤ 601024) (hsl : slots + (n + 1) * 6 ≤ 7293034) (hyp : f_L_law_J2408 xs L k23 x1 x2 x3 x4 w0 = some (Sum.inl (1 : Int32), wF)) : xAW Γ p l e room_1 s m #[Value.ref b] below meth c 9 (lw_Z below #[Value.ref b] s) w0 cells slots 2408 [(0, .ref b), (1, .ref x1), (2, .ref x2), (3, .ref x3), (4, .int x4)] [] := by
  rw [f_L_law_J2408] at hyp
  refine r_aload_n G 1 dL_law_2408 rfl rfl ?_
  refine r_aload_n G 0 dL_law_2409 rfl rfl ?_
  refine r_iload G 4 dL_law_2410 rfl ?_
  refine r_iconst (v := 1) G dL_law_2412 (by decide) ?_
  refine r_iadd G dL_law_2413 ?_
  obtain ⟨h612, hyp⟩ := x_chk hyp
  refine r_sld G hX h612 dL_law_2414 ?_
  refine r_aload_n G 3 dL_law_2415 rfl rfl ?_
  refine r_callLS (ι := xI) (rest := []) (As := [va_rf (some x1), .int (xs ((x4 + 1)).toNatClampNeg), va_rf (some x3)]) G hN tgh_L_outputChar (fun r w' h => ct_L_outputChar (xhl G) _ _ _ _ r w' h) hyp ww_1217 ww_1218 (by decide) (by decide) (by first | exact ⟨Nat.le_of_ble_eq_true rfl, Nat.le_of_ble_eq_true rfl⟩ | (constructor <;> (show _ ≤ _; simp only [room_1]; omega))) rfl rfl (xroom (Nat.le_of_ble_eq_true rfl)) dL_law_2416 (push := (fun r614 => [.int r614])) (fun _ => rfl) (fun r614 w613 hyp => ?_)
  refine r_istore (lv' := [(5, .int r614), (0, .ref b), (1, .ref x1), (2, .ref x2), (3, .ref x3), (4, .int x4)]) G dL_law_2419 (by decide) ⟨fun _ => rfl, fun _ => rfl, fun _ => rfl, fun _ => rfl, fun _ => rfl, trivial⟩ rfl ?_
  refine r_aload_n G 3 dL_law_2421 rfl rfl ?_
  refine r_aload_n G 1 dL_law_2422 rfl rfl ?_
  refine r_iload G 5 dL_law_2423 rfl ?_
  refine r_iconst (v := 1) G dL_law_2425 (by decide) ?_
  refine r_iadd G dL_law_2426 ?_
  obtain ⟨h615, hyp⟩ := x_chk hyp
  refine r_sld G hX h615 dL_law_2427 ?_
  obtain ⟨o618, hyp⟩ := x_chk hyp
  refine r_callLV (ι := xI) (T := TX7) (N := 22) (ci := 7) (b := x2) (rest := []) (As := [.int (xs ((x4 + 1)).toNatClampNeg)]) G tg_X7_outputChar (fun r w' h => ct_X7_outputChar (xhl G) _ _ _ r w' h) o618 hyp rfl ww_1219 ww_1221 ww_1220 (by decide) (by decide) (by first | exact ⟨Nat.le_of_ble_eq_true rfl, Nat.le_of_ble_eq_true rfl⟩ | (constructor <;> (show _ ≤ _; simp only [room_1]; omega))) rfl rfl (xroom (Nat.le_of_ble_eq_true rfl)) dL_law_2428 (push := (fun r617 => [.int r617])) (fun _ => rfl) (fun r617 w616 hyp => ?_)
  refine r_istore (lv' := [(6, .int r617), (5, .int r614), (0, .ref b), (1, .ref x1), (2, .ref x2), (3, .ref x3), (4, .int x4)]) G dL_law_2431 (by decide) ⟨fun _ => rfl, fun _ => rfl, fun _ => rfl, fun _ => rfl, fun _ => rfl, fun _ => rfl, trivial⟩ rfl ?_
  refine r_aload_n G 4 dL_law_2433 rfl rfl ?_
  obtain ⟨o621, hyp⟩ := x_chk hyp
  refine r_callLV (ι := xI) (T := TX7) (N := 22) (ci := 7) (b := x2) (rest := []) (As := []) G tg_X7_thrown (fun r w' h => ct_X7_thrown (xhl G) _ _ r w' h) o621 hyp rfl ww_996 ww_998 ww_997 (by decide) (by decide) (by first | exact ⟨Nat.le_of_ble_eq_true rfl, Nat.le_of_ble_eq_true rfl⟩ | (constructor <;> (show _ ≤ _; simp only [room_1]; omega))) rfl rfl (xroom (Nat.le_of_ble_eq_true rfl)) dL_law_2434 (push := (fun r620 => [.int r620])) (fun _ => rfl) (fun r620 w619 hyp => ?_)
  refine r_iload G 1 dL_law_2437 rfl ?_
  refine r_icmp_eq G 2444 dL_law_2439 (by decide) hyp (fun c622 hyp => ?_) (fun c622 hyp => ?_)
  · refine r_iload G 1 dL_law_2444 rfl ?_
    refine r_if_ne G 2461 dL_law_2446 (by decide) hyp (fun c623 hyp => ?_) (fun c623 hyp => ?_)
    · refine r_goto G 2578 dL_law_2461 (by decide) ?_
      refine r_iinc (v := (x4 + 7)) (lv' := [(4, .int (x4 + 7)), (6, .int r617), (5, .int r614), (0, .ref b), (1, .ref x1), (2, .ref x2), (3, .ref x3)]) G 6 dL_law_2578 rfl rfl (by decide) ⟨fun _ => rfl, fun _ => rfl, fun _ => rfl, fun _ => rfl, fun _ => rfl, fun _ => rfl, fun _ => rfl, trivial⟩ rfl ?_
      refine r_goto G 23 dL_law_2581 (by decide) ?_
      refine r_weak (lv' := [(0, .ref b), (1, .ref x1), (2, .ref x2), (3, .ref x3), (4, .int (x4 + 7))]) [3, 4, 5, 6, 0] rfl ?_
      exact hk23 x1 x2 x3 (x4 + 7) w619 _ _ (by omega) (by omega) hyp
    · refine r_aload_n G 5 dL_law_2449 rfl rfl ?_
      refine r_iconst (v := 0) G dL_law_2450 (by decide) ?_
      obtain ⟨v624, hv624, hyp⟩ := x_some hyp
      refine r_lald G hv624 dL_law_2451 ?_
      refine r_iload G 0 dL_law_2452 rfl ?_
      refine r_i2l G dL_law_2454 ?_
      refine r_lcmp G dL_law_2455 ?_
      refine r_if_eq G 2461 dL_law_2456 (by decide) hyp (fun c625 hyp => ?_) (fun c625 hyp => ?_)
      · refine r_goto G 2578 dL_law_2461 (by decide) ?_
        refine r_iinc (v := (x4 + 7)) (lv' := [(4, .int (x4 + 7)), (6, .int r617), (5, .int r614), (0, .ref b), (1, .ref x1), (2, .ref x2), (3, .ref x3)]) G 6 dL_law_2578 rfl rfl (by decide) ⟨fun _ => rfl, fun _ => rfl, fun _ => rfl, fun _ => rfl, fun _ => rfl, fun _ => rfl, fun _ => rfl, trivial⟩ rfl ?_
        refine r_goto G 23 dL_law_2581 (by decide) ?_
        refine r_weak (lv' := [(0, .ref b), (1, .ref x1), (2, .ref x2), (3, .ref x3), (4, .int (x4 + 7))]) [3, 4, 5, 6, 0] rfl ?_
        exact hk23 x1 x2 x3 (x4 + 7) w619 _ _ (by omega) (by omega) hyp
      · refine r_iconst (v := 0) G dL_law_2459 (by decide) ?_
        exact r_lwF hyp
  · refine r_iconst (v := 0) G dL_law_2442 (by decide) ?_
    exact r_lwF hyp
end
section
variable {Γ : xG} {p : Program} {l : Launch} {e : Env} {s : State} {m : MethodId} {below : List Frame} {meth : Method} {c : Code} {wF : xW} {b L : Nat} {xs : Nat → Int32}
set_option maxRecDepth 100000 in
set_option maxHeartbeats 4000000 in
theorem nd_L_law_J2464 {k23 : Nat → Nat → Nat → Int32 → xW → xO Int32} (G : xCx Γ p l s m #[Value.ref b] meth c RL cL_law 9 (some .boolean)) (hN : xNc s) (hX : xSc Γ b L xs s) (n : Nat) (hk23 : ∀ (x1 : Nat) (x2 : Nat) (x3 : Nat) (x4 : Int32) (w : xW) (cells slots : Nat), cells + n * 1 ≤ 601024 → slots + n * 6 ≤ 7293034 → k23 x1 x2 x3 x4 w = some (Sum.inl (1 : Int32), wF) → xAW Γ p l e room_1 s m #[Value.ref b] below meth c 9 (lw_Z below #[Value.ref b] s) w cells slots 23 [(0, .ref b), (1, .ref x1), (2, .ref x2), (3, .ref x3), (4, .int x4)] []) (x1 : Nat) (x2 : Nat) (x3 : Nat) (x4 : Int32) (w0 : xW) (cells slots : Nat) (hcl : cells + (n + 1) * 1 ≤ 601024) (hsl : slots + (n + 1) * 6 ≤ 7293034) (hyp : f_L_law_J2464 xs L k23 x1 x2 x3 x4 w0 = some (Sum.inl (1 : Int32), wF)) : xAW Γ p l e room_1 s m #[Value.ref b] below meth c 9 (lw_Z below #[Value.ref b] s) w0 cells slots 2464 [(0, .ref b), (1, .ref x1), (2, .ref x2), (3, .ref x3), (4, .int x4)] [] := by
  rw [f_L_law_J2464] at hyp
  refine r_aload_n G 1 dL_law_2464 rfl rfl ?_
  obtain ⟨o629, hyp⟩ := x_chk hyp
  refine r_callLV (ι := xI) (T := TX6) (N := 9) (ci := 6) (b := x1) (rest := []) (As := []) G tg_X6_undoCount (fun r w' h => ct_X6_undoCount (xhl G) _ _ r w' h) o629 hyp rfl ww_1222 ww_1224 ww_1223 (by decide) (by decide) (by first | exact ⟨Nat.le_of_ble_eq_true rfl, Nat.le_of_ble_eq_true rfl⟩ | (constructor <;> (show _ ≤ _; simp only [room_1]; omega))) rfl rfl (xroom (Nat.le_of_ble_eq_true rfl)) dL_law_2465 (push := (fun r628 => [.int r628])) (fun _ => rfl) (fun r628 w627 hyp => ?_)
  refine r_aload_n G 2 dL_law_2468 rfl rfl ?_
  obtain ⟨o632, hyp⟩ := x_chk hyp
  refine r_callLV (ι := xI) (T := TX7) (N := 22) (ci := 7) (b := x2) (rest := [.int r628]) (As := []) G tg_X7_undoCount (fun r w' h => ct_X7_undoCount (xhl G) _ _ r w' h) o632 hyp rfl ww_1225 ww_1227 ww_1226 (by decide) (by decide) (by first | exact ⟨Nat.le_of_ble_eq_true rfl, Nat.le_of_ble_eq_true rfl⟩ | (constructor <;> (show _ ≤ _; simp only [room_1]; omega))) rfl rfl (xroom (Nat.le_of_ble_eq_true rfl)) dL_law_2469 (push := (fun r631 => [.int r631, .int r628])) (fun _ => rfl) (fun r631 w630 hyp => ?_)
  refine r_icmp_eq G 2578 dL_law_2472 (by decide) hyp (fun c633 hyp => ?_) (fun c633 hyp => ?_)
  · refine r_iinc (v := (x4 + 7)) (lv' := [(4, .int (x4 + 7)), (0, .ref b), (1, .ref x1), (2, .ref x2), (3, .ref x3)]) G 4 dL_law_2578 rfl rfl (by decide) ⟨fun _ => rfl, fun _ => rfl, fun _ => rfl, fun _ => rfl, fun _ => rfl, trivial⟩ rfl ?_
    refine r_goto G 23 dL_law_2581 (by decide) ?_
    refine r_weak (lv' := [(0, .ref b), (1, .ref x1), (2, .ref x2), (3, .ref x3), (4, .int (x4 + 7))]) [1, 2, 3, 4, 0] rfl ?_
    exact hk23 x1 x2 x3 (x4 + 7) w630 _ _ (by omega) (by omega) hyp
  · refine r_iconst (v := 0) G dL_law_2475 (by decide) ?_
    exact r_lwF hyp
end
section
variable {Γ : xG} {p : Program} {l : Launch} {e : Env} {s : State} {m : MethodId} {below : List Frame} {meth : Method} {c : Code} {wF : xW} {b L : Nat} {xs : Nat → Int32}
set_option maxRecDepth 100000 in
set_option maxHeartbeats 4000000 in
theorem nd_L_law_J2477 {k23 : Nat → Nat → Nat → Int32 → xW → xO Int32} (G : xCx Γ p l s m #[Value.ref b] meth c RL cL_law 9 (some .boolean)) (hN : xNc s) (hX : xSc Γ b L xs s) (n : Nat) (hk23 : ∀ (x1 : Nat) (x2 : Nat) (x3 : Nat) (x4 : Int32) (w : xW) (cells slots : Nat), cells + n * 1 ≤ 601024 → slots + n * 6 ≤ 7293034 → k23 x1 x2 x3 x4 w = some (Sum.inl (1 : Int32), wF) → xAW Γ p l e room_1 s m #[Value.ref b] below meth c 9 (lw_Z below #[Value.ref b] s) w cells slots 23 [(0, .ref b), (1, .ref x1), (2, .ref x2), (3, .ref x3), (4, .int x4)] []) (x1 : Nat) (x2 : Nat) (x3 : Nat) (x4 : Int32) (w0 : xW) (cells slots : Nat) (hcl : cells + (n + 1) * 1 ≤ 601024) (hsl : slots + (n + 1) * 6 ≤ 7293034) (hyp : f_L_law_J2477 xs L k23 x1 x2 x3 x4 w0 = some (Sum.inl (1 : Int32), wF)) : xAW Γ p l e room_1 s m #[Value.ref b] below meth c 9 (lw_Z below #[Value.ref b] s) w0 cells slots 2477 [(0, .ref b), (1, .ref x1), (2, .ref x2), (3, .ref x3), (4, .int x4)] [] := by
  rw [f_L_law_J2477] at hyp
  refine r_aload_n G 1 dL_law_2477 rfl rfl ?_
  refine r_aload_n G 3 dL_law_2478 rfl rfl ?_
  refine r_callLS (ι := xI) (rest := []) (As := [va_rf (some x1), va_rf (some x3)]) G hN tgh_L_undo (fun r w' h => ct_L_undo (xhl G) _ _ _ r w' h) hyp ww_1228 ww_1229 (by decide) (by decide) (by first | exact ⟨Nat.le_of_ble_eq_true rfl, Nat.le_of_ble_eq_true rfl⟩ | (constructor <;> (show _ ≤ _; simp only [room_1]; omega))) rfl rfl (xroom (Nat.le_of_ble_eq_true rfl)) dL_law_2479 (push := (fun r636 => [.int r636])) (fun _ => rfl) (fun r636 w635 hyp => ?_)
  refine r_istore (lv' := [(5, .int r636), (0, .ref b), (1, .ref x1), (2, .ref x2), (3, .ref x3), (4, .int x4)]) G dL_law_2482 (by decide) ⟨fun _ => rfl, fun _ => rfl, fun _ => rfl, fun _ => rfl, fun _ => rfl, trivial⟩ rfl ?_
  refine r_aload_n G 3 dL_law_2484 rfl rfl ?_
  obtain ⟨o639, hyp⟩ := x_chk hyp
  refine r_callLV (ι := xI) (T := TX7) (N := 22) (ci := 7) (b := x2) (rest := []) (As := []) G tg_X7_undo (fun r w' h => ct_X7_undo (xhl G) _ _ r w' h) o639 hyp rfl ww_1230 ww_1232 ww_1231 (by decide) (by decide) (by first | exact ⟨Nat.le_of_ble_eq_true rfl, Nat.le_of_ble_eq_true rfl⟩ | (constructor <;> (show _ ≤ _; simp only [room_1]; omega))) rfl rfl (xroom (Nat.le_of_ble_eq_true rfl)) dL_law_2485 (push := (fun r638 => [.int r638])) (fun _ => rfl) (fun r638 w637 hyp => ?_)
  refine r_istore (lv' := [(6, .int r638), (5, .int r636), (0, .ref b), (1, .ref x1), (2, .ref x2), (3, .ref x3), (4, .int x4)]) G dL_law_2488 (by decide) ⟨fun _ => rfl, fun _ => rfl, fun _ => rfl, fun _ => rfl, fun _ => rfl, fun _ => rfl, trivial⟩ rfl ?_
  refine r_aload_n G 4 dL_law_2490 rfl rfl ?_
  obtain ⟨o642, hyp⟩ := x_chk hyp
  refine r_callLV (ι := xI) (T := TX7) (N := 22) (ci := 7) (b := x2) (rest := []) (As := []) G tg_X7_thrown (fun r w' h => ct_X7_thrown (xhl G) _ _ r w' h) o642 hyp rfl ww_996 ww_998 ww_997 (by decide) (by decide) (by first | exact ⟨Nat.le_of_ble_eq_true rfl, Nat.le_of_ble_eq_true rfl⟩ | (constructor <;> (show _ ≤ _; simp only [room_1]; omega))) rfl rfl (xroom (Nat.le_of_ble_eq_true rfl)) dL_law_2491 (push := (fun r641 => [.int r641])) (fun _ => rfl) (fun r641 w640 hyp => ?_)
  refine r_iload G 1 dL_law_2494 rfl ?_
  refine r_icmp_eq G 2501 dL_law_2496 (by decide) hyp (fun c643 hyp => ?_) (fun c643 hyp => ?_)
  · refine r_iload G 1 dL_law_2501 rfl ?_
    refine r_if_ne G 2518 dL_law_2503 (by decide) hyp (fun c644 hyp => ?_) (fun c644 hyp => ?_)
    · refine r_goto G 2578 dL_law_2518 (by decide) ?_
      refine r_iinc (v := (x4 + 7)) (lv' := [(4, .int (x4 + 7)), (6, .int r638), (5, .int r636), (0, .ref b), (1, .ref x1), (2, .ref x2), (3, .ref x3)]) G 6 dL_law_2578 rfl rfl (by decide) ⟨fun _ => rfl, fun _ => rfl, fun _ => rfl, fun _ => rfl, fun _ => rfl, fun _ => rfl, fun _ => rfl, trivial⟩ rfl ?_
      refine r_goto G 23 dL_law_2581 (by decide) ?_
      refine r_weak (lv' := [(0, .ref b), (1, .ref x1), (2, .ref x2), (3, .ref x3), (4, .int (x4 + 7))]) [3, 4, 5, 6, 0] rfl ?_
      exact hk23 x1 x2 x3 (x4 + 7) w640 _ _ (by omega) (by omega) hyp
    · refine r_aload_n G 5 dL_law_2506 rfl rfl ?_
      refine r_iconst (v := 0) G dL_law_2507 (by decide) ?_
      obtain ⟨v645, hv645, hyp⟩ := x_some hyp
      refine r_lald G hv645 dL_law_2508 ?_
      refine r_iload G 0 dL_law_2509 rfl ?_
      refine r_i2l G dL_law_2511 ?_
      refine r_lcmp G dL_law_2512 ?_
      refine r_if_eq G 2518 dL_law_2513 (by decide) hyp (fun c646 hyp => ?_) (fun c646 hyp => ?_)
      · refine r_goto G 2578 dL_law_2518 (by decide) ?_
        refine r_iinc (v := (x4 + 7)) (lv' := [(4, .int (x4 + 7)), (6, .int r638), (5, .int r636), (0, .ref b), (1, .ref x1), (2, .ref x2), (3, .ref x3)]) G 6 dL_law_2578 rfl rfl (by decide) ⟨fun _ => rfl, fun _ => rfl, fun _ => rfl, fun _ => rfl, fun _ => rfl, fun _ => rfl, fun _ => rfl, trivial⟩ rfl ?_
        refine r_goto G 23 dL_law_2581 (by decide) ?_
        refine r_weak (lv' := [(0, .ref b), (1, .ref x1), (2, .ref x2), (3, .ref x3), (4, .int (x4 + 7))]) [3, 4, 5, 6, 0] rfl ?_
        exact hk23 x1 x2 x3 (x4 + 7) w640 _ _ (by omega) (by omega) hyp
      · refine r_iconst (v := 0) G dL_law_2516 (by decide) ?_
        exact r_lwF hyp
  · refine r_iconst (v := 0) G dL_law_2499 (by decide) ?_
    exact r_lwF hyp
end
section
variable {Γ : xG} {p : Program} {l : Launch} {e : Env} {s : State} {m : MethodId} {below : List Frame} {meth : Method} {c : Code} {wF : xW} {b L : Nat} {xs : Nat → Int32}
set_option maxRecDepth 100000 in
set_option maxHeartbeats 4000000 in
theorem nd_L_law_J2521 {k23 : Nat → Nat → Nat → Int32 → xW → xO Int32} (G : xCx Γ p l s m #[Value.ref b] meth c RL cL_law 9 (some .boolean)) (hN : xNc s) (hX : xSc Γ b L xs s) (n : Nat) (hk23 : ∀ (x1 : Nat) (x2 : Nat) (x3 : Nat) (x4 : Int32) (w : xW) (cells slots : Nat), cells + n * 1 ≤ 601024 → slots + n * 6 ≤ 7293034 → k23 x1 x2 x3 x4 w = some (Sum.inl (1 : Int32), wF) → xAW Γ p l e room_1 s m #[Value.ref b] below meth c 9 (lw_Z below #[Value.ref b] s) w cells slots 23 [(0, .ref b), (1, .ref x1), (2, .ref x2), (3, .ref x3), (4, .int x4)] []) (x1 : Nat) (x2 : Nat) (x3 : Nat) (x4 : Int32) (w0 : xW) (cells slots : Nat) (hcl : cells + (n + 1) * 1 ≤ 601024) (hsl : slots + (n + 1) * 6 ≤ 7293034) (hyp : f_L_law_J2521 xs L k23 x1 x2 x3 x4 w0 = some (Sum.inl (1 : Int32), wF)) : xAW Γ p l e room_1 s m #[Value.ref b] below meth c 9 (lw_Z below #[Value.ref b] s) w0 cells slots 2521 [(0, .ref b), (1, .ref x1), (2, .ref x2), (3, .ref x3), (4, .int x4)] [] := by
  rw [f_L_law_J2521] at hyp
  refine r_aload_n G 1 dL_law_2521 rfl rfl ?_
  obtain ⟨o650, hyp⟩ := x_chk hyp
  refine r_callLV (ι := xI) (T := TX6) (N := 9) (ci := 6) (b := x1) (rest := []) (As := []) G tg_X6_save (fun r w' h => ct_X6_save (xhl G) _ _ r w' h) o650 hyp rfl ww_1233 ww_1235 ww_1234 (by decide) (by decide) (by first | exact ⟨Nat.le_of_ble_eq_true rfl, Nat.le_of_ble_eq_true rfl⟩ | (constructor <;> (show _ ≤ _; simp only [room_1]; omega))) rfl rfl (xroom (Nat.le_of_ble_eq_true rfl)) dL_law_2522 (push := (fun r649 => [.int r649])) (fun _ => rfl) (fun r649 w648 hyp => ?_)
  refine r_aload_n G 2 dL_law_2525 rfl rfl ?_
  obtain ⟨o653, hyp⟩ := x_chk hyp
  refine r_callLV (ι := xI) (T := TX7) (N := 22) (ci := 7) (b := x2) (rest := [.int r649]) (As := []) G tg_X7_save (fun r w' h => ct_X7_save (xhl G) _ _ r w' h) o653 hyp rfl ww_1236 ww_1238 ww_1237 (by decide) (by decide) (by first | exact ⟨Nat.le_of_ble_eq_true rfl, Nat.le_of_ble_eq_true rfl⟩ | (constructor <;> (show _ ≤ _; simp only [room_1]; omega))) rfl rfl (xroom (Nat.le_of_ble_eq_true rfl)) dL_law_2526 (push := (fun r652 => [.int r652, .int r649])) (fun _ => rfl) (fun r652 w651 hyp => ?_)
  refine r_icmp_eq G 2578 dL_law_2529 (by decide) hyp (fun c654 hyp => ?_) (fun c654 hyp => ?_)
  · refine r_iinc (v := (x4 + 7)) (lv' := [(4, .int (x4 + 7)), (0, .ref b), (1, .ref x1), (2, .ref x2), (3, .ref x3)]) G 4 dL_law_2578 rfl rfl (by decide) ⟨fun _ => rfl, fun _ => rfl, fun _ => rfl, fun _ => rfl, fun _ => rfl, trivial⟩ rfl ?_
    refine r_goto G 23 dL_law_2581 (by decide) ?_
    refine r_weak (lv' := [(0, .ref b), (1, .ref x1), (2, .ref x2), (3, .ref x3), (4, .int (x4 + 7))]) [1, 2, 3, 4, 0] rfl ?_
    exact hk23 x1 x2 x3 (x4 + 7) w651 _ _ (by omega) (by omega) hyp
  · refine r_iconst (v := 0) G dL_law_2532 (by decide) ?_
    exact r_lwF hyp
end
section
variable {Γ : xG} {p : Program} {l : Launch} {e : Env} {s : State} {m : MethodId} {below : List Frame} {meth : Method} {c : Code} {wF : xW} {b L : Nat} {xs : Nat → Int32}
set_option maxRecDepth 100000 in
set_option maxHeartbeats 4000000 in
theorem nd_L_law_J2534 {k23 : Nat → Nat → Nat → Int32 → xW → xO Int32} (G : xCx Γ p l s m #[Value.ref b] meth c RL cL_law 9 (some .boolean)) (hN : xNc s) (hX : xSc Γ b L xs s) (n : Nat) (hk23 : ∀ (x1 : Nat) (x2 : Nat) (x3 : Nat) (x4 : Int32) (w : xW) (cells slots : Nat), cells + n * 1 ≤ 601024 → slots + n * 6 ≤ 7293034 → k23 x1 x2 x3 x4 w = some (Sum.inl (1 : Int32), wF) → xAW Γ p l e room_1 s m #[Value.ref b] below meth c 9 (lw_Z below #[Value.ref b] s) w cells slots 23 [(0, .ref b), (1, .ref x1), (2, .ref x2), (3, .ref x3), (4, .int x4)] []) (x1 : Nat) (x2 : Nat) (x3 : Nat) (x4 : Int32) (w0 : xW) (cells slots : Nat) (hcl : cells + (n + 1) * 1 ≤ 601024) (hsl : slots + (n + 1) * 6 ≤ 7293034) (hyp : f_L_law_J2534 xs L k23 x1 x2 x3 x4 w0 = some (Sum.inl (1 : Int32), wF)) : xAW Γ p l e room_1 s m #[Value.ref b] below meth c 9 (lw_Z below #[Value.ref b] s) w0 cells slots 2534 [(0, .ref b), (1, .ref x1), (2, .ref x2), (3, .ref x3), (4, .int x4)] [] := by
  rw [f_L_law_J2534] at hyp
  refine r_aload_n G 1 dL_law_2534 rfl rfl ?_
  refine r_aload_n G 3 dL_law_2535 rfl rfl ?_
  refine r_callLS (ι := xI) (rest := []) (As := [va_rf (some x1), va_rf (some x3)]) G hN tgh_L_restore (fun r w' h => ct_L_restore (xhl G) _ _ _ r w' h) hyp ww_1239 ww_1240 (by decide) (by decide) (by first | exact ⟨Nat.le_of_ble_eq_true rfl, Nat.le_of_ble_eq_true rfl⟩ | (constructor <;> (show _ ≤ _; simp only [room_1]; omega))) rfl rfl (xroom (Nat.le_of_ble_eq_true rfl)) dL_law_2536 (push := (fun r657 => [.int r657])) (fun _ => rfl) (fun r657 w656 hyp => ?_)
  refine r_istore (lv' := [(5, .int r657), (0, .ref b), (1, .ref x1), (2, .ref x2), (3, .ref x3), (4, .int x4)]) G dL_law_2539 (by decide) ⟨fun _ => rfl, fun _ => rfl, fun _ => rfl, fun _ => rfl, fun _ => rfl, trivial⟩ rfl ?_
  refine r_aload_n G 3 dL_law_2541 rfl rfl ?_
  obtain ⟨o660, hyp⟩ := x_chk hyp
  refine r_callLV (ι := xI) (T := TX7) (N := 22) (ci := 7) (b := x2) (rest := []) (As := []) G tg_X7_restore (fun r w' h => ct_X7_restore (xhl G) _ _ r w' h) o660 hyp rfl ww_1241 ww_1243 ww_1242 (by decide) (by decide) (by first | exact ⟨Nat.le_of_ble_eq_true rfl, Nat.le_of_ble_eq_true rfl⟩ | (constructor <;> (show _ ≤ _; simp only [room_1]; omega))) rfl rfl (xroom (Nat.le_of_ble_eq_true rfl)) dL_law_2542 (push := (fun r659 => [.int r659])) (fun _ => rfl) (fun r659 w658 hyp => ?_)
  refine r_istore (lv' := [(6, .int r659), (5, .int r657), (0, .ref b), (1, .ref x1), (2, .ref x2), (3, .ref x3), (4, .int x4)]) G dL_law_2545 (by decide) ⟨fun _ => rfl, fun _ => rfl, fun _ => rfl, fun _ => rfl, fun _ => rfl, fun _ => rfl, trivial⟩ rfl ?_
  refine r_aload_n G 4 dL_law_2547 rfl rfl ?_
  obtain ⟨o663, hyp⟩ := x_chk hyp
  refine r_callLV (ι := xI) (T := TX7) (N := 22) (ci := 7) (b := x2) (rest := []) (As := []) G tg_X7_thrown (fun r w' h => ct_X7_thrown (xhl G) _ _ r w' h) o663 hyp rfl ww_996 ww_998 ww_997 (by decide) (by decide) (by first | exact ⟨Nat.le_of_ble_eq_true rfl, Nat.le_of_ble_eq_true rfl⟩ | (constructor <;> (show _ ≤ _; simp only [room_1]; omega))) rfl rfl (xroom (Nat.le_of_ble_eq_true rfl)) dL_law_2548 (push := (fun r662 => [.int r662])) (fun _ => rfl) (fun r662 w661 hyp => ?_)
  refine r_iload G 1 dL_law_2551 rfl ?_
  refine r_icmp_eq G 2558 dL_law_2553 (by decide) hyp (fun c664 hyp => ?_) (fun c664 hyp => ?_)
  · refine r_iload G 1 dL_law_2558 rfl ?_
    refine r_if_ne G 2575 dL_law_2560 (by decide) hyp (fun c665 hyp => ?_) (fun c665 hyp => ?_)
    · refine r_goto G 2578 dL_law_2575 (by decide) ?_
      refine r_iinc (v := (x4 + 7)) (lv' := [(4, .int (x4 + 7)), (6, .int r659), (5, .int r657), (0, .ref b), (1, .ref x1), (2, .ref x2), (3, .ref x3)]) G 6 dL_law_2578 rfl rfl (by decide) ⟨fun _ => rfl, fun _ => rfl, fun _ => rfl, fun _ => rfl, fun _ => rfl, fun _ => rfl, fun _ => rfl, trivial⟩ rfl ?_
      refine r_goto G 23 dL_law_2581 (by decide) ?_
      refine r_weak (lv' := [(0, .ref b), (1, .ref x1), (2, .ref x2), (3, .ref x3), (4, .int (x4 + 7))]) [3, 4, 5, 6, 0] rfl ?_
      exact hk23 x1 x2 x3 (x4 + 7) w661 _ _ (by omega) (by omega) hyp
    · refine r_aload_n G 5 dL_law_2563 rfl rfl ?_
      refine r_iconst (v := 0) G dL_law_2564 (by decide) ?_
      obtain ⟨v666, hv666, hyp⟩ := x_some hyp
      refine r_lald G hv666 dL_law_2565 ?_
      refine r_iload G 0 dL_law_2566 rfl ?_
      refine r_i2l G dL_law_2568 ?_
      refine r_lcmp G dL_law_2569 ?_
      refine r_if_eq G 2575 dL_law_2570 (by decide) hyp (fun c667 hyp => ?_) (fun c667 hyp => ?_)
      · refine r_goto G 2578 dL_law_2575 (by decide) ?_
        refine r_iinc (v := (x4 + 7)) (lv' := [(4, .int (x4 + 7)), (6, .int r659), (5, .int r657), (0, .ref b), (1, .ref x1), (2, .ref x2), (3, .ref x3)]) G 6 dL_law_2578 rfl rfl (by decide) ⟨fun _ => rfl, fun _ => rfl, fun _ => rfl, fun _ => rfl, fun _ => rfl, fun _ => rfl, fun _ => rfl, trivial⟩ rfl ?_
        refine r_goto G 23 dL_law_2581 (by decide) ?_
        refine r_weak (lv' := [(0, .ref b), (1, .ref x1), (2, .ref x2), (3, .ref x3), (4, .int (x4 + 7))]) [3, 4, 5, 6, 0] rfl ?_
        exact hk23 x1 x2 x3 (x4 + 7) w661 _ _ (by omega) (by omega) hyp
      · refine r_iconst (v := 0) G dL_law_2573 (by decide) ?_
        exact r_lwF hyp
  · refine r_iconst (v := 0) G dL_law_2556 (by decide) ?_
    exact r_lwF hyp
end
section
variable {Γ : xG} {p : Program} {l : Launch} {e : Env} {s : State} {m : MethodId} {below : List Frame} {meth : Method} {c : Code} {wF : xW} {b L : Nat} {xs : Nat → Int32}
set_option maxRecDepth 100000 in
set_option maxHeartbeats 4000000 in
theorem nd_L_law_L23 (G : xCx Γ p l s m #[Value.ref b] meth c RL cL_law 9 (some .boolean)) (hN : xNc s) (hX : xSc Γ b L xs s) : ∀ (n : Nat) (x1 : Nat) (x2 : Nat) (x3 : Nat) (x4 : Int32) (w0 : xW) (cells slots : Nat), cells + n * 1 ≤ 601024 → slots + n * 6 ≤ 7293034 → f_L_law_L23 xs L n x1 x2 x3 x4 w0 = some (Sum.inl (1 : Int32), wF) → xAW Γ p l e room_1 s m #[Value.ref b] below meth c 9 (lw_Z below #[Value.ref b] s) w0 cells slots 23 [(0, .ref b), (1, .ref x1), (2, .ref x2), (3, .ref x3), (4, .int x4)] [] := by
  intro n
  induction n with
  | zero =>
    intro x1 x2 x3 x4 w0 cells slots hcl hsl hyp
    cases (show (none : xO Int32) = some (Sum.inl (1 : Int32), wF) from hyp)
  | succ n ih =>
    intro x1 x2 x3 x4 w0 cells slots hcl hsl hyp
    rw [f_L_law_L23] at hyp
    refine r_iload G 4 dL_law_23 rfl ?_
    refine r_aload_n G 0 dL_law_25 rfl rfl ?_
    refine r_slen G hX dL_law_26 ?_
    refine r_bipush (v := 7) G dL_law_27 (by decide) ?_
    refine r_isub G dL_law_29 ?_
    refine r_icmp_gt G 2584 dL_law_30 (by decide) hyp (fun c6 hyp => ?_) (fun c6 hyp => ?_)
    · refine r_iconst (v := 1) G dL_law_2584 (by decide) ?_
      exact r_lwT G hX (by first | exact Nat.le_of_ble_eq_true rfl | omega) (by first | exact Nat.le_of_ble_eq_true rfl | omega) dL_law_2585
    · refine r_aload_n G 0 dL_law_33 rfl rfl ?_
      refine r_iload G 4 dL_law_34 rfl ?_
      obtain ⟨h7, hyp⟩ := x_chk hyp
      refine r_sld G hX h7 dL_law_36 ?_
      refine r_bipush (v := 63) G dL_law_37 (by decide) ?_
      refine r_iand G dL_law_39 ?_
      rcases x_if hyp with ⟨k8, hyp⟩ | ⟨k8, hyp⟩
      · refine r_tabK G 0 k8 248 dL_law_40 (by decide) (by decide) rfl (by decide) ?_
        exact nd_L_law_J248 G hN hX n ih x1 x2 x3 x4 w0 _ _ (by omega) (by omega) hyp
      rcases x_if hyp with ⟨k23, hyp⟩ | ⟨k23, hyp⟩
      · refine r_tabK G 1 k23 306 dL_law_40 (by decide) (by decide) rfl (by decide) ?_
        exact nd_L_law_J306 G hN hX n ih x1 x2 x3 x4 w0 _ _ (by omega) (by omega) hyp
      rcases x_if hyp with ⟨k38, hyp⟩ | ⟨k38, hyp⟩
      · refine r_tabK G 2 k38 362 dL_law_40 (by decide) (by decide) rfl (by decide) ?_
        exact nd_L_law_J362 G hN hX n ih x1 x2 x3 x4 w0 _ _ (by omega) (by omega) hyp
      rcases x_if hyp with ⟨k63, hyp⟩ | ⟨k63, hyp⟩
      · refine r_tabK G 3 k63 480 dL_law_40 (by decide) (by decide) rfl (by decide) ?_
        exact nd_L_law_J480 G hN hX n ih x1 x2 x3 x4 w0 _ _ (by omega) (by omega) hyp
      rcases x_if hyp with ⟨k84, hyp⟩ | ⟨k84, hyp⟩
      · refine r_tabK G 4 k84 572 dL_law_40 (by decide) (by decide) rfl (by decide) ?_
        exact nd_L_law_J572 G hN hX n ih x1 x2 x3 x4 w0 _ _ (by omega) (by omega) hyp
      rcases x_if hyp with ⟨k99, hyp⟩ | ⟨k99, hyp⟩
      · refine r_tabK G 5 k99 628 dL_law_40 (by decide) (by decide) rfl (by decide) ?_
        exact nd_L_law_J628 G hN hX n ih x1 x2 x3 x4 w0 _ _ (by omega) (by omega) hyp
      rcases x_if hyp with ⟨k114, hyp⟩ | ⟨k114, hyp⟩
      · refine r_tabK G 6 k114 684 dL_law_40 (by decide) (by decide) rfl (by decide) ?_
        exact nd_L_law_J684 G hN hX n ih x1 x2 x3 x4 w0 _ _ (by omega) (by omega) hyp
      rcases x_if hyp with ⟨k131, hyp⟩ | ⟨k131, hyp⟩
      · refine r_tabK G 7 k131 752 dL_law_40 (by decide) (by decide) rfl (by decide) ?_
        exact nd_L_law_J752 G hN hX n ih x1 x2 x3 x4 w0 _ _ (by omega) (by omega) hyp
      rcases x_if hyp with ⟨k146, hyp⟩ | ⟨k146, hyp⟩
      · refine r_tabK G 8 k146 808 dL_law_40 (by decide) (by decide) rfl (by decide) ?_
        exact nd_L_law_J808 G hN hX n ih x1 x2 x3 x4 w0 _ _ (by omega) (by omega) hyp
      rcases x_if hyp with ⟨k163, hyp⟩ | ⟨k163, hyp⟩
      · refine r_tabK G 9 k163 876 dL_law_40 (by decide) (by decide) rfl (by decide) ?_
        exact nd_L_law_J876 G hN hX n ih x1 x2 x3 x4 w0 _ _ (by omega) (by omega) hyp
      rcases x_if hyp with ⟨k171, hyp⟩ | ⟨k171, hyp⟩
      · refine r_tabK G 10 k171 889 dL_law_40 (by decide) (by decide) rfl (by decide) ?_
        exact nd_L_law_J889 G hN hX n ih x1 x2 x3 x4 w0 _ _ (by omega) (by omega) hyp
      rcases x_if hyp with ⟨k186, hyp⟩ | ⟨k186, hyp⟩
      · refine r_tabK G 11 k186 945 dL_law_40 (by decide) (by decide) rfl (by decide) ?_
        exact nd_L_law_J945 G hN hX n ih x1 x2 x3 x4 w0 _ _ (by omega) (by omega) hyp
      rcases x_if hyp with ⟨k203, hyp⟩ | ⟨k203, hyp⟩
      · refine r_tabK G 12 k203 1008 dL_law_40 (by decide) (by decide) rfl (by decide) ?_
        exact nd_L_law_J1008 G hN hX n ih x1 x2 x3 x4 w0 _ _ (by omega) (by omega) hyp
      rcases x_if hyp with ⟨k224, hyp⟩ | ⟨k224, hyp⟩
      · refine r_tabK G 13 k224 1095 dL_law_40 (by decide) (by decide) rfl (by decide) ?_
        exact nd_L_law_J1095 G hN hX n ih x1 x2 x3 x4 w0 _ _ (by omega) (by omega) hyp
      rcases x_if hyp with ⟨k243, hyp⟩ | ⟨k243, hyp⟩
      · refine r_tabK G 14 k243 1175 dL_law_40 (by decide) (by decide) rfl (by decide) ?_
        exact nd_L_law_J1175 G hN hX n ih x1 x2 x3 x4 w0 _ _ (by omega) (by omega) hyp
      rcases x_if hyp with ⟨k258, hyp⟩ | ⟨k258, hyp⟩
      · refine r_tabK G 15 k258 1231 dL_law_40 (by decide) (by decide) rfl (by decide) ?_
        exact nd_L_law_J1231 G hN hX n ih x1 x2 x3 x4 w0 _ _ (by omega) (by omega) hyp
      rcases x_if hyp with ⟨k266, hyp⟩ | ⟨k266, hyp⟩
      · refine r_tabK G 16 k266 1244 dL_law_40 (by decide) (by decide) rfl (by decide) ?_
        exact nd_L_law_J1244 G hN hX n ih x1 x2 x3 x4 w0 _ _ (by omega) (by omega) hyp
      rcases x_if hyp with ⟨k283, hyp⟩ | ⟨k283, hyp⟩
      · refine r_tabK G 17 k283 1312 dL_law_40 (by decide) (by decide) rfl (by decide) ?_
        exact nd_L_law_J1312 G hN hX n ih x1 x2 x3 x4 w0 _ _ (by omega) (by omega) hyp
      rcases x_if hyp with ⟨k300, hyp⟩ | ⟨k300, hyp⟩
      · refine r_tabK G 18 k300 1380 dL_law_40 (by decide) (by decide) rfl (by decide) ?_
        exact nd_L_law_J1380 G hN hX n ih x1 x2 x3 x4 w0 _ _ (by omega) (by omega) hyp
      rcases x_if hyp with ⟨k317, hyp⟩ | ⟨k317, hyp⟩
      · refine r_tabK G 19 k317 1448 dL_law_40 (by decide) (by decide) rfl (by decide) ?_
        exact nd_L_law_J1448 G hN hX n ih x1 x2 x3 x4 w0 _ _ (by omega) (by omega) hyp
      rcases x_if hyp with ⟨k334, hyp⟩ | ⟨k334, hyp⟩
      · refine r_tabK G 20 k334 1516 dL_law_40 (by decide) (by decide) rfl (by decide) ?_
        exact nd_L_law_J1516 G hN hX n ih x1 x2 x3 x4 w0 _ _ (by omega) (by omega) hyp
      rcases x_if hyp with ⟨k349, hyp⟩ | ⟨k349, hyp⟩
      · refine r_tabK G 21 k349 1572 dL_law_40 (by decide) (by decide) rfl (by decide) ?_
        exact nd_L_law_J1572 G hN hX n ih x1 x2 x3 x4 w0 _ _ (by omega) (by omega) hyp
      rcases x_if hyp with ⟨k357, hyp⟩ | ⟨k357, hyp⟩
      · refine r_tabK G 22 k357 1585 dL_law_40 (by decide) (by decide) rfl (by decide) ?_
        exact nd_L_law_J1585 G hN hX n ih x1 x2 x3 x4 w0 _ _ (by omega) (by omega) hyp
      rcases x_if hyp with ⟨k378, hyp⟩ | ⟨k378, hyp⟩
      · refine r_tabK G 23 k378 1677 dL_law_40 (by decide) (by decide) rfl (by decide) ?_
        exact nd_L_law_J1677 G hN hX n ih x1 x2 x3 x4 w0 _ _ (by omega) (by omega) hyp
      rcases x_if hyp with ⟨k399, hyp⟩ | ⟨k399, hyp⟩
      · refine r_tabK G 24 k399 1769 dL_law_40 (by decide) (by decide) rfl (by decide) ?_
        exact nd_L_law_J1769 G hN hX n ih x1 x2 x3 x4 w0 _ _ (by omega) (by omega) hyp
      rcases x_if hyp with ⟨k416, hyp⟩ | ⟨k416, hyp⟩
      · refine r_tabK G 25 k416 1837 dL_law_40 (by decide) (by decide) rfl (by decide) ?_
        exact nd_L_law_J1837 G hN hX n ih x1 x2 x3 x4 w0 _ _ (by omega) (by omega) hyp
      rcases x_if hyp with ⟨k424, hyp⟩ | ⟨k424, hyp⟩
      · refine r_tabK G 26 k424 1850 dL_law_40 (by decide) (by decide) rfl (by decide) ?_
        exact nd_L_law_J1850 G hN hX n ih x1 x2 x3 x4 w0 _ _ (by omega) (by omega) hyp
      rcases x_if hyp with ⟨k432, hyp⟩ | ⟨k432, hyp⟩
      · refine r_tabK G 27 k432 1863 dL_law_40 (by decide) (by decide) rfl (by decide) ?_
        exact nd_L_law_J1863 G hN hX n ih x1 x2 x3 x4 w0 _ _ (by omega) (by omega) hyp
      rcases x_if hyp with ⟨k440, hyp⟩ | ⟨k440, hyp⟩
      · refine r_tabK G 28 k440 1876 dL_law_40 (by decide) (by decide) rfl (by decide) ?_
        exact nd_L_law_J1876 G hN hX n ih x1 x2 x3 x4 w0 _ _ (by omega) (by omega) hyp
      rcases x_if hyp with ⟨k448, hyp⟩ | ⟨k448, hyp⟩
      · refine r_tabK G 29 k448 1889 dL_law_40 (by decide) (by decide) rfl (by decide) ?_
        exact nd_L_law_J1889 G hN hX n ih x1 x2 x3 x4 w0 _ _ (by omega) (by omega) hyp
      rcases x_if hyp with ⟨k456, hyp⟩ | ⟨k456, hyp⟩
      · refine r_tabK G 30 k456 1902 dL_law_40 (by decide) (by decide) rfl (by decide) ?_
        exact nd_L_law_J1902 G hN hX n ih x1 x2 x3 x4 w0 _ _ (by omega) (by omega) hyp
      rcases x_if hyp with ⟨k473, hyp⟩ | ⟨k473, hyp⟩
      · refine r_tabK G 31 k473 1970 dL_law_40 (by decide) (by decide) rfl (by decide) ?_
        exact nd_L_law_J1970 G hN hX n ih x1 x2 x3 x4 w0 _ _ (by omega) (by omega) hyp
      rcases x_if hyp with ⟨k488, hyp⟩ | ⟨k488, hyp⟩
      · refine r_tabK G 32 k488 2026 dL_law_40 (by decide) (by decide) rfl (by decide) ?_
        exact nd_L_law_J2026 G hN hX n ih x1 x2 x3 x4 w0 _ _ (by omega) (by omega) hyp
      rcases x_if hyp with ⟨k496, hyp⟩ | ⟨k496, hyp⟩
      · refine r_tabK G 33 k496 2039 dL_law_40 (by decide) (by decide) rfl (by decide) ?_
        exact nd_L_law_J2039 G hN hX n ih x1 x2 x3 x4 w0 _ _ (by omega) (by omega) hyp
      rcases x_if hyp with ⟨k504, hyp⟩ | ⟨k504, hyp⟩
      · refine r_tabK G 34 k504 2052 dL_law_40 (by decide) (by decide) rfl (by decide) ?_
        exact nd_L_law_J2052 G hN hX n ih x1 x2 x3 x4 w0 _ _ (by omega) (by omega) hyp
      rcases x_if hyp with ⟨k514, hyp⟩ | ⟨k514, hyp⟩
      · refine r_tabK G 35 k514 2093 dL_law_40 (by decide) (by decide) rfl (by decide) ?_
        exact nd_L_law_J2093 G hN hX n ih x1 x2 x3 x4 w0 _ _ (by omega) (by omega) hyp
      rcases x_if hyp with ⟨k526, hyp⟩ | ⟨k526, hyp⟩
      · refine r_tabK G 36 k526 2136 dL_law_40 (by decide) (by decide) rfl (by decide) ?_
        exact nd_L_law_J2136 G hN hX n ih x1 x2 x3 x4 w0 _ _ (by omega) (by omega) hyp
      rcases x_if hyp with ⟨k534, hyp⟩ | ⟨k534, hyp⟩
      · refine r_tabK G 37 k534 2149 dL_law_40 (by decide) (by decide) rfl (by decide) ?_
        exact nd_L_law_J2149 G hN hX n ih x1 x2 x3 x4 w0 _ _ (by omega) (by omega) hyp
      rcases x_if hyp with ⟨k549, hyp⟩ | ⟨k549, hyp⟩
      · refine r_tabK G 38 k549 2207 dL_law_40 (by decide) (by decide) rfl (by decide) ?_
        exact nd_L_law_J2207 G hN hX n ih x1 x2 x3 x4 w0 _ _ (by omega) (by omega) hyp
      rcases x_if hyp with ⟨k562, hyp⟩ | ⟨k562, hyp⟩
      · refine r_tabK G 39 k562 2251 dL_law_40 (by decide) (by decide) rfl (by decide) ?_
        exact nd_L_law_J2251 G hN hX n ih x1 x2 x3 x4 w0 _ _ (by omega) (by omega) hyp
      rcases x_if hyp with ⟨k575, hyp⟩ | ⟨k575, hyp⟩
      · refine r_tabK G 40 k575 2295 dL_law_40 (by decide) (by decide) rfl (by decide) ?_
        exact nd_L_law_J2295 G hN hX n ih x1 x2 x3 x4 w0 _ _ (by omega) (by omega) hyp
      rcases x_if hyp with ⟨k588, hyp⟩ | ⟨k588, hyp⟩
      · refine r_tabK G 41 k588 2339 dL_law_40 (by decide) (by decide) rfl (by decide) ?_
        exact nd_L_law_J2339 G hN hX n ih x1 x2 x3 x4 w0 _ _ (by omega) (by omega) hyp
      rcases x_if hyp with ⟨k603, hyp⟩ | ⟨k603, hyp⟩
      · refine r_tabK G 42 k603 2395 dL_law_40 (by decide) (by decide) rfl (by decide) ?_
        exact nd_L_law_J2395 G hN hX n ih x1 x2 x3 x4 w0 _ _ (by omega) (by omega) hyp
      rcases x_if hyp with ⟨k611, hyp⟩ | ⟨k611, hyp⟩
      · refine r_tabK G 43 k611 2408 dL_law_40 (by decide) (by decide) rfl (by decide) ?_
        exact nd_L_law_J2408 G hN hX n ih x1 x2 x3 x4 w0 _ _ (by omega) (by omega) hyp
      rcases x_if hyp with ⟨k626, hyp⟩ | ⟨k626, hyp⟩
      · refine r_tabK G 44 k626 2464 dL_law_40 (by decide) (by decide) rfl (by decide) ?_
        exact nd_L_law_J2464 G hN hX n ih x1 x2 x3 x4 w0 _ _ (by omega) (by omega) hyp
      rcases x_if hyp with ⟨k634, hyp⟩ | ⟨k634, hyp⟩
      · refine r_tabK G 45 k634 2477 dL_law_40 (by decide) (by decide) rfl (by decide) ?_
        exact nd_L_law_J2477 G hN hX n ih x1 x2 x3 x4 w0 _ _ (by omega) (by omega) hyp
      rcases x_if hyp with ⟨k647, hyp⟩ | ⟨k647, hyp⟩
      · refine r_tabK G 46 k647 2521 dL_law_40 (by decide) (by decide) rfl (by decide) ?_
        exact nd_L_law_J2521 G hN hX n ih x1 x2 x3 x4 w0 _ _ (by omega) (by omega) hyp
      rcases x_if hyp with ⟨k655, hyp⟩ | ⟨k655, hyp⟩
      · refine r_tabK G 47 k655 2534 dL_law_40 (by decide) (by decide) rfl (by decide) ?_
        exact nd_L_law_J2534 G hN hX n ih x1 x2 x3 x4 w0 _ _ (by omega) (by omega) hyp
      refine r_tabD G [0, 1, 2, 3, 4, 5, 6, 7, 8, 9, 10, 11, 12, 13, 14, 15, 16, 17, 18, 19, 20, 21, 22, 23, 24, 25, 26, 27, 28, 29, 30, 31, 32, 33, 34, 35, 36, 37, 38, 39, 40, 41, 42, 43, 44, 45, 46, 47] (by intro k hk; simp only [List.mem_cons, List.not_mem_nil, or_false] at hk; rcases hk with rfl | rfl | rfl | rfl | rfl | rfl | rfl | rfl | rfl | rfl | rfl | rfl | rfl | rfl | rfl | rfl | rfl | rfl | rfl | rfl | rfl | rfl | rfl | rfl | rfl | rfl | rfl | rfl | rfl | rfl | rfl | rfl | rfl | rfl | rfl | rfl | rfl | rfl | rfl | rfl | rfl | rfl | rfl | rfl | rfl | rfl | rfl | rfl <;> assumption) 2578 dL_law_40 (by decide) (by decide) ?_
      refine r_iinc (v := (x4 + 7)) (lv' := [(4, .int (x4 + 7)), (0, .ref b), (1, .ref x1), (2, .ref x2), (3, .ref x3)]) G 4 dL_law_2578 rfl rfl (by decide) ⟨fun _ => rfl, fun _ => rfl, fun _ => rfl, fun _ => rfl, fun _ => rfl, trivial⟩ rfl ?_
      refine r_goto G 23 dL_law_2581 (by decide) ?_
      refine r_weak (lv' := [(0, .ref b), (1, .ref x1), (2, .ref x2), (3, .ref x3), (4, .int (x4 + 7))]) [1, 2, 3, 4, 0] rfl ?_
      exact ih x1 x2 x3 (x4 + 7) w0 _ _ (by omega) (by omega) hyp
end
section
variable {Γ : xG} {p : Program} {l : Launch} {e : Env} {s : State} {m : MethodId} {below : List Frame} {meth : Method} {c : Code} {wF : xW} {b L : Nat} {xs : Nat → Int32}
set_option maxRecDepth 100000 in
set_option maxHeartbeats 4000000 in
theorem ct_L_law (G : xCx Γ p l s m #[Value.ref b] meth c RL cL_law 9 (some .boolean)) (hN : xNc s) (hX : xSc Γ b L xs s) (w0 : xW) (hyp : f_L_law xs L w0 = some (Sum.inl (1 : Int32), wF)) : xAW Γ p l e room_1 s m #[Value.ref b] below meth c 9 (lw_Z below #[Value.ref b] s) w0 0 0 0 [(0, .ref b)] [] := by
  rw [f_L_law] at hyp
  obtain ⟨w1, hw1, hyp⟩ := x_some hyp
  refine r_newx (C := RX6) (T := TX6) (N := 9) G 6 tyX6 tyX6_ok rfl uw_6 ww_982 ww_983 ww_86 (fun j hj => by rcases (show j = 0 ∨ j = 1 ∨ j = 2 ∨ j = 3 ∨ j = 4 ∨ j = 5 ∨ j = 6 ∨ j = 7 ∨ j = 8 by omega) with rfl | rfl | rfl | rfl | rfl | rfl | rfl | rfl | rfl <;> rfl) hw1 (by first | exact Nat.le_of_ble_eq_true rfl | (show _ ≤ 601024; omega)) (by first | exact Nat.le_of_ble_eq_true rfl | (show _ ≤ 7293034; omega)) dL_law_0 ?_
  refine r_dup G dL_law_3 rfl ?_
  obtain ⟨w2, hw2, hyp⟩ := x_some hyp
  refine r_callI (b := w0.1) (rest := [.ref w0.1]) (As := []) rfl G tg_X6_init (ct_X6_init (xhl G) _ _ _ hw2) ww_984 ww_985 rfl (by decide) (by decide) (by first | exact ⟨Nat.le_of_ble_eq_true rfl, Nat.le_of_ble_eq_true rfl⟩ | (constructor <;> (show _ ≤ _; simp only [xRm]; omega))) rfl rfl (xroom (Nat.le_of_ble_eq_true rfl)) dL_law_4 ?_
  refine r_astore_n (lv' := [(1, .ref w0.1), (0, .ref b)]) G dL_law_7 rfl (by decide) ⟨fun _ => rfl, trivial⟩ rfl ?_
  obtain ⟨w3, hw3, hyp⟩ := x_some hyp
  refine r_newx (C := RX7) (T := TX7) (N := 22) G 7 tyX7 tyX7_ok rfl uw_7 ww_986 ww_987 ww_574 (fun j hj => by rcases (show j = 0 ∨ j = 1 ∨ j = 2 ∨ j = 3 ∨ j = 4 ∨ j = 5 ∨ j = 6 ∨ j = 7 ∨ j = 8 ∨ j = 9 ∨ j = 10 ∨ j = 11 ∨ j = 12 ∨ j = 13 ∨ j = 14 ∨ j = 15 ∨ j = 16 ∨ j = 17 ∨ j = 18 ∨ j = 19 ∨ j = 20 ∨ j = 21 by omega) with rfl | rfl | rfl | rfl | rfl | rfl | rfl | rfl | rfl | rfl | rfl | rfl | rfl | rfl | rfl | rfl | rfl | rfl | rfl | rfl | rfl | rfl <;> rfl) hw3 (by first | exact Nat.le_of_ble_eq_true rfl | (show _ ≤ 601024; omega)) (by first | exact Nat.le_of_ble_eq_true rfl | (show _ ≤ 7293034; omega)) dL_law_8 ?_
  refine r_dup G dL_law_11 rfl ?_
  obtain ⟨w4, hw4, hyp⟩ := x_some hyp
  refine r_callI (b := w2.1) (rest := [.ref w2.1]) (As := []) rfl G tg_X7_init (ct_X7_init (xhl G) _ _ _ hw4) ww_988 ww_989 rfl (by decide) (by decide) (by first | exact ⟨Nat.le_of_ble_eq_true rfl, Nat.le_of_ble_eq_true rfl⟩ | (constructor <;> (show _ ≤ _; simp only [xRm]; omega))) rfl rfl (xroom (Nat.le_of_ble_eq_true rfl)) dL_law_12 ?_
  refine r_astore_n (lv' := [(2, .ref w2.1), (1, .ref w0.1), (0, .ref b)]) G dL_law_15 rfl (by decide) ⟨fun _ => rfl, fun _ => rfl, trivial⟩ rfl ?_
  refine r_iconst (v := 1) G dL_law_16 (by decide) ?_
  obtain ⟨w5, hw5, hyp⟩ := x_some hyp
  refine r_newax (N := 1) G 5 (by decide) rfl ww_990 (Or.inr (Or.inr (Or.inr rfl))) (fun _ _ => rfl) (by decide) (by decide) (by decide) hw5 (by first | exact Nat.le_of_ble_eq_true rfl | (show _ ≤ 601024; omega)) (by first | exact Nat.le_of_ble_eq_true rfl | (show _ ≤ 7293034; omega)) dL_law_17 ?_
  refine r_astore_n (lv' := [(3, .ref w4.1), (2, .ref w2.1), (1, .ref w0.1), (0, .ref b)]) G dL_law_19 rfl (by decide) ⟨fun _ => rfl, fun _ => rfl, fun _ => rfl, trivial⟩ rfl ?_
  refine r_iconst (v := 0) G dL_law_20 (by decide) ?_
  refine r_istore (lv' := [(4, .int 0), (3, .ref w4.1), (2, .ref w2.1), (1, .ref w0.1), (0, .ref b)]) G dL_law_21 (by decide) ⟨fun _ => rfl, fun _ => rfl, fun _ => rfl, fun _ => rfl, trivial⟩ rfl ?_
  refine r_weak (lv' := [(0, .ref b), (1, .ref w0.1), (2, .ref w2.1), (3, .ref w4.1), (4, .int 0)]) [4, 3, 2, 1, 0] rfl ?_
  exact nd_L_law_L23 G hN hX 600 w0.1 w2.1 w4.1 0 w5 _ _ (by omega) (by omega) hyp
end
