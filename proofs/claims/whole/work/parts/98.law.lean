/-! ===== the law is true ===== -/
theorem law_true (L : Nat) (xs : Nat → Int32) (z : Nat) (hL : L ≤ 3584) : ∃ wF, f_L_law xs L (z, fun _ => none) = some (Sum.inl (1 : Int32), wF) := by
  obtain ⟨w1, e1, a1, s1, b1⟩ := al_ex ((z, fun _ => none) : xW) (.inr (6, [.null, .null, .null, .int 0, .null, .null, .null, .int 0, .int 0]))
  obtain ⟨w2, e2, s2, C, b2⟩ := X6_ini (z := z) a1 s1
  obtain ⟨w3, e3, a3, s3, b3⟩ := al_ex w2 (.inr (7, [.int 0, .null, .null, .null, .null, .int 0, .int 0, .null, .null, .null, .null, .null, .null, .int 0, .int 0, .int 0, .int 0, .int 0, .int 0, .int 0, .int 0, .int 0]))
  rw [s2] at a3 s3 b3
  obtain ⟨w4, e4, s4, M, b4⟩ := X7_ini (a := z + 168) a3 s3
  obtain ⟨w5, e5, a5, s5, b5⟩ := al_ex w4 (.inl (5, 1, .inr (.inl (fun _ => 0))))
  rw [s4] at a5 s5 b5
  have C5 : Cls w5 z c0 := C.fq (A := fun q => z + 168 ≤ q) (fun q hq => by rw [b5 _ (by omega), b4 _ (by omega), b3 _ (by omega)]) (fun q hq => by unfold clc at hq; omega)
  have M5 : MoAt w5 (z + 168) (fun k => if k = 15 ∨ k = 16 then -1 else 0) (fun _ _ => 0) := ⟨(b5 _ (by omega)).trans M.1, fun k h1 h2 => (b5 _ (by omega)).trans (M.2 k h1 h2)⟩
  have R : Rel c0 (fun k => if k = 15 ∨ k = 16 then -1 else 0) (fun _ _ => 0) :=
    ⟨⟨rfl, rfl, rfl, Nat.zero_le _, fun l hl => absurd hl (Nat.not_lt_zero l)⟩, ⟨rfl, fun j hj => absurd hj (Nat.not_lt_zero j)⟩, rfl, Or.inl rfl, rfl, fun i hi => absurd hi (Nat.not_lt_zero i), rfl, fun i hi => absurd hi (Nat.not_lt_zero i), rfl, rfl⟩
  obtain ⟨wF, e6⟩ := law_loop xs hL 600 0 w5 ⟨c0, _, _, fun _ => 0, C5, M5, a5, R⟩ (Nat.zero_le _) (by omega)
  refine ⟨wF, ?_⟩
  unfold f_L_law
  rw [e1, ob, show f_X6_init ((z, fun _ => none) : xW).1 w1 = some w2 from e2, ob, e3, ob, s2, e4, ob, e5, ob, s4]
  exact e6
