/-! ===== the cases of the two fractions ===== -/
section RH
variable {w : xW} {z : Nat} {γ : CG} {F : Nat → Int32} {ar : Nat → Nat → Int32} {v : Nat → Int64}
/-- behind the two answers -/
theorem Inv_rd (C : Cls w z γ) (O : OuL w (z + 179) v) (R : Rel γ F ar) {w1 w2 : xW} (C1 : Cls w1 z γ) (f1 : Fr (clc z) w w1) (f2 : Fr (moc (z + 168)) w1 w2) (M2 : MoAt w2 (z + 168) (upd F 0 0) ar) : Inv z w2 := by
  refine ⟨γ, _, ar, v, C1.fq f2.q (fun q hq ha => by unfold clc at hq; unfold moc at ha; omega), M2, ?_, R.rd (fun k hk => by unfold upd; rw [if_neg (by omega)]) (fun _ _ => rfl)⟩
  exact ((f2.2 _ (fun hq => by unfold moc at hq; omega)).trans (f1.2 _ (fun hq => by unfold clc at hq; omega))).trans O
def JM (K : xW → xO Int32) (x1 x2 : Nat) (w0 : xW) : xO Int32 := if x_isO w0 x1 6 = true then (x_bind (f_X6_meanTone x1 w0) fun r506 w505 => if x_isO w505 x2 7 = true then (x_bind (f_X7_meanTone x2 w505) fun r509 w508 => (if (Op.cmpValue (FP.dcmp r506 r509) .l) = 0 then (K w508) else ((if (Op.cmpValue (FP.dcmp r506 r506) .l) = 0 then (x_ret 0 w508) else ((if (Op.cmpValue (FP.dcmp r509 r509) .l) = 0 then (x_ret 0 w508) else (K w508))))))) else none) else none
theorem J_mean (C : Cls w z γ) (M : MoAt w (z + 168) F ar) (O : OuL w (z + 179) v) (R : Rel γ F ar) (K : xW → xO Int32) : ∃ w', JM K z (z + 168) w = K w' ∧ Inv z w' := by
  obtain ⟨w1, f, e1, q1, q2, q3, q4, q5⟩ := X6_flat C
  obtain ⟨N, hN, eN⟩ := sumQ_bd (T := seeG γ.g) (fun c hc => see_ok R.1 hc) 6 0 0 (by omega)
  rw [nI_0] at eN
  obtain ⟨p1, p2⟩ := fp_d N (by omega)
  have a1 : f_X6_meanTone z w = x_ret (FP.ddiv (FP.i2d (nI N)) (4631952216750555136 : UInt64)) w1 := by
    simp only [f_X6_meanTone, C.o, if_true, e1, x_br, oe, q1.o, X1_sumOfAllCells q1]
    rw [sumQ_cg q2 (by omega) (by omega), eN, if_pos p1]
  have M1 : MoAt w1 (z + 168) F ar := M.fr q5 (fun q hq ha => by unfold moc at hq; unfold clc at ha; omega)
  have h1 := M1.sF (upd F 0 0)
  have e2 := X7_sum h1 (g := γ.g) R.1 (l := 0) (up := 0) (rr := 7) (lo := 5) (by omega) (by omega) (by omega) (by omega)
  have e2' : f_X7_sum (z + 168) 0 0 7 5 (wz w1 (z + 168) F 0) = x_ret (sumQ (seeG γ.g) 0 8 0 6 0) (wz w1 (z + 168) F 0) := e2
  have a2 : f_X7_meanTone (z + 168) w1 = x_ret (FP.ddiv (FP.i2d (nI N)) (4631952216750555136 : UInt64)) (wz w1 (z + 168) F 0) := by
    simp only [f_X7_meanTone, M1.p0, ob]
    rw [if_pos h1.o, e2', x_br, eN, if_pos p1]
  refine ⟨wz w1 (z + 168) F 0, ?_, Inv_rd C O R q4 q5 (wF_fr _) h1⟩
  unfold JM
  rw [if_pos C.o, a1, x_br, if_pos M1.o, a2, x_br, if_pos p2]
theorem top_none {p : Nat → Bool} : ∀ n : Nat, n ≤ 6 → ((topG p n).elim (-1) nI = -1) = (cnt n p = 0)
  | 0, _ => by
    apply propext
    exact ⟨fun _ => rfl, fun _ => rfl⟩
  | n + 1, h => by
    have ih := top_none (p := p) n (by omega)
    rw [cnt_succ]
    unfold topG
    by_cases hp : p n = true
    · rw [if_pos hp, if_pos hp]
      apply propext
      constructor
      · intro h9
        exact absurd h9 (nI_nneg (by omega) (by decide))
      · intro h9
        omega
    · rw [if_neg hp, if_neg hp, ih]
      rfl
theorem X7_cvs_L {c : Nat} {g : WL} (h : MoAt w c F ar) (r : RelS g (ar 1)) : ∀ (d k n acc : Nat), k + d = 48 → d < n → acc ≤ k → f_X7_coveredShare_L9 n c (nI acc) (nI k) w = x_ret (FP.fdiv (FP.i2f (nI (acc + (List.range' k d).countP fun q => decide (0 < cnt g.n (covG g q))))) (1111490560 : UInt32)) w := by
  have h6 := r.2.2.2.1
  intro d
  induction d with
  | zero =>
    intro k n acc hk hn ha
    obtain ⟨n, rfl⟩ : ∃ m, n = m + 1 := ⟨n - 1, by omega⟩
    simp only [f_X7_coveredShare_L9]
    rw [if_pos (show (48 : Int32) ≤ nI k from nI_le (a := 48) (by omega) (by omega)), if_pos (fp_f acc (by omega)).1]
    rfl
  | succ d ih =>
    intro k n acc hk hn ha
    obtain ⟨n, rfl⟩ : ∃ m, n = m + 1 := ⟨n - 1, by omega⟩
    have e1 := X7_top h r (show k < 48 by omega)
    simp only [f_X7_coveredShare_L9, h.o, if_true, e1, x_br, top_none g.n h6, Int32.add_zero]
    rw [if_neg (show ¬ (48 : Int32) ≤ nI k from nI_ge (b := 48) (by omega) (by omega)), ← nI_succ k, List.range'_succ]
    by_cases hc : cnt g.n (covG g k) = 0
    · rw [if_pos hc, ih _ _ _ (by omega) (by omega) (by omega), List.countP_cons_of_neg (by simp [hc])]
    · rw [if_neg hc, ← nI_succ, ih _ _ _ (by omega) (by omega) (by omega), List.countP_cons_of_pos (by simp; omega), show acc + 1 + (List.range' (k + 1) d).countP (fun q => decide (0 < cnt g.n (covG g q))) = acc + ((List.range' (k + 1) d).countP (fun q => decide (0 < cnt g.n (covG g q))) + 1) by omega]
def JC (K : xW → xO Int32) (x1 x2 : Nat) (w0 : xW) : xO Int32 := if x_isO w0 x1 6 = true then (x_bind (f_X6_coveredShare x1 w0) fun r516 w515 => if x_n64 (FP.f2d r516) = true then (if x_isO w515 x2 7 = true then (x_bind (f_X7_coveredShare x2 w515) fun r520 w519 => if x_n64 (FP.f2d r520) = true then ((if (Op.cmpValue (FP.dcmp (FP.f2d r516) (FP.f2d r520)) .l) = 0 then (K w519) else ((if (Op.cmpValue (FP.dcmp (FP.f2d r516) (FP.f2d r516)) .l) = 0 then (x_ret 0 w519) else ((if (Op.cmpValue (FP.dcmp (FP.f2d r520) (FP.f2d r520)) .l) = 0 then (x_ret 0 w519) else (K w519))))))) else none) else none) else none) else none
theorem J_cov (C : Cls w z γ) (M : MoAt w (z + 168) F ar) (O : OuL w (z + 179) v) (R : Rel γ F ar) (K : xW → xO Int32) : ∃ w', JC K z (z + 168) w = K w' ∧ Inv z w' := by
  generalize hN : cnt 48 (fun c => decide (0 < cnt γ.g.n (covG γ.g c))) = N
  have hle : N ≤ 48 := by rw [← hN]; exact cnt_le _ _
  obtain ⟨p1, p2, p3⟩ := fp_f N (by omega)
  have a1 : f_X6_coveredShare z w = x_ret (FP.fdiv (FP.i2f (nI N)) (1111490560 : UInt32)) w := by
    simp only [f_X6_coveredShare, C.r0, ob, oe, C.L.o, if_true, X4_countCoveredCells C.L, hN, x_br]
    rw [if_pos p1]
  have h1 := M.sF (upd F 0 0)
  have e2 := X7_cvs_L h1 (g := γ.g) R.1 48 0 xfuel 0 (by omega) (by unfold xfuel; omega) (by omega)
  rw [Nat.zero_add, cntR, hN, nI_0] at e2
  have a2 : f_X7_coveredShare (z + 168) w = x_ret (FP.fdiv (FP.i2f (nI N)) (1111490560 : UInt32)) (wz w (z + 168) F 0) := by
    simp only [f_X7_coveredShare, M.p0, ob]
    exact e2
  refine ⟨wz w (z + 168) F 0, ?_, Inv_rd C O R C Fr.rf (wF_fr _) h1⟩
  unfold JC
  rw [if_pos C.o, a1, x_br, if_pos p2, if_pos M.o, a2, x_br, if_pos p2, if_pos p3]
end RH
