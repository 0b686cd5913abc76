/-! ===== the model drops as the class takes away ===== -/
section X7j
variable {w : xW} {c : Nat} {F : Nat → Int32} {ar : Nat → Nat → Int32} {g : WL}
def cdD (v : Int32) : Int32 := if v = -2 then 1 else 0
theorem cdD_nI {k : Nat} (hk : k < 2 ^ 31) : cdD (nI k) = 0 := by
  unfold cdD
  rw [if_neg (nI_nneg hk (by decide))]
theorem X7_drops (h : MoAt w c F ar) (r : RelS g (ar 1)) (p : Int32) : MRun cdD c w F ar (f_X7_drops c p w) (dropG g p) := by
  have h6 := r.2.2.2.1
  simp only [f_X7_drops, h.o, if_true, X7_isLayer h r.1 h6, x_br, isLayer_if]
  rcases posG_or g h6 p with ⟨i, hi, rfl, hp⟩ | ⟨hq, hp⟩
  · rw [if_neg (fun hc : nI i < 0 ∨ nI g.n ≤ nI i => hc.elim (nI_pos (by omega)) (nI_ge hi (by omega))), if_neg (by decide)]
    obtain ⟨u, e1, r1⟩ := X7_takes h r hi
    have h1 := h.sA 1 (by omega) (by omega) u
    have e2 : x_ild (wA w c 1 u) (c + 1) 0 0 = some (nI (g.n - 1)) := by
      rw [show nI (g.n - 1) = u 0 from r1.1.symm]
      exact X7_n h1
    obtain ⟨w3, e4, h3, f3⟩ := X7_done h1 (nI (g.n - 1))
    have ev : dropG g (nI i) = (nI (g.n - 1), tkG g i) := by simp [dropG, hp]
    rw [ev]
    refine ⟨w3, upd F 17 (nI (g.n - 1)), _, ?_, h3, (wA_fr (by omega) _).tr f3, fun k hk => by unfold upd; rw [if_neg hk], fun k hk _ _ => by rw [if_neg hk], r1, fun _ => by unfold upd; rw [if_pos rfl]⟩
    rw [e1, x_br, h1.r1, ob, oe, e2, ob, if_pos h1.o, e4, x_br]
    show x_ret 0 w3 = x_ret (cdD (nI (g.n - 1))) w3
    rw [cdD_nI (by omega)]
  · rw [if_pos hq, if_pos rfl, show dropG g p = (-2, g) by simp [dropG, hp]]
    exact MRun.stay h r (by decide) (by decide)
end X7j
