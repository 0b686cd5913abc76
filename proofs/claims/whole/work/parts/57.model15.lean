/-! ===== the model merges as the class does ===== -/
section X7o
variable {w : xW} {c : Nat} {F : Nat → Int32} {ar : Nat → Nat → Int32} {g : WL}
def cdM (v : Int32) : Int32 := if v = -2 then 1 else if v = -5 then 2 else if v = -6 then 3 else 0
theorem cdM_nI {k : Nat} (hk : k < 2 ^ 31) : cdM (nI k) = 0 := by
  unfold cdM
  rw [if_neg (nI_nneg hk (by decide)), if_neg (nI_nneg hk (by decide)), if_neg (nI_nneg hk (by decide))]
theorem X7_merges (h : MoAt w c F ar) (r : RelS g (ar 1)) (hs : ∀ i j, i < 6 → j < 6 → g.sg i = g.sg j → i = j) (p : Int32) : MRun cdM c w F ar (f_X7_merges c p w) (mergeG g p) := by
  have h6 := r.2.2.2.1
  simp only [f_X7_merges, h.o, if_true, X7_isLayer h r.1 h6, x_br, isLayer_if]
  rcases posG_or g h6 p with ⟨i, hi, rfl, hp⟩ | ⟨hq, hp⟩
  · rw [if_neg (fun hc : nI i < 0 ∨ nI g.n ≤ nI i => hc.elim (nI_pos (by omega)) (nI_ge hi (by omega))), if_neg (by decide)]
    cases i with
    | zero =>
      rw [if_pos (show nI 0 = (0 : Int32) from nI_0), show mergeG g (nI 0) = (-5, g) by simp [mergeG, hp]]
      exact MRun.stay h r (by decide) (by decide)
    | succ l =>
      obtain ⟨a1, a2, a3, a4⟩ := r.2.2.2.2 (l + 1) hi
      obtain ⟨b1, b2, b3, b4⟩ := r.2.2.2.2 l (by omega)
      rw [if_neg (nI_ne0 (by omega) (by omega)), nI_pred]
      simp only [X7_mode0 h (show l + 1 < 6 by omega), X7_mode0 h (show l < 6 by omega), X7_shown h (show l + 1 < 6 by omega), X7_shown h (show l < 6 by omega), x_br, h.o, if_true, shown_if r hi, shown_if r (show l < g.n by omega), a1, b1]
      have bad : ¬ (canG g (l + 1) ∧ canG g l) → MRun cdM c w F ar (x_ret 3 w) (mergeG g (nI (l + 1))) := fun hb => by
        rw [show mergeG g (nI (l + 1)) = (-6, g) by simp only [mergeG, hp]; rw [if_neg hb]]
        exact MRun.stay h r (by decide) (by decide)
      by_cases c1 : g.m (l + 1) = 110
      · rw [if_pos c1]
        by_cases c2 : g.m l = 110
        · rw [if_pos c2]
          by_cases c3 : g.v (l + 1) = 0
          · rw [if_pos c3, if_pos rfl]
            exact bad (fun hc => hc.1.2 c3)
          · rw [if_neg c3, if_neg (by decide)]
            by_cases c4 : g.v l = 0
            · rw [if_pos c4, if_pos rfl]
              exact bad (fun hc => hc.2.2 c4)
            · rw [if_neg c4, if_neg (by decide)]
              have ev : mergeG g (nI (l + 1)) = (nI (tonesG (covT (g.t (l + 1)) (g.t l))), mrgW g l) := by
                simp only [mergeG, hp]
                rw [if_pos ⟨⟨c1, c3⟩, ⟨c2, c4⟩⟩]
              have h0 := X7_mrg_L h (l := l) (by omega) 48 0 xfuel (by omega) (by unfold xfuel; omega)
              have hz : mrgS (ar 1) l 0 = ar 1 := by
                funext j
                unfold mrgS
                rw [if_neg (by omega)]
              rw [hz, wA_self h (by omega) (by omega), nI_0] at h0
              have h1 := h.sA 1 (by omega) (by omega) (mrgS (ar 1) l 48)
              have r1 := mrg_rel r hs hi
              obtain ⟨u, e2, r2⟩ := X7_takes h1 (g := g.put (g.sg l) (g.m l) (g.v l) (covT (g.t (l + 1)) (g.t l))) r1 (l := l + 1) hi
              have h2 : MoAt (wA w c 1 u) c F (fun j => if j = 1 then u else ar j) := h.sA 1 (by omega) (by omega) u
              have r2' : RelS (mrgW g l) u := r2
              have e3 := X7_full h2 (g := mrgW g l) r2' (l := l) (show l < g.n - 1 by omega)
              have et : tonG (mrgW g l) l = tonesG (covT (g.t (l + 1)) (g.t l)) := by
                have em : mvI (l + 1) (g.n - 1) l = l := by unfold mvI; rw [if_neg (by omega), if_neg (by omega), if_neg (by omega)]
                show cnt 48 (fun q => (if g.sg (mvI (l + 1) (g.n - 1) l) = g.sg l then covT (g.t (l + 1)) (g.t l) else g.to (g.sg (mvI (l + 1) (g.n - 1) l))) q != -1) = _
                rw [em, if_pos rfl]
                rfl
              obtain ⟨w4, e4, h4, f4⟩ := X7_done h2 (nI (tonesG (covT (g.t (l + 1)) (g.t l))))
              have hq : tonesG (covT (g.t (l + 1)) (g.t l)) ≤ 48 := cnt_le _ _
              rw [ev]
              refine ⟨w4, upd F 17 _, _, ?_, h4, (wA_fr (by omega) _).tr f4, fun k hk => by unfold upd; rw [if_neg hk], fun k hk _ _ => by rw [if_neg hk], r2', fun _ => by unfold upd; rw [if_pos rfl]⟩
              refine h0.trans ?_
              unfold mrgE
              rw [if_pos h1.o, e2, x_br, wA_wA, if_pos h2.o, nI_pred, e3, x_br, if_pos h2.o, et, e4, x_br]
              show x_ret 0 w4 = x_ret (cdM (nI (tonesG (covT (g.t (l + 1)) (g.t l))))) w4
              rw [cdM_nI (by omega)]
        · rw [if_neg c2]
          exact bad (fun hc => c2 hc.2.1)
      · rw [if_neg c1]
        exact bad (fun hc => c1 hc.1.1)
  · rw [if_pos hq, if_pos rfl, show mergeG g p = (-2, g) by simp [mergeG, hp]]
    exact MRun.stay h r (by decide) (by decide)
end X7o
