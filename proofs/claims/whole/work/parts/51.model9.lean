/-! ===== the model erases as the class does ===== -/
section X7h
variable {w : xW} {c : Nat} {F : Nat → Int32} {ar : Nat → Nat → Int32} {g : WL}
theorem X7_erases (h : MoAt w c F ar) (r : RelS g (ar 1)) (hs : ∀ i j, i < 6 → j < 6 → g.sg i = g.sg j → i = j) (p x y rr : Int32) : MRun cdP c w F ar (f_X7_erases c p x y rr w) (eraseG g p x y rr) := by
  have h6 := r.2.2.2.1
  simp only [f_X7_erases, h.o, if_true, X7_isLayer h r.1 h6, X7_isCell, X7_in, x_br, isLayer_if]
  rcases posG_or g h6 p with ⟨i, hi, rfl, hp⟩ | ⟨hq, hp⟩
  · rw [if_neg (fun hc : nI i < 0 ∨ nI g.n ≤ nI i => hc.elim (nI_pos (by omega)) (nI_ge hi (by omega))), if_neg (by decide)]
    by_cases c1 : isC x y = true
    · rw [if_pos c1, if_neg (by decide)]
      by_cases c2 : ¬ rr < 0 ∧ ¬ 9 < rr
      · rw [if_pos c2, if_neg (by decide)]
        have c3 : rr ≤ 9 := Int32.not_lt.mp c2.2
        obtain ⟨b1, b2, b3, b4⟩ := r.2.2.2.2 i hi
        generalize hN : cnt 48 (fun q => inCi x y rr q && !(g.t i q == -1)) = N
        have hN48 : N ≤ 48 := by rw [← hN]; exact cnt_le _ _
        have hcn : cnt 48 (fun q => inCi x y rr q && !(st (ar 1) i q == 0)) = N := by
          rw [← hN]
          exact cnt_congr (fun k hk => by rw [(b4 k hk).1, okT_st (b4 k hk).2])
        have hv : nI (tonesG (g.t i)) - nI (tonesG (clrT x y rr (g.t i))) = nI N := by
          rw [← hN]
          exact nI_subc (clr_count _ _ _ _)
        have ev : eraseG g (nI i) x y rr = (nI N, (g.num g.n g.ps (g.es + nI N)).put (g.sg i) (g.m i) (g.v i) (clrT x y rr (g.t i))) := by
          simp [eraseG, hp, c1, c2.1, c3, hv]
        rw [ev]
        have h1 := X7_era_L h (l := i) (by omega) x y rr 48 0 xfuel 0 (ar 1) (by omega) (by unfold xfuel; omega) (fun _ _ _ => rfl)
        rw [wA_self h (by omega) (by omega), fo_R, fo_clr, Nat.zero_add, cntR, hcn, nI_0] at h1
        generalize hS : (fun j => if 3 + 50 * i + 2 ≤ j ∧ j < 3 + 50 * i + 2 + 48 ∧ inCi x y rr (j - (3 + 50 * i + 2)) = true then 0 else ar 1 j) = S1 at h1
        have hSv : ∀ j, S1 j = if 3 + 50 * i + 2 ≤ j ∧ j < 3 + 50 * i + 2 + 48 ∧ inCi x y rr (j - (3 + 50 * i + 2)) = true then 0 else ar 1 j := fun j => by rw [← hS]
        have h2 := h.sA 1 (by omega) (by omega) S1
        have s2 : S1 2 = g.es := by rw [hSv, if_neg (by omega)]; exact r.2.2.1
        have e2 : x_ild (wA w c 1 S1) (c + 1) 0 2 = some g.es := by
          rw [← s2]
          exact h2.ld 1 (by omega) (by omega) (i := 2) (by show 2 < 303; omega)
        have e3 : x_ist (wA w c 1 S1) (c + 1) 0 2 (g.es + nI N) = some (wA (wA w c 1 S1) c 1 (upd S1 2 (g.es + nI N))) := h2.st 1 (by omega) (by omega) (i := 2) (by show 2 < 303; omega) _
        have h3 := h.sA 1 (by omega) (by omega) (upd S1 2 (g.es + nI N))
        obtain ⟨w4, e4, h4, f4⟩ := X7_done h3 (nI N)
        have hu : ∀ k, k ≠ 2 → upd S1 2 (g.es + nI N) k = S1 k := fun k hk => by unfold upd; rw [if_neg hk]
        refine ⟨w4, upd F 17 (nI N), _, ?_, h4, (wA_fr (by omega) _).tr f4, fun k hk => by unfold upd; rw [if_neg hk], fun k hk _ _ => by rw [if_neg hk], ?_, fun _ => by unfold upd; rw [if_pos rfl]⟩
        · refine h1.trans ?_
          unfold eraE
          rw [h2.r1, ob, oe, e2, ob, e3, ob, wA_wA, if_pos h3.o, e4, x_br]
          show x_ret 0 w4 = x_ret (cdP (nI N)) w4
          rw [cdP_nI (by omega)]
        · refine put_rel r hs hi ?_ ?_ ?_ (fun l hl => ?_) (fun l hl hli k hk => ?_) (fun k hk => ?_)
          · show upd S1 2 (g.es + nI N) 0 = ar 1 0
            rw [hu 0 (by omega), hSv, if_neg (by omega)]
          · show upd S1 2 (g.es + nI N) 1 = g.ps
            rw [hu 1 (by omega), hSv, if_neg (by omega)]
            exact r.2.1
          · show upd S1 2 (g.es + nI N) 2 = g.es + nI N
            unfold upd
            rw [if_pos rfl]
          · constructor
            · show upd S1 2 (g.es + nI N) (3 + 50 * l) = ar 1 (3 + 50 * l)
              rw [hu _ (by omega), hSv, if_neg (by omega)]
            · show upd S1 2 (g.es + nI N) (3 + 50 * l + 1) = ar 1 (3 + 50 * l + 1)
              rw [hu _ (by omega), hSv, if_neg (by omega)]
          · show upd S1 2 (g.es + nI N) (3 + 50 * l + 2 + k) = ar 1 (3 + 50 * l + 2 + k)
            rw [hu _ (by omega), hSv, if_neg (by omega)]
          · show upd S1 2 (g.es + nI N) (3 + 50 * i + 2 + k) = clrT x y rr (g.t i) k + 1 ∧ okT (clrT x y rr (g.t i) k)
            rw [hu _ (by omega), hSv, Nat.add_sub_cancel_left]
            unfold clrT
            by_cases hik : inCi x y rr k = true
            · rw [if_pos ⟨by omega, by omega, hik⟩, if_pos ⟨hk, hik⟩]
              exact ⟨by decide, okT_neg⟩
            · rw [if_neg (fun hc => hik hc.2.2), if_neg (fun hc => hik hc.2)]
              exact b4 k hk
      · rw [if_neg c2, if_pos rfl]
        have ev : eraseG g (nI i) x y rr = (-3, g) := by
          by_cases c3 : rr < 0
          · simp [eraseG, hp, c1, c3]
          · have c4 : ¬ rr ≤ 9 := fun hc => c2 ⟨c3, Int32.not_lt.mpr hc⟩
            simp [eraseG, hp, c1, c4]
        rw [ev]
        exact MRun.stay h r (by decide) (by decide)
    · rw [if_neg c1, if_pos rfl, show eraseG g (nI i) x y rr = (-2, g) by simp [eraseG, hp, c1]]
      exact MRun.stay h r (by decide) (by decide)
  · rw [if_pos hq, if_pos rfl, show eraseG g p x y rr = (-2, g) by simp [eraseG, hp]]
    exact MRun.stay h r (by decide) (by decide)
end X7h
