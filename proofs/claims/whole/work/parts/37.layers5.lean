/-! ===== the stack of layers: painting, erasing, shadows ===== -/
section X4e
theorem LsAt.conv {w : xW} {b : Nat} {g g' : WL} (h : LsAt w b g) (e : g = g') : LsAt w b g' := e ▸ h
variable {w : xW} {b : Nat} {g : WL}
theorem rowF_ok {l n y : Nat} {x : Int32} (hx : okT x) (u : Nat → Int32) (hu : ∀ c, c < 48 → okT (u c)) : ∀ c, c < 48 → okT (rowF l n y x u c) := foldl_ok (fun _ _ h => upd_ok h hx) _ u hu
theorem rectF_ok {l n up m : Nat} {x : Int32} (hx : okT x) (u : Nat → Int32) (hu : ∀ c, c < 48 → okT (u c)) : ∀ c, c < 48 → okT (rectF l n up m x u c) := foldl_ok (fun u _ h => rowF_ok hx u h) _ u hu
/-- the sum first, then the slot -/
theorem LsAt.slotH (h : LsAt w b g) {n : Nat} (hn : n ≤ 6) {ps es : Int32} {j : Nat} (hj : j < 6) {x y : Int32} (hx : x_nar 1 x = x) (hy : x_nar 2 y = y) {u : Nat → Int32} (hu : ∀ c, c < 48 → okT (u c)) {w' : xW} (hl : LyAt w' (b + 2 + 2 * j) x y u) (hf : Fr (fun q => q = b + 2 + 2 * j ∨ q = b + 2 + 2 * j + 1) (xset w b (.inr (4, [.ref (b + 1), .int (nI n), .int ps, .int es]))) w') :
    LsAt w' b ((g.num n ps es).put j x y u) ∧ Fr (blk b) w w' :=
  ⟨(h.head hn ps es).slot hj hx hy hu hl hf, (Fr.set (show blk b b from ⟨Nat.le_refl _, by omega⟩)).tr (hf.mono (slot_blk hj))⟩
theorem X4_paintRectangle (h : LsAt w b g) (p l u r lo x : Int32) : Run b w (f_X4_paintRectangle b p l u r lo x w) (paintG g p l u r lo x) := by
  have h6 := h.n6
  rcases posG_or g h6 p with ⟨i, hi, rfl, hp⟩ | ⟨hq, hp⟩
  · have hs := h.2.2.2.1 i (by omega)
    have hc := h.2.2.2.2.2.1 _ hs
    simp only [f_X4_paintRectangle, h.o, if_true, X4_at h hi, x_br, oe, X6_isCell, X6_isTone]
    by_cases c1 : isC l u = true
    · rw [if_pos c1, if_neg (by decide)]
      by_cases c2 : isC r lo = true
      · rw [if_pos c2, if_neg (by decide)]
        by_cases c3 : r < l
        · rw [if_pos c3, show paintG g (nI i) l u r lo x = (-3, g) by simp [paintG, hp, c1, c2, c3]]
          exact Run.stay h _
        · rw [if_neg c3]
          by_cases c4 : lo < u
          · rw [if_pos c4, show paintG g (nI i) l u r lo x = (-3, g) by simp [paintG, hp, c1, c2, c4]]
            exact Run.stay h _
          · rw [if_neg c4]
            by_cases c5 : isT x = true
            · rw [if_pos c5, if_neg (by decide)]
              rw [show paintG g (nI i) l u r lo x = (nI (tonesG (rectT l u r lo x (g.t i))) - nI (tonesG (g.t i)), (g.num g.n (g.ps + ((r - l) + 1) * ((lo - u) + 1)) g.es).put (g.sg i) (g.m i) (g.v i) (rectT l u r lo x (g.t i))) by simp [paintG, hp, c1, c2, c3, c4, c5]]
              obtain ⟨a1, a2, k1, k2, rfl, rfl⟩ := isC_of c1
              obtain ⟨a3, a4, k3, k4, rfl, rfl⟩ := isC_of c2
              have h13 : a1 ≤ a3 := Nat.le_of_not_lt (fun hc => c3 (nI_lt hc (by omega)))
              have h24 : a2 ≤ a4 := Nat.le_of_not_lt (fun hc => c4 (nI_lt hc (by omega)))
              have h1 := h.head h6 (g.ps + ((nI a3 - nI a1) + 1) * ((nI a4 - nI a2) + 1)) g.es
              have hl : LyAt (xset w b (.inr (4, [.ref (b + 1), .int (nI g.n), .int (g.ps + ((nI a3 - nI a1) + 1) * ((nI a4 - nI a2) + 1)), .int g.es]))) (b + 2 + 2 * g.sg i) (g.m i) (g.v i) (g.t i) := h1.ly (i := i) (by omega)
              have e1 : rectT (nI a1) (nI a2) (nI a3) (nI a4) x (g.t i) = rectF a1 (a3 + 1 - a1) a2 (a4 + 1 - a2) x (g.t i) := by
                unfold rectT
                rw [nI_clamp (by omega), nI_clamp (by omega), nI_clamp (by omega), nI_clamp (by omega)]
              obtain ⟨q1, q2⟩ := h.slotH h6 hs hc.1 hc.2 (rectF_ok (isT_ok c5) _ (fun c hc9 => h.2.2.2.2.2.2 _ c hs hc9)) (hl.wT (rectF a1 (a3 + 1 - a1) a2 (a4 + 1 - a2) x (g.t i))) (Fr.wT _ _ _)
              refine ⟨_, ?_, by rw [e1]; exact q1, q2⟩
              simp only [h.g2, ob, h.p2]
              rw [if_pos hl.o, X3_fillRectangle hl h13 k3 h24 k4, e1]
              rfl
            · rw [if_neg c5, if_pos rfl, show paintG g (nI i) l u r lo x = (-3, g) by simp [paintG, hp, c1, c2, c5]]
              exact Run.stay h _
      · rw [if_neg c2, if_pos rfl, show paintG g (nI i) l u r lo x = (-2, g) by simp [paintG, hp, c2]]
        exact Run.stay h _
    · rw [if_neg c1, if_pos rfl, show paintG g (nI i) l u r lo x = (-2, g) by simp [paintG, hp, c1]]
      exact Run.stay h _
  · simp only [f_X4_paintRectangle, h.o, if_true, X4_at_no h hq, x_br, oen]
    rw [show paintG g p l u r lo x = (-2, g) by simp [paintG, hp]]
    exact Run.stay h _
theorem X4_eraseCircle (h : LsAt w b g) (p x y r : Int32) : Run b w (f_X4_eraseCircle b p x y r w) (eraseG g p x y r) := by
  have h6 := h.n6
  rcases posG_or g h6 p with ⟨i, hi, rfl, hp⟩ | ⟨hq, hp⟩
  · have hs := h.2.2.2.1 i (by omega)
    have hc := h.2.2.2.2.2.1 _ hs
    have hl := h.ly (i := i) (by omega)
    simp only [f_X4_eraseCircle, h.o, if_true, X4_at h hi, x_br, oe, X6_isCell]
    by_cases c1 : isC x y = true
    · rw [if_pos c1, if_neg (by decide)]
      by_cases c2 : r < 0
      · rw [if_pos c2, show eraseG g (nI i) x y r = (-3, g) by simp [eraseG, hp, c1, c2]]
        exact Run.stay h _
      · rw [if_neg c2]
        by_cases c3 : r ≤ 9
        · rw [if_pos c3]
          have ev : eraseG g (nI i) x y r = (nI (tonesG (g.t i)) - nI (tonesG (clrT x y r (g.t i))), (g.num g.n g.ps (g.es + (nI (tonesG (g.t i)) - nI (tonesG (clrT x y r (g.t i)))))).put (g.sg i) (g.m i) (g.v i) (clrT x y r (g.t i))) := by simp [eraseG, hp, c1, c2, c3]
          rw [ev]
          have hu : ∀ c, c < 48 → okT (clrT x y r (g.t i) c) := fun c hc9 => by
            unfold clrT
            split
            · exact okT_neg
            · exact h.2.2.2.2.2.2 _ c hs hc9
          have h1 := h.slot hs hc.1 hc.2 hu (hl.wT (clrT x y r (g.t i))) (Fr.wT _ _ _)
          have h2 := h1.head h6 g.ps (g.es + (nI (tonesG (g.t i)) - nI (tonesG (clrT x y r (g.t i)))))
          refine ⟨_, ?_, h2, ((Fr.wT _ _ _).mono (slot_blk hs)).tr (Fr.set (show blk b b from ⟨Nat.le_refl _, by omega⟩))⟩
          rw [if_pos hl.o, X3_clearCircle hl, x_br]
          have e3 : x_geti (wT w (b + 2 + 2 * g.sg i) (clrT x y r (g.t i))) b 4 3 = some g.es := h1.g3
          have e4 := h1.p3 (v := g.es + (nI (tonesG (g.t i)) - nI (tonesG (clrT x y r (g.t i)))))
          show (x_geti (wT w (b + 2 + 2 * g.sg i) (clrT x y r (g.t i))) b 4 3).bind _ = _
          rw [e3, ob]
          show (x_put (wT w (b + 2 + 2 * g.sg i) (clrT x y r (g.t i))) b 4 3 (.int (g.es + (nI (tonesG (g.t i)) - nI (tonesG (clrT x y r (g.t i))))))).bind _ = _
          rw [e4, ob]
          rfl
        · rw [if_neg c3, show eraseG g (nI i) x y r = (-3, g) by simp [eraseG, hp, c1, c3]]
          exact Run.stay h _
    · rw [if_neg c1, if_pos rfl, show eraseG g (nI i) x y r = (-2, g) by simp [eraseG, hp, c1]]
      exact Run.stay h _
  · simp only [f_X4_eraseCircle, h.o, if_true, X4_at_no h hq, x_br, oen]
    rw [show eraseG g p x y r = (-2, g) by simp [eraseG, hp]]
    exact Run.stay h _
theorem shF_ok {t' : Nat → Int32} {s : Int32} (u : Nat → Int32) (k : Nat) (hu : ∀ c, c < 48 → okT (u c)) : ∀ c, c < 48 → okT (shF t' s u k c) := by
  unfold shF
  split
  · exact upd_ok hu (Or.inr ⟨8, by omega, rfl⟩)
  · exact hu
theorem X4_addShadow (h : LsAt w b g) (p hr : Int32) : Run b w (f_X4_addShadow b p hr w) (castG g p hr) := by
  have h6 := h.n6
  rcases posG_or g h6 p with ⟨i, hi, rfl, hp⟩ | ⟨hq, hp⟩
  · simp only [f_X4_addShadow, h.o, if_true, X4_at h hi, x_br, oe]
    by_cases c1 : hr < 6
    · rw [if_pos c1, show castG g (nI i) hr = (-3, g) by simp [castG, hp, c1]]
      exact Run.stay h _
    · rw [if_neg c1]
      by_cases c2 : hr ≤ 18
      · rw [if_pos c2]
        by_cases hn : g.n < 6
        · obtain ⟨w1, e1, h1, hf1⟩ := X4_beginLayer h (x := 109) (by decide) hn
          have hs := h.2.2.2.1 g.n hn
          have hsi := h.2.2.2.1 i (by omega)
          have hne : g.sg i ≠ g.sg g.n := fun hc => by
            have := h.2.2.2.2.1 i g.n (by omega) hn hc
            omega
          have hb : LyAt w1 (b + 2 + 2 * g.sg g.n) 109 1 (fun c => if c < 48 then -1 else g.t g.n c) := by
            have := h1.2.1 _ hs
            simpa [WL.put, WL.md, WL.vi, WL.to, WL.mk] using this
          have hl : LyAt w1 (b + 2 + 2 * g.sg i) (g.m i) (g.v i) (g.t i) := by
            have := h1.2.1 _ hsi
            simpa [WL.put, WL.num, WL.md, WL.vi, WL.to, WL.mk, hne, WL.m, WL.v, WL.t] using this
          generalize hF : fo 48 (shF (g.t i) (hr - 12)) (fun c => if c < 48 then -1 else g.t g.n c) = F
          have hu : ∀ c, c < 48 → okT (F c) := by
            rw [← hF]
            unfold fo
            exact foldl_ok (fun u k hu => shF_ok u k hu) _ _ (fun c hc => by rw [if_pos hc]; exact okT_neg)
          have hb2 := hb.wT F
          have h2 := h1.slot hs (by decide) (by decide) hu hb2 (Fr.wT _ _ _)
          have h3 := h2.head (n := g.n + 1) (by omega) (g.ps + nI (tonesG F)) g.es
          have ev : castG g (nI i) hr = (nI (tonesG F), (g.num (g.n + 1) (g.ps + nI (tonesG F)) g.es).put (g.sg g.n) 109 1 F) := by simp [castG, hp, c1, c2, hn, hF]
          rw [ev]
          refine ⟨xset (wT w1 (b + 2 + 2 * g.sg g.n) F) b (.inr (4, [.ref (b + 1), .int (nI (g.n + 1)), .int (g.ps + nI (tonesG F)), .int g.es])), ?_, ?_, (hf1.tr ((Fr.wT _ _ F).mono (slot_blk hs))).tr (Fr.set (show blk b b from ⟨Nat.le_refl _, by omega⟩))⟩
          · rw [e1, x_br, oe, if_pos hb.o, X3_takeShadowOf hb hl (by omega) (by omega), hF, x_br, if_pos hb2.o, X3_countTones hb2, x_br]
            have e3 : x_geti (wT w1 (b + 2 + 2 * g.sg g.n) F) b 4 2 = some g.ps := h2.g2
            have e4 := h2.p2 (v := g.ps + nI (tonesG F))
            rw [e3, ob]
            show (x_put (wT w1 (b + 2 + 2 * g.sg g.n) F) b 4 2 (.int (g.ps + nI (tonesG F)))).bind _ = _
            rw [e4, ob]
            rfl
          · refine h3.conv ?_
            simp only [WL.put, WL.num, WL.mk, WL.n, WL.ps, WL.es, WL.sg, WL.md, WL.vi, WL.to]
            refine congrArg _ (congrArg _ (congrArg _ (congrArg _ (Prod.ext ?_ (Prod.ext ?_ ?_)))))
            · funext k; by_cases hk : k = g.2.2.2.1 g.1 <;> simp [hk]
            · funext k; by_cases hk : k = g.2.2.2.1 g.1 <;> simp [hk]
            · funext k; by_cases hk : k = g.2.2.2.1 g.1 <;> simp [hk]
        · rw [X4_begin_no h _ hn, x_br, oen, show castG g (nI i) hr = (-4, g) by simp [castG, hp, c1, c2, hn]]
          exact Run.stay h _
      · rw [if_neg c2, show castG g (nI i) hr = (-3, g) by simp [castG, hp, c2]]
        exact Run.stay h _
  · simp only [f_X4_addShadow, h.o, if_true, X4_at_no h hq, x_br, oen]
    rw [show castG g p hr = (-2, g) by simp [castG, hp]]
    exact Run.stay h _
end X4e
