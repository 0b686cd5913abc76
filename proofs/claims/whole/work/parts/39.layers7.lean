/-! ===== the stack of layers: merging, copying, making ===== -/
def covT (t' t : Nat → Int32) : Nat → Int32 := fun c => if c < 48 ∧ (t' c != -1) = true then t' c else t c
abbrev canG (g : WL) (i : Nat) : Prop := g.m i = 110 ∧ ¬ g.v i = 0
def mrgW (g : WL) (k : Nat) : WL := tkG (g.put (g.sg k) (g.m k) (g.v k) (covT (g.t (k + 1)) (g.t k))) (k + 1)
def mergeG (g : WL) (p : Int32) : Int32 × WL := match posG g p with
  | none => (-2, g)
  | some 0 => (-5, g)
  | some (k + 1) => if canG g (k + 1) ∧ canG g k then (nI (tonesG (covT (g.t (k + 1)) (g.t k))), mrgW g k) else (-6, g)
section X4g
variable {w : xW} {b : Nat} {g : WL}
theorem X4_merge (h : LsAt w b g) (p : Int32) : Run b w (f_X4_mergeWithLower b p w) (mergeG g p) := by
  have h6 := h.n6
  rcases posG_or g h6 p with ⟨i, hi, rfl, hp⟩ | ⟨hq, hp⟩
  · cases i with
    | zero =>
      rw [show mergeG g (nI 0) = (-5, g) by simp [mergeG, hp]]
      simp only [f_X4_mergeWithLower, h.o, if_true, X4_at h hi, x_br, oe]
      rw [X4_at_no h (x := nI 0 - 1) (Or.inl (by decide)), x_br, oen]
      exact Run.stay h _
    | succ k =>
      have hl := h.ly (i := k + 1) (by omega)
      have hd := h.ly (i := k) (by omega)
      have hs := h.2.2.2.1 k (by omega)
      have hsu := h.2.2.2.1 (k + 1) (by omega)
      have hne : g.sg (k + 1) ≠ g.sg k := fun hc => by
        have := h.2.2.2.2.1 _ _ (by omega) (by omega) hc
        omega
      have hc := h.2.2.2.2.2.1 _ hs
      simp only [f_X4_mergeWithLower, h.o, if_true, X4_at h hi, x_br, oe]
      rw [nI_pred, X4_at h (show k < g.n by omega), x_br, oe, if_pos hl.o, X3_canBeMerged hl, x_br]
      by_cases c1 : canG g (k + 1)
      · rw [if_pos (show g.m (k + 1) = 110 ∧ ¬ g.v (k + 1) = 0 from c1), if_neg (by decide), if_pos hd.o, X3_canBeMerged hd, x_br]
        by_cases c2 : canG g k
        · rw [if_pos (show g.m k = 110 ∧ ¬ g.v k = 0 from c2), if_neg (by decide), if_pos hd.o, X3_coverWith hd hl (by omega) (by omega), x_br]
          rw [show mergeG g (nI (k + 1)) = (nI (tonesG (covT (g.t (k + 1)) (g.t k))), mrgW g k) by simp [mergeG, hp, c1, c2]]
          have hu : ∀ c, c < 48 → okT (covT (g.t (k + 1)) (g.t k) c) := fun c hc9 => by
            unfold covT
            split
            · exact h.2.2.2.2.2.2 _ c hsu hc9
            · exact h.2.2.2.2.2.2 _ c hs hc9
          have h1 : LsAt _ b (g.put (g.sg k) (g.m k) (g.v k) (covT (g.t (k + 1)) (g.t k))) := h.slot hs hc.1 hc.2 hu (hd.wT (covT (g.t (k + 1)) (g.t k))) (Fr.wT _ _ _)
          obtain ⟨w2, e2, h2, hf2⟩ := X4_takeAway h1 (nI (k + 1))
          have hp2 : dropG (g.put (g.sg k) (g.m k) (g.v k) (covT (g.t (k + 1)) (g.t k))) (nI (k + 1)) = (nI (g.n - 1), mrgW g k) := by
            unfold dropG
            rw [show posG (g.put (g.sg k) (g.m k) (g.v k) (covT (g.t (k + 1)) (g.t k))) (nI (k + 1)) = some (k + 1) from hp]
            rfl
          rw [hp2] at e2 h2
          have h3 : LyAt w2 (b + 2 + 2 * g.sg k) (g.m k) (g.v k) (covT (g.t (k + 1)) (g.t k)) := by
            have := h2.2.1 _ hs
            simpa [mrgW, tkG, movG, WL.ord, WL.num, WL.put, WL.md, WL.vi, WL.to, WL.mk] using this
          refine ⟨w2, ?_, h2, ((Fr.wT _ _ _).mono (slot_blk hs)).tr hf2⟩
          have ho : x_isO (wT w (b + 2 + 2 * g.sg k) (covT (g.t (k + 1)) (g.t k))) b 4 = true := h1.o
          show (if x_isO (wT w (b + 2 + 2 * g.sg k) (covT (g.t (k + 1)) (g.t k))) b 4 = true then x_bind (f_X4_takeAway b (nI (k + 1)) (wT w (b + 2 + 2 * g.sg k) (covT (g.t (k + 1)) (g.t k)))) _ else none) = _
          rw [if_pos ho, e2, x_br, if_pos h3.o, X3_countTones h3]
          rfl
        · rw [if_neg (show ¬ (g.m k = 110 ∧ ¬ g.v k = 0) from c2), if_pos rfl, show mergeG g (nI (k + 1)) = (-6, g) by simp [mergeG, hp, c2]]
          exact Run.stay h _
      · rw [if_neg (show ¬ (g.m (k + 1) = 110 ∧ ¬ g.v (k + 1) = 0) from c1), if_pos rfl, show mergeG g (nI (k + 1)) = (-6, g) by simp [mergeG, hp, c1]]
        exact Run.stay h _
  · simp only [f_X4_mergeWithLower, h.o, if_true, X4_at_no h hq, x_br, oen]
    rw [show mergeG g p = (-2, g) by simp [mergeG, hp]]
    exact Run.stay h _
/-- the same walls: what is not in use may differ -/
def EqW (g g' : WL) : Prop := g.n = g'.n ∧ g.ps = g'.ps ∧ g.es = g'.es ∧ ∀ i, i < g.n → g.m i = g'.m i ∧ g.v i = g'.v i ∧ ∀ c, c < 48 → g.t i c = g'.t i c
theorem EqW.rf (g : WL) : EqW g g := ⟨rfl, rfl, rfl, fun _ _ => ⟨rfl, rfl, fun _ _ => rfl⟩⟩
theorem EqW.sy {g g' : WL} (h : EqW g g') : EqW g' g := ⟨h.1.symm, h.2.1.symm, h.2.2.1.symm, fun i hi => by
  obtain ⟨a, b, c⟩ := h.2.2.2 i (by rw [h.1]; exact hi)
  exact ⟨a.symm, b.symm, fun q hq => (c q hq).symm⟩⟩
theorem EqW.tr {f g g' : WL} (h : EqW f g) (k : EqW g g') : EqW f g' := ⟨h.1.trans k.1, h.2.1.trans k.2.1, h.2.2.1.trans k.2.2.1, fun i hi => by
  obtain ⟨a, b, c⟩ := h.2.2.2 i hi
  obtain ⟨a', b', c'⟩ := k.2.2.2 i (by rw [← h.1]; exact hi)
  exact ⟨a.trans a', b.trans b', fun q hq => (c q hq).trans (c' q hq)⟩⟩
/-- blocks that stand apart -/
def apart (b b' : Nat) : Prop := b + 14 ≤ b' ∨ b' + 14 ≤ b
theorem LsAt.fr {w' : xW} (h : LsAt w b g) {A : Nat → Prop} (hf : Fr A w w') (hA : ∀ q, blk b q → ¬ A q) : LsAt w' b g := by
  obtain ⟨⟨f, h1, h2, h3⟩, h4, h5⟩ := h
  exact ⟨⟨f, (hf.2 _ (hA _ ⟨by omega, by omega⟩)).trans h1, (hf.2 _ (hA _ ⟨by omega, by omega⟩)).trans h2, h3⟩, fun j hj => (h4 j hj).fr hf (hA _ ⟨by omega, by omega⟩) (hA _ ⟨by omega, by omega⟩), h5⟩
theorem X4_copy_L {b' : Nat} {g' : WL} (hap : apart b b') : ∀ (d k n : Nat) (w : xW) (g : WL), LsAt w b g → LsAt w b' g' → g.n = g'.n → k + d = g.n → d < n → (∀ i, i < k → g.m i = g'.m i ∧ g.v i = g'.v i ∧ ∀ c, c < 48 → g.t i c = g'.t i c) →
    ∃ (w' : xW) (g'' : WL), f_X4_copyFrom_L26 n b (some b') (nI k) w = x_ret () w' ∧ LsAt w' b g'' ∧ Fr (blk b) w w' ∧ g''.n = g.n ∧ g''.ps = g.ps ∧ g''.es = g.es ∧ ∀ i, i < g.n → g''.m i = g'.m i ∧ g''.v i = g'.v i ∧ ∀ c, c < 48 → g''.t i c = g'.t i c := by
  intro d
  induction d with
  | zero =>
    intro k n w g h h' hnn hk hn hi
    obtain ⟨n, rfl⟩ : ∃ m, n = m + 1 := ⟨n - 1, by omega⟩
    have h6 := h.n6
    refine ⟨w, g, ?_, h, Fr.rf, rfl, rfl, rfl, fun i hi9 => hi i (by omega)⟩
    simp only [f_X4_copyFrom_L26, h.g1, ob]
    rw [if_pos (nI_le (by omega) (by omega))]
  | succ d ih =>
    intro k n w g h h' hnn hk hn hi
    obtain ⟨n, rfl⟩ : ∃ m, n = m + 1 := ⟨n - 1, by omega⟩
    have h6 := h.n6
    have hl := h.ly (i := k) (by omega)
    have hl' := h'.ly (i := k) (by omega)
    have hs := h.2.2.2.1 k (by omega)
    have hs' := h'.2.2.2.1 k (by omega)
    have hc' := h'.2.2.2.2.2.1 _ hs'
    have hx : b + 2 + 2 * g.sg k ≠ b' + 2 + 2 * g'.sg k := by unfold apart at hap; omega
    have hx1 : b + 2 + 2 * g.sg k ≠ b' + 2 + 2 * g'.sg k + 1 := by unfold apart at hap; omega
    have hx2 : b' + 2 + 2 * g'.sg k ≠ b + 2 + 2 * g.sg k + 1 := by unfold apart at hap; omega
    generalize hu : va_cpy (g'.t k) (g.t k) 0 0 48 = u
    have hue : ∀ c, c < 48 → u c = g'.t k c := fun c hc => by
      rw [← hu]
      simp [va_cpy, hc]
    have hfr : Fr (fun q => q = b + 2 + 2 * g.sg k ∨ q = b + 2 + 2 * g.sg k + 1) w (wT (xset w (b + 2 + 2 * g.sg k) (.inr (3, [.int (g'.m k), .int (g'.v k), .ref (b + 2 + 2 * g.sg k + 1)]))) (b + 2 + 2 * g.sg k) u) := (Fr.set (Or.inl rfl)).tr (Fr.wT _ _ _)
    have h1 := h.slot hs hc'.1 hc'.2 (u := u) (fun c hc => by rw [hue c hc]; exact h'.2.2.2.2.2.2 _ c hs' hc) ((hl.s0 (g'.m k) (g'.v k)).wT u) hfr
    have h1' : LsAt _ b' g' := h'.fr hfr (fun q hq ha => by unfold apart at hap; unfold blk at hq; omega)
    obtain ⟨w2, g2, e2, a1, a2, a3, a4, a5, a6⟩ := ih (k + 1) n _ _ h1 h1' hnn (show k + 1 + d = g.n by omega) (by omega) (fun i hi9 => by
      by_cases hik : i = k
      · subst hik
        refine ⟨by simp [WL.m, WL.put, WL.md, WL.sg, WL.mk], by simp [WL.v, WL.put, WL.vi, WL.sg, WL.mk], fun c hc => ?_⟩
        rw [← hue c hc]
        simp [WL.t, WL.put, WL.to, WL.sg, WL.mk]
      · have hne : g.sg i ≠ g.sg k := fun hc => hik (h.2.2.2.2.1 _ _ (by omega) (by omega) hc)
        have h3 := hi i (by omega)
        have hne' : g.2.2.2.1 i ≠ g.2.2.2.1 k := hne
        refine ⟨?_, ?_, fun c hc => ?_⟩
        · rw [← h3.1]; simp [WL.m, WL.put, WL.md, WL.sg, WL.mk, hne']
        · rw [← h3.2.1]; simp [WL.v, WL.put, WL.vi, WL.sg, WL.mk, hne']
        · rw [← h3.2.2 c hc]; simp [WL.t, WL.put, WL.to, WL.sg, WL.mk, hne'])
    refine ⟨w2, g2, ?_, a1, (hfr.mono (slot_blk hs)).tr a2, a3, a4, a5, a6⟩
    simp only [f_X4_copyFrom_L26, h.g1, ob, h.o, h'.o, if_true, X4_at h (show k < g.n by omega), X4_at h' (show k < g'.n by omega), x_br, oe, hl.o]
    rw [if_neg (nI_ge (by omega) (by omega)), ← nI_succ k, X3_copyFrom hl hl' hx hx1 hx2 hc'.1 hc'.2, hu, x_br]
    exact e2
theorem X4_copyFrom {b' : Nat} {g' : WL} (hap : apart b b') (h : LsAt w b g) (h' : LsAt w b' g') : ∃ (w' : xW) (g'' : WL), f_X4_copyFrom b (some b') w = x_ret () w' ∧ LsAt w' b g'' ∧ Fr (blk b) w w' ∧ EqW g'' g' := by
  have h6 := h'.n6
  have bb : blk b b := ⟨Nat.le_refl _, by omega⟩
  have hno : ∀ q, blk b' q → ¬ (q = b) := fun q hq ha => by unfold apart at hap; unfold blk at hq; omega
  have h1 := h.head (n := g'.n) h6 g.ps g.es
  have f1 : Fr (fun q => q = b) w _ := Fr.set (w := w) (e := .inr (4, [.ref (b + 1), .int (nI g'.n), .int g.ps, .int g.es])) rfl
  have k1 := h'.fr f1 hno
  have h2 := h1.head (n := g'.n) h6 g'.ps g.es
  have f2 : Fr (fun q => q = b) _ _ := Fr.set (w := xset w b (.inr (4, [.ref (b + 1), .int (nI g'.n), .int g.ps, .int g.es]))) (e := .inr (4, [.ref (b + 1), .int (nI g'.n), .int g'.ps, .int g.es])) rfl
  have k2 := k1.fr f2 hno
  have h3 := h2.head (n := g'.n) h6 g'.ps g'.es
  have f3 : Fr (fun q => q = b) _ _ := Fr.set (w := xset (xset w b (.inr (4, [.ref (b + 1), .int (nI g'.n), .int g.ps, .int g.es]))) b (.inr (4, [.ref (b + 1), .int (nI g'.n), .int g'.ps, .int g.es]))) (e := .inr (4, [.ref (b + 1), .int (nI g'.n), .int g'.ps, .int g'.es])) rfl
  have k3 := k2.fr f3 hno
  obtain ⟨w2, g2, e2, a1, a2, a3, a4, a5, a6⟩ := X4_copy_L hap g'.n 0 xfuel _ _ h3 k3 rfl (show 0 + g'.n = g'.n by omega) (by unfold xfuel; omega) (fun i hi => absurd hi (Nat.not_lt_zero i))
  refine ⟨w2, g2, ?_, a1, (((f1.tr f2).tr f3).mono (fun q hq => by rw [hq]; exact bb)).tr a2, a3, a4, a5, fun i hi => a6 i (by rw [← a3]; exact hi)⟩
  have e5 : x_put (xset w b (.inr (4, [.ref (b + 1), .int (nI g'.n), .int g.ps, .int g.es]))) b 4 2 (.int g'.ps) = some (xset (xset w b (.inr (4, [.ref (b + 1), .int (nI g'.n), .int g.ps, .int g.es]))) b (.inr (4, [.ref (b + 1), .int (nI g'.n), .int g'.ps, .int g.es]))) := h1.p2
  have e6 : x_put (xset (xset w b (.inr (4, [.ref (b + 1), .int (nI g'.n), .int g.ps, .int g.es]))) b (.inr (4, [.ref (b + 1), .int (nI g'.n), .int g'.ps, .int g.es]))) b 4 3 (.int g'.es) = some (xset (xset (xset w b (.inr (4, [.ref (b + 1), .int (nI g'.n), .int g.ps, .int g.es]))) b (.inr (4, [.ref (b + 1), .int (nI g'.n), .int g'.ps, .int g.es]))) b (.inr (4, [.ref (b + 1), .int (nI g'.n), .int g'.ps, .int g'.es]))) := h2.p3
  simp only [f_X4_copyFrom, oe, h'.g1, ob, h.p1, k1.g2, e5, k2.g3, e6]
  exact e2
end X4g
