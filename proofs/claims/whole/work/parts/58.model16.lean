/-! ===== the model's changes: painted ===== -/
theorem cnt_succ (n : Nat) (p : Nat → Bool) : cnt (n + 1) p = cnt n p + (if p n = true then 1 else 0) := by
  unfold cnt
  rw [List.range_succ, List.countP_append]
  by_cases h : p n = true
  · simp [h]
  · simp [h]
/-- one place changed -/
theorem cnt_one {q : Nat} {p p' : Nat → Bool} (h : ∀ k, k ≠ q → p' k = p k) : ∀ n : Nat, q < n → cnt n p' + (if p q = true then 1 else 0) = cnt n p + (if p' q = true then 1 else 0)
  | 0, hq => absurd hq (Nat.not_lt_zero q)
  | n + 1, hq => by
    rw [cnt_succ, cnt_succ]
    by_cases hn : n = q
    · subst hn
      have e : cnt n p' = cnt n p := cnt_congr (fun k hk => h k (by omega))
      omega
    · have e := cnt_one h n (by omega)
      rw [h n hn]
      omega
theorem tonesG_upd {t : Nat → Int32} {q : Nat} {x : Int32} (hq : q < 48) (hx : x ≠ -1) : tonesG (upd t q x) = tonesG t + (if t q = -1 then 1 else 0) := by
  have h1 := cnt_one (q := q) (p := fun c => t c != -1) (p' := fun c => upd t q x c != -1) (fun k hk => by unfold upd; rw [if_neg hk]) 48 hq
  have h2 : (upd t q x q != -1) = true := by
    unfold upd
    rw [if_pos rfl]
    simpa using hx
  unfold tonesG
  rw [if_pos h2] at h1
  by_cases hc : t q = -1
  · rw [if_pos hc]
    rw [if_neg (show ¬ (t q != -1) = true by simp [hc])] at h1
    exact h1
  · rw [if_neg hc]
    rw [if_pos (show (t q != -1) = true by simpa using hc)] at h1
    omega
section X7p
variable {w : xW} {c : Nat} {F : Nat → Int32} {ar : Nat → Nat → Int32} {g : WL}
/-- the array while a layer is painted -/
def PnS (S u : Nat → Int32) (l : Nat) (t : Nat → Int32) (N : Nat) : Prop := u 1 = S 1 + nI N ∧ (∀ q, q < 48 → u (3 + 50 * l + 2 + q) = t q + 1) ∧ ∀ j, j ≠ 1 → ¬ (3 + 50 * l + 2 ≤ j ∧ j < 3 + 50 * l + 50) → u j = S j
theorem PnS.step {S u : Nat → Int32} {l : Nat} {t : Nat → Int32} {N : Nat} (h : PnS S u l t N) {q : Nat} (hq : q < 48) (x : Int32) : PnS S (upd (upd u (3 + 50 * l + 2 + q) (x + 1)) 1 (u 1 + 1)) l (upd t q x) (N + 1) := by
  obtain ⟨h1, h2, h3⟩ := h
  refine ⟨?_, fun k hk => ?_, fun j hj hn => ?_⟩
  · show (if 1 = 1 then u 1 + 1 else _) = _
    rw [if_pos rfl, h1, Int32.add_assoc, ← nI_succ]
  · show (if 3 + 50 * l + 2 + k = 1 then _ else if 3 + 50 * l + 2 + k = 3 + 50 * l + 2 + q then x + 1 else u (3 + 50 * l + 2 + k)) = (if k = q then x else t k) + 1
    rw [if_neg (by omega)]
    by_cases hkq : k = q
    · rw [if_pos (by omega), if_pos hkq]
    · rw [if_neg (by omega), if_neg hkq, h2 k hk]
  · show (if j = 1 then _ else if j = 3 + 50 * l + 2 + q then x + 1 else u j) = S j
    rw [if_neg hj, if_neg (by omega)]
    exact h3 j hj hn
theorem X7_pnt_in (h : MoAt w c F ar) {l ll rr lo y : Nat} (hl : l < 6) (hr : rr < 8) (hy : y < 6) {x : Int32} (hx : isT x = true) (T0 : Nat) (K : Nat → Int32 → Int32 → Int32 → Int32 → Int32 → Int32 → Int32 → xW → xO Int32) : ∀ (d k n acc : Nat) (u t : Nat → Int32) (N : Nat), k + d = rr + 1 → d < n → PnS (ar 1) u l t N → (∀ q, q < 48 → okT (t q)) → acc + T0 = tonesG t →
    ∃ u' acc', f_X7_paints_L69 K n c (nI l) (nI ll) (nI rr) (nI lo) x (nI acc) (nI y) (nI k) (wA w c 1 u) = K c (nI l) (nI ll) (nI rr) (nI lo) x (nI acc') (nI (y + 1)) (wA w c 1 u') ∧ PnS (ar 1) u' l (rowF k d y x t) (N + d) ∧ (∀ q, q < 48 → okT (rowF k d y x t q)) ∧ acc' + T0 = tonesG (rowF k d y x t) := by
  have hx1 : x ≠ -1 := by
    rcases isT_ok hx with h9 | ⟨j, hj, rfl⟩
    · subst h9; exact absurd hx (by decide)
    · exact nI_nneg (by omega) (by decide)
  intro d
  induction d with
  | zero =>
    intro k n acc u t N hk hn hP ht ha
    obtain ⟨n, rfl⟩ : ∃ m, n = m + 1 := ⟨n - 1, by omega⟩
    refine ⟨u, acc, ?_, hP, ht, ha⟩
    simp only [f_X7_paints_L69]
    rw [if_pos (nI_lt (by omega) (by omega)), ← nI_succ]
  | succ d ih =>
    intro k n acc u t N hk hn hP ht ha
    obtain ⟨n, rfl⟩ : ∃ m, n = m + 1 := ⟨n - 1, by omega⟩
    have hq : 8 * y + k < 48 := by omega
    have h1 := h.sA 1 (by omega) (by omega) u
    have e1 : f_X7_at c (nI l) (nI (8 * y + k)) (wA w c 1 u) = x_ret (t (8 * y + k) + 1) (wA w c 1 u) := by
      rw [← hP.2.1 _ hq]
      exact X7_at h1 hl hq
    have e2 : f_X7_sets c (nI l) (nI (8 * y + k)) (x + 1) (wA w c 1 u) = x_ret () (wA w c 1 (upd u (3 + 50 * l + 2 + (8 * y + k)) (x + 1))) := by
      refine (X7_sets h1 hl hq (x + 1)).trans ?_
      show x_ret () (wA (wA w c 1 u) c 1 (upd u (3 + 50 * l + 2 + (8 * y + k)) (x + 1))) = _
      rw [wA_wA]
    have h2 := h.sA 1 (by omega) (by omega) (upd u (3 + 50 * l + 2 + (8 * y + k)) (x + 1))
    have e3 : x_ild (wA w c 1 (upd u (3 + 50 * l + 2 + (8 * y + k)) (x + 1))) (c + 1) 0 1 = some (u 1) := by
      have e9 : upd u (3 + 50 * l + 2 + (8 * y + k)) (x + 1) 1 = u 1 := by unfold upd; rw [if_neg (by omega)]
      rw [← e9]
      exact h2.ld 1 (by omega) (by omega) (i := 1) (by show 1 < 303; omega)
    have e4 : x_ist (wA w c 1 (upd u (3 + 50 * l + 2 + (8 * y + k)) (x + 1))) (c + 1) 0 1 (u 1 + 1) = some (wA (wA w c 1 (upd u (3 + 50 * l + 2 + (8 * y + k)) (x + 1))) c 1 (upd (upd u (3 + 50 * l + 2 + (8 * y + k)) (x + 1)) 1 (u 1 + 1))) := h2.st 1 (by omega) (by omega) (i := 1) (by show 1 < 303; omega) (u 1 + 1)
    have ht' := upd_ok (k := 8 * y + k) ht (isT_ok hx)
    have hstep : ∀ s0 : Nat, acc + s0 + T0 = tonesG (upd t (8 * y + k) x) → ∃ u' acc', f_X7_paints_J99 K (fun a0 x1 x2 x4 x5 x6 x7 x8 x9 w => f_X7_paints_L69 K n a0 x1 x2 x4 x5 x6 x7 x8 x9 w) c (nI l) (nI ll) (nI rr) (nI lo) x (nI y) (nI k) (nI s0) (nI acc) (wA w c 1 u) = K c (nI l) (nI ll) (nI rr) (nI lo) x (nI acc') (nI (y + 1)) (wA w c 1 u') ∧ PnS (ar 1) u' l (rowF k (d + 1) y x t) (N + (d + 1)) ∧ (∀ q, q < 48 → okT (rowF k (d + 1) y x t q)) ∧ acc' + T0 = tonesG (rowF k (d + 1) y x t) := fun s0 hs0 => by
      obtain ⟨u', acc', e5, p1, p2, p3⟩ := ih (k + 1) n (acc + s0) _ (upd t (8 * y + k) x) (N + 1) (by omega) (by omega) (hP.step hq x) ht' hs0
      have er : rowF k (d + 1) y x t = rowF (k + 1) d y x (upd t (8 * y + k) x) := rfl
      rw [er, show N + (d + 1) = N + 1 + d by omega]
      refine ⟨u', acc', ?_, p1, p2, p3⟩
      unfold f_X7_paints_J99
      rw [if_pos h1.o, cell_nI', e2, x_br, h2.r1, ob, oe, e3, ob, e4, ob, wA_wA, nI_add, ← nI_succ k]
      exact e5
    simp only [f_X7_paints_L69, h1.o, if_true, cell_nI', e1, x_br]
    rw [if_neg (nI_nlt (by omega) (by omega))]
    have htu := tonesG_upd (t := t) hq hx1
    by_cases hc : t (8 * y + k) = -1
    · rw [if_pos (show t (8 * y + k) + 1 = 0 by rw [hc]; decide)]
      rw [if_pos hc] at htu
      exact hstep 1 (by omega)
    · rw [if_neg (show ¬ t (8 * y + k) + 1 = 0 from fun h9 => by
        have := okT_st (ht _ hq)
        rw [beq_iff_eq.mpr h9] at this
        exact hc (beq_iff_eq.mp this.symm))]
      rw [if_neg hc] at htu
      exact hstep 0 (by omega)
theorem X7_pnt_out (h : MoAt w c F ar) {l ll rr lo : Nat} (hl : l < 6) (hlr : ll ≤ rr) (hr : rr < 8) (hlo : lo < 6) {x : Int32} (hx : isT x = true) (T0 : Nat) : ∀ (d k n acc : Nat) (u t : Nat → Int32) (N : Nat), k + d = lo + 1 → d < n → PnS (ar 1) u l t N → (∀ q, q < 48 → okT (t q)) → acc + T0 = tonesG t →
    ∃ u' acc' w', f_X7_paints_L59 n c (nI l) (nI ll) (nI rr) (nI lo) x (nI acc) (nI k) (wA w c 1 u) = x_ret 0 w' ∧ MoAt w' c (upd F 17 (nI acc')) (fun j => if j = 1 then u' else ar j) ∧ Fr (moc c) w w' ∧ PnS (ar 1) u' l (rectF ll (rr + 1 - ll) k d x t) (N + (rr + 1 - ll) * d) ∧ (∀ q, q < 48 → okT (rectF ll (rr + 1 - ll) k d x t q)) ∧ acc' + T0 = tonesG (rectF ll (rr + 1 - ll) k d x t) := by
  intro d
  induction d with
  | zero =>
    intro k n acc u t N hk hn hP ht ha
    obtain ⟨n, rfl⟩ : ∃ m, n = m + 1 := ⟨n - 1, by omega⟩
    have h1 := h.sA 1 (by omega) (by omega) u
    obtain ⟨w4, e4, h4, f4⟩ := X7_done h1 (nI acc)
    refine ⟨u, acc, w4, ?_, h4, (wA_fr (by omega) _).tr f4, by rw [Nat.mul_zero]; exact hP, ht, ha⟩
    simp only [f_X7_paints_L59]
    rw [if_pos (nI_lt (by omega) (by omega)), if_pos h1.o, e4, x_br]
  | succ d ih =>
    intro k n acc u t N hk hn hP ht ha
    obtain ⟨n, rfl⟩ : ∃ m, n = m + 1 := ⟨n - 1, by omega⟩
    obtain ⟨u1, a1, e1, p1, p2, p3⟩ := X7_pnt_in h (l := l) (ll := ll) (rr := rr) (lo := lo) (y := k) hl hr (by omega) hx T0 (fun a0 x1 x2 x4 x5 x6 x7 x8 w => f_X7_paints_L59 n a0 x1 x2 x4 x5 x6 x7 x8 w) (rr + 1 - ll) ll xfuel acc u t N (by omega) (by unfold xfuel; omega) hP ht ha
    obtain ⟨u2, a2, w2, e2, q1, q2, q3, q4, q5⟩ := ih (k + 1) n a1 u1 _ _ (by omega) (by omega) p1 p2 p3
    have er : rectF ll (rr + 1 - ll) k (d + 1) x t = rectF ll (rr + 1 - ll) (k + 1) d x (rowF ll (rr + 1 - ll) k x t) := rfl
    rw [er, show N + (rr + 1 - ll) * (d + 1) = N + (rr + 1 - ll) + (rr + 1 - ll) * d by rw [Nat.mul_succ]; omega]
    refine ⟨u2, a2, w2, ?_, q1, q2, q3, q4, q5⟩
    simp only [f_X7_paints_L59]
    rw [if_neg (nI_nlt (by omega) (by omega)), e1]
    exact e2
theorem X7_paints (h : MoAt w c F ar) (r : RelS g (ar 1)) (hs : ∀ i j, i < 6 → j < 6 → g.sg i = g.sg j → i = j) (p l u rr lo x : Int32) : MRun cdP c w F ar (f_X7_paints c p l u rr lo x w) (paintG g p l u rr lo x) := by
  have h6 := r.2.2.2.1
  have e15 : (if ¬ x < 0 ∧ ¬ 15 < x then (1 : Int32) else 0) = if isT x = true then 1 else 0 := by
    unfold isT
    by_cases h9 : ¬ x < 0 ∧ ¬ 15 < x
    · rw [if_pos h9, if_pos (decide_eq_true h9)]
    · rw [if_neg h9, if_neg (fun hc => h9 (of_decide_eq_true hc))]
  simp only [f_X7_paints, h.o, if_true, X7_isLayer h r.1 h6, X7_isCell, X7_in, x_br, isLayer_if, e15]
  rcases posG_or g h6 p with ⟨i, hi, rfl, hp⟩ | ⟨hq, hp⟩
  · rw [if_neg (fun hc : nI i < 0 ∨ nI g.n ≤ nI i => hc.elim (nI_pos (by omega)) (nI_ge hi (by omega))), if_neg (by decide)]
    by_cases c1 : isC l u = true
    · rw [if_pos c1, if_neg (by decide)]
      by_cases c2 : isC rr lo = true
      · rw [if_pos c2, if_neg (by decide)]
        by_cases c3 : rr < l
        · rw [if_pos c3, show paintG g (nI i) l u rr lo x = (-3, g) by simp [paintG, hp, c1, c2, c3]]
          exact MRun.stay h r (by decide) (by decide)
        · rw [if_neg c3]
          by_cases c4 : lo < u
          · rw [if_pos c4, show paintG g (nI i) l u rr lo x = (-3, g) by simp [paintG, hp, c1, c2, c4]]
            exact MRun.stay h r (by decide) (by decide)
          · rw [if_neg c4]
            by_cases c5 : isT x = true
            · rw [if_pos c5, if_neg (by decide)]
              have ev : paintG g (nI i) l u rr lo x = (nI (tonesG (rectT l u rr lo x (g.t i))) - nI (tonesG (g.t i)), (g.num g.n (g.ps + ((rr - l) + 1) * ((lo - u) + 1)) g.es).put (g.sg i) (g.m i) (g.v i) (rectT l u rr lo x (g.t i))) := by simp [paintG, hp, c1, c2, c3, c4, c5]
              obtain ⟨a1, a2, k1, k2, rfl, rfl⟩ := isC_of c1
              obtain ⟨a3, a4, k3, k4, rfl, rfl⟩ := isC_of c2
              have h13 : a1 ≤ a3 := Nat.le_of_not_lt (fun hc => c3 (nI_lt hc (by omega)))
              have h24 : a2 ≤ a4 := Nat.le_of_not_lt (fun hc => c4 (nI_lt hc (by omega)))
              obtain ⟨b1, b2, b3, b4⟩ := r.2.2.2.2 i hi
              have e1 : rectT (nI a1) (nI a2) (nI a3) (nI a4) x (g.t i) = rectF a1 (a3 + 1 - a1) a2 (a4 + 1 - a2) x (g.t i) := by
                unfold rectT
                rw [nI_clamp (by omega), nI_clamp (by omega), nI_clamp (by omega), nI_clamp (by omega)]
              have hP0 : PnS (ar 1) (ar 1) i (g.t i) 0 := ⟨by rw [nI_0, Int32.add_zero], fun q hq => (b4 q hq).1, fun _ _ _ => rfl⟩
              obtain ⟨u', acc', w', e2, q1, q2, q3, q4, q5⟩ := X7_pnt_out h (l := i) (by omega) h13 k3 k4 c5 (tonesG (g.t i)) (a4 + 1 - a2) a2 xfuel 0 (ar 1) (g.t i) 0 (by omega) (by unfold xfuel; omega) hP0 (fun q hq => (b4 q hq).2) (Nat.zero_add _)
              rw [wA_self h (by omega) (by omega), nI_0] at e2
              rw [ev, e1]
              have ea : nI (tonesG (rectF a1 (a3 + 1 - a1) a2 (a4 + 1 - a2) x (g.t i))) - nI (tonesG (g.t i)) = nI acc' := nI_subc (by omega)
              have hle : acc' ≤ 48 := by
                have : tonesG (rectF a1 (a3 + 1 - a1) a2 (a4 + 1 - a2) x (g.t i)) ≤ 48 := cnt_le _ _
                omega
              have em : ((nI a3 - nI a1) + 1) * ((nI a4 - nI a2) + 1) = nI (0 + (a3 + 1 - a1) * (a4 + 1 - a2)) := by
                rw [nI_sub h13, nI_sub h24, ← nI_succ, ← nI_succ, nI_mul, Nat.zero_add, show a3 - a1 + 1 = a3 + 1 - a1 by omega, show a4 - a2 + 1 = a4 + 1 - a2 by omega]
              rw [ea, em]
              refine ⟨w', upd F 17 (nI acc'), _, ?_, q1, q2, fun k hk => by unfold upd; rw [if_neg hk], fun k hk _ _ => by rw [if_neg hk], ?_, fun _ => by unfold upd; rw [if_pos rfl]⟩
              · refine e2.trans ?_
                show x_ret 0 w' = x_ret (cdP (nI acc')) w'
                rw [cdP_nI (by omega)]
              · obtain ⟨z1, z2, z3⟩ := q3
                refine put_rel r hs hi (z3 0 (by omega) (by omega)) ?_ ?_ (fun q hq => ⟨z3 _ (by omega) (by omega), z3 _ (by omega) (by omega)⟩) (fun q hq hqi k hk => z3 _ (by omega) (by omega)) (fun k hk => ⟨z2 k hk, q4 k hk⟩)
                · show u' 1 = _
                  rw [z1, r.2.1]
                · show u' 2 = _
                  rw [z3 2 (by omega) (by omega)]
                  exact r.2.2.1
            · rw [if_neg c5, if_pos rfl, show paintG g (nI i) l u rr lo x = (-3, g) by simp [paintG, hp, c1, c2, c5]]
              exact MRun.stay h r (by decide) (by decide)
      · rw [if_neg c2, if_pos rfl, show paintG g (nI i) l u rr lo x = (-2, g) by simp [paintG, hp, c2]]
        exact MRun.stay h r (by decide) (by decide)
    · rw [if_neg c1, if_pos rfl, show paintG g (nI i) l u rr lo x = (-2, g) by simp [paintG, hp, c1]]
      exact MRun.stay h r (by decide) (by decide)
  · rw [if_pos hq, if_pos rfl, show paintG g p l u rr lo x = (-2, g) by simp [paintG, hp]]
    exact MRun.stay h r (by decide) (by decide)
end X7p
