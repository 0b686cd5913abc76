/-! ===== areas: the model's labels ===== -/
section X7L
variable {w : xW} {c : Nat} {F : Nat → Int32} {ar : Nat → Nat → Int32} {g : WL}
/-- the labels: u holds lb, no greater than the cell, in its area -/
def LbS (T : Nat → Int32) (u : Nat → Int32) (lb : Nat → Nat) : Prop := ∀ x, x < 48 → u x = nI (lb x) ∧ lb x ≤ x ∧ ∀ P, Clo T P → P x = P (lb x)
def smL (lb : Nat → Nat) : Nat → Nat
  | 0 => 0
  | n + 1 => smL lb n + lb n
theorem smL_le {lb lb' : Nat → Nat} : ∀ n : Nat, (∀ x, x < n → lb' x ≤ lb x) → smL lb' n ≤ smL lb n
  | 0, _ => Nat.le_refl _
  | n + 1, h => by
    have h1 := smL_le n (fun x hx => h x (by omega))
    have h2 := h n (by omega)
    show smL lb' n + lb' n ≤ smL lb n + lb n
    omega
theorem smL_lt {lb lb' : Nat → Nat} {q : Nat} (hq : lb' q < lb q) : ∀ n : Nat, q < n → (∀ x, x < n → lb' x ≤ lb x) → smL lb' n < smL lb n
  | 0, h, _ => absurd h (Nat.not_lt_zero q)
  | n + 1, hqn, h => by
    show smL lb' n + lb' n < smL lb n + lb n
    by_cases hn : q = n
    · subst hn
      have := smL_le q (fun x hx => h x (by omega))
      omega
    · have h1 := smL_lt hq n (by omega) (fun x hx => h x (by omega))
      have h2 := h n (by omega)
      omega
theorem smL_id : ∀ n : Nat, ∀ lb : Nat → Nat, (∀ x, x < n → lb x ≤ x) → smL lb n ≤ n * n
  | 0, _, _ => Nat.le_refl _
  | n + 1, lb, h => by
    have h1 := smL_id n lb (fun x hx => h x (by omega))
    have h2 := h n (by omega)
    have h3 : (n + 1) * (n + 1) = n * n + n + n + 1 := by rw [Nat.mul_succ, Nat.succ_mul]; omega
    show smL lb n + lb n ≤ (n + 1) * (n + 1)
    omega
/-- two labels made one -/
def jnB (lb : Nat → Nat) (x y : Nat) : Nat → Nat := fun z => if z = x ∨ z = y then (if lb y ≤ lb x then lb y else lb x) else lb z
theorem jnB_ok {T u : Nat → Int32} {lb : Nat → Nat} (h : LbS T u lb) {x y : Nat} (he : Edg T x y) (hne : lb x ≠ lb y) (v : Int32) (hv : v = nI (if lb y ≤ lb x then lb y else lb x)) : LbS T (upd (upd u x v) y v) (jnB lb x y) ∧ smL (jnB lb x y) 48 < smL lb 48 := by
  obtain ⟨hx, hy, ht, hN⟩ := id he
  obtain ⟨x1, x2, x3⟩ := h x hx
  obtain ⟨y1, y2, y3⟩ := h y hy
  have hyx : y < x := by omega
  constructor
  · intro z hz
    obtain ⟨z1, z2, z3⟩ := h z hz
    show (if z = y then v else if z = x then v else u z) = nI (if z = x ∨ z = y then (if lb y ≤ lb x then lb y else lb x) else lb z) ∧ (if z = x ∨ z = y then (if lb y ≤ lb x then lb y else lb x) else lb z) ≤ z ∧ ∀ P, Clo T P → P z = P (if z = x ∨ z = y then (if lb y ≤ lb x then lb y else lb x) else lb z)
    by_cases hzx : z = x ∨ z = y
    · simp only [if_pos hzx]
      refine ⟨?_, ?_, fun P hP => ?_⟩
      · rcases hzx with hz9 | hz9
        · rw [if_neg (by omega), if_pos hz9]; exact hv
        · rw [if_pos hz9]; exact hv
      · split <;> omega
      · have e1 := x3 P hP
        have e2 := y3 P hP
        have e3 := hP x y he
        have e4 : P z = P x := by
          rcases hzx with hz9 | hz9
          · rw [hz9]
          · rw [hz9, e3]
        rw [e4]
        split
        · rw [e3, e2]
        · exact e1
    · simp only [if_neg hzx]
      rw [if_neg (fun hc => hzx (Or.inr hc)), if_neg (fun hc => hzx (Or.inl hc))]
      exact ⟨z1, z2, z3⟩
  · have hle : ∀ z, z < 48 → jnB lb x y z ≤ lb z := fun z hz => by
      unfold jnB
      by_cases hzx : z = x ∨ z = y
      · rw [if_pos hzx]
        rcases hzx with rfl | rfl
        · split <;> omega
        · split <;> omega
      · rw [if_neg hzx]
        exact Nat.le_refl _
    by_cases hc : lb y ≤ lb x
    · refine smL_lt (q := x) ?_ 48 hx hle
      unfold jnB
      rw [if_pos (Or.inl rfl), if_pos hc]
      omega
    · refine smL_lt (q := y) ?_ 48 hy hle
      unfold jnB
      rw [if_pos (Or.inr rfl), if_neg hc]
      omega
/-- the model joins two cells -/
theorem X7_joins (h : MoAt w c F ar) (r : RelS g (ar 1)) {u : Nat → Int32} {lb : Nat → Nat} (k : LbS (seeG g) u lb) {x y : Nat} (hx : x < 48) (hy : y < 48) (hN : (0 < x % 8 ∧ y + 1 = x) ∨ y + 8 = x) :
    (f_X7_joins c (nI x) (nI y) (wA w c 9 u) = x_ret 0 (wA w c 9 u) ∧ (seeG g x = seeG g y → lb x = lb y)) ∨
    ∃ u' lb', f_X7_joins c (nI x) (nI y) (wA w c 9 u) = x_ret 1 (wA w c 9 u') ∧ LbS (seeG g) u' lb' ∧ smL lb' 48 < smL lb 48 := by
  have h1 := h.sA 9 (by omega) (by omega) u
  obtain ⟨x1, x2, x3⟩ := k x hx
  obtain ⟨y1, y2, y3⟩ := k y hy
  have e1 : x_ild (wA w c 9 u) (c + 9) 0 (nI x) = some (nI (lb x)) := by rw [← x1]; exact h1.ld 9 (by omega) (by omega) (i := x) hx
  have e2 : x_ild (wA w c 9 u) (c + 9) 0 (nI y) = some (nI (lb y)) := by rw [← y1]; exact h1.ld 9 (by omega) (by omega) (i := y) hy
  have e3 := X7_look h1 (g := g) r hx
  have e4 := X7_look h1 (g := g) r hy
  have st2 : ∀ v, ∃ W, x_ist (wA w c 9 u) (c + 9) 0 (nI x) v = some W ∧ x_getr W c 7 11 = some (some (c + 9)) ∧ x_ist W (c + 9) 0 (nI y) v = some (wA w c 9 (upd (upd u x v) y v)) := fun v => by
    have h2 := h.sA 9 (by omega) (by omega) (upd u x v)
    refine ⟨wA w c 9 (upd u x v), ?_, h2.r11, ?_⟩
    · refine (h1.st 9 (by omega) (by omega) (i := x) hx v).trans ?_
      show some (wA (wA w c 9 u) c 9 (upd u x v)) = _
      rw [wA_wA]
    · refine (h2.st 9 (by omega) (by omega) (i := y) hy v).trans ?_
      show some (wA (wA w c 9 (upd u x v)) c 9 (upd (upd u x v) y v)) = _
      rw [wA_wA]
  simp only [f_X7_joins, h1.r11, ob, oe, e1, e2, h1.o, if_true, e3, e4, x_br]
  by_cases hl : lb x = lb y
  · rw [hl, if_pos rfl]
    exact Or.inl ⟨rfl, fun _ => rfl⟩
  · rw [if_neg (fun h9 : nI (lb x) = nI (lb y) => hl ((nI_eq (by omega) (by omega)).mp h9))]
    by_cases ht : seeG g x = seeG g y
    · rw [if_pos ht]
      refine Or.inr ?_
      have he : Edg (seeG g) x y := ⟨hx, hy, ht, hN⟩
      by_cases hc : lb y ≤ lb x
      · rw [if_pos (nI_le hc (by omega))]
        obtain ⟨W, a1, a2, a3⟩ := st2 (nI (lb y))
        obtain ⟨q1, q2⟩ := jnB_ok k he hl (nI (lb y)) (by rw [if_pos hc])
        refine ⟨_, _, ?_, q1, q2⟩
        rw [a1, ob, a2, ob, oe, a3, ob]
      · rw [if_neg (nI_ge (by omega) (by omega))]
        obtain ⟨W, a1, a2, a3⟩ := st2 (nI (lb x))
        obtain ⟨q1, q2⟩ := jnB_ok k he hl (nI (lb x)) (by rw [if_neg hc])
        refine ⟨_, _, ?_, q1, q2⟩
        rw [a1, ob, a2, ob, oe, a3, ob]
    · rw [if_neg ht]
      exact Or.inl ⟨rfl, fun h9 => absurd h9 ht⟩
/-- one walk over all cells -/
theorem X7_pass_L (h : MoAt w c F ar) (r : RelS g (ar 1)) (K : Nat → Int32 → xW → xO Unit) : ∀ (d k n : Nat) (x1 : Int32) (u : Nat → Int32) (lb : Nat → Nat), k + d = 48 → d < n → LbS (seeG g) u lb →
    ∃ x1' u' lb', f_X7_labels_L31 K n c x1 (nI k) (wA w c 9 u) = K c x1' (wA w c 9 u') ∧ LbS (seeG g) u' lb' ∧ ((x1' = x1 ∧ u' = u ∧ lb' = lb ∧ ∀ x y, k ≤ x → Edg (seeG g) x y → lb x = lb y) ∨ (x1' = 1 ∧ smL lb' 48 < smL lb 48)) := by
  intro d
  induction d with
  | zero =>
    intro k n x1 u lb hk hn q
    obtain ⟨n, rfl⟩ : ∃ m, n = m + 1 := ⟨n - 1, by omega⟩
    refine ⟨x1, u, lb, ?_, q, Or.inl ⟨rfl, rfl, rfl, fun x y hx he => absurd he.1 (by omega)⟩⟩
    simp only [f_X7_labels_L31]
    rw [if_pos (show (48 : Int32) ≤ nI k from nI_le (a := 48) (by omega) (by omega))]
  | succ d ih =>
    intro k n x1 u lb hk hn q
    obtain ⟨n, rfl⟩ : ∃ m, n = m + 1 := ⟨n - 1, by omega⟩
    -- behind the left neighbour
    have half : ∀ (x1 : Int32) (u : Nat → Int32) (lb : Nat → Nat), LbS (seeG g) u lb →
        ∃ x1' u' lb', f_X7_labels_J57 K (fun a0 x1 x2 w => f_X7_labels_L31 K n a0 x1 x2 w) c x1 (nI k) (wA w c 9 u) = K c x1' (wA w c 9 u') ∧ LbS (seeG g) u' lb' ∧ ((x1' = x1 ∧ u' = u ∧ lb' = lb ∧ (∀ y, Edg (seeG g) k y → y + 8 = k → lb k = lb y) ∧ ∀ x y, k + 1 ≤ x → Edg (seeG g) x y → lb x = lb y) ∨ (x1' = 1 ∧ smL lb' 48 < smL lb 48)) := by
      intro x1 u lb q
      unfold f_X7_labels_J57
      have h1 := h.sA 9 (by omega) (by omega) u
      by_cases h8 : k < 8
      · rw [if_pos (show nI k < 8 from nI_lt (b := 8) h8 (by omega)), ← nI_succ k]
        obtain ⟨x1', u', lb', e, a1, a2⟩ := ih (k + 1) n x1 u lb (by omega) (by omega) q
        refine ⟨x1', u', lb', e, a1, ?_⟩
        rcases a2 with ⟨b1, b2, b3, b4⟩ | a2
        · exact Or.inl ⟨b1, b2, b3, fun y he hy => by omega, b4⟩
        · exact Or.inr a2
      · rw [if_neg (show ¬ nI k < 8 from nI_nlt (b := 8) (by omega) (by omega)), if_pos h1.o, show nI k - 8 = nI (k - 8) from nI_sub (b := 8) (by omega), ← nI_succ k]
        rcases X7_joins h r q (x := k) (y := k - 8) (by omega) (by omega) (Or.inr (by omega)) with ⟨e1, e2⟩ | ⟨u1, lb1, e1, q1, q2⟩
        · rw [e1, x_br, if_pos rfl]
          obtain ⟨x1', u', lb', e, a1, a2⟩ := ih (k + 1) n x1 u lb (by omega) (by omega) q
          refine ⟨x1', u', lb', e, a1, ?_⟩
          rcases a2 with ⟨b1, b2, b3, b4⟩ | a2
          · exact Or.inl ⟨b1, b2, b3, fun y he hy => by
              have : y = k - 8 := by omega
              subst this
              exact e2 he.2.2.1, b4⟩
          · exact Or.inr a2
        · rw [e1, x_br, if_neg (by decide)]
          obtain ⟨x1', u', lb', e, a1, a2⟩ := ih (k + 1) n 1 u1 lb1 (by omega) (by omega) q1
          refine ⟨x1', u', lb', e, a1, Or.inr ?_⟩
          rcases a2 with ⟨b1, b2, b3, b4⟩ | ⟨b1, b2⟩
          · exact ⟨b1, by rw [b3]; exact q2⟩
          · exact ⟨b1, by omega⟩
    have h1 := h.sA 9 (by omega) (by omega) u
    simp only [f_X7_labels_L31, nI_col k (by omega)]
    rw [if_neg (show ¬ (48 : Int32) ≤ nI k from nI_ge (b := 48) (by omega) (by omega))]
    by_cases h0 : 0 < k % 8
    · rw [if_neg (nI_nle h0 (by omega)), if_pos h1.o, show nI k - 1 = nI (k - 1) from nI_sub (b := 1) (by omega)]
      rcases X7_joins h r q (x := k) (y := k - 1) (by omega) (by omega) (Or.inl ⟨h0, by omega⟩) with ⟨e1, e2⟩ | ⟨u1, lb1, e1, q1, q2⟩
      · rw [e1, x_br, if_pos rfl]
        obtain ⟨x1', u', lb', e, a1, a2⟩ := half x1 u lb q
        refine ⟨x1', u', lb', e, a1, ?_⟩
        rcases a2 with ⟨b1, b2, b3, b4, b5⟩ | a2
        · refine Or.inl ⟨b1, b2, b3, fun x y hx he => ?_⟩
          by_cases hxk : x = k
          · subst hxk
            by_cases hy8 : y + 8 = x
            · exact b4 y he hy8
            · have : y = x - 1 := by
                have := he.2.2.2
                omega
              subst this
              exact e2 he.2.2.1
          · exact b5 x y (by omega) he
        · exact Or.inr a2
      · rw [e1, x_br, if_neg (by decide)]
        obtain ⟨x1', u', lb', e, a1, a2⟩ := half 1 u1 lb1 q1
        refine ⟨x1', u', lb', e, a1, Or.inr ?_⟩
        rcases a2 with ⟨b1, b2, b3, b4, b5⟩ | ⟨b1, b2⟩
        · exact ⟨b1, by rw [b3]; exact q2⟩
        · exact ⟨b1, by omega⟩
    · rw [if_pos (show nI (k % 8) ≤ 0 by rw [show k % 8 = 0 by omega]; decide)]
      obtain ⟨x1', u', lb', e, a1, a2⟩ := half x1 u lb q
      refine ⟨x1', u', lb', e, a1, ?_⟩
      rcases a2 with ⟨b1, b2, b3, b4, b5⟩ | a2
      · refine Or.inl ⟨b1, b2, b3, fun x y hx he => ?_⟩
        by_cases hxk : x = k
        · subst hxk
          refine b4 y he ?_
          have := he.2.2.2
          omega
        · exact b5 x y (by omega) he
      · exact Or.inr a2
theorem X7_while_L (h : MoAt w c F ar) (r : RelS g (ar 1)) : ∀ (M n : Nat) (u : Nat → Int32) (lb : Nat → Nat), smL lb 48 ≤ M → M + 1 < n → LbS (seeG g) u lb →
    ∃ u' lb', f_X7_labels_L23 n c 1 (wA w c 9 u) = x_ret () (wA w c 9 u') ∧ LbS (seeG g) u' lb' ∧ Lab (seeG g) lb' := by
  intro M
  induction M using Nat.strongRecOn with
  | ind M ih =>
    intro n u lb hM hn q
    obtain ⟨n, rfl⟩ : ∃ m, n = m + 1 := ⟨n - 1, by omega⟩
    simp only [f_X7_labels_L23]
    rw [if_neg (by decide)]
    obtain ⟨x1', u', lb', e, a1, a2⟩ := X7_pass_L h r (fun a0 x1 w => f_X7_labels_L23 n a0 x1 w) 48 0 xfuel 0 u lb (by omega) (by unfold xfuel; omega) q
    rw [nI_0] at e
    rcases a2 with ⟨b1, b2, b3, b4⟩ | ⟨b1, b2⟩
    · refine ⟨u', lb', ?_, a1, ⟨fun x hx => (a1 x hx).2.1, fun P hP x hx => (a1 x hx).2.2 P hP, fun x y he => by rw [b3]; exact b4 x y (Nat.zero_le x) he⟩⟩
      refine e.trans ?_
      obtain ⟨n, rfl⟩ : ∃ m, n = m + 1 := ⟨n - 1, by omega⟩
      show f_X7_labels_L23 (n + 1) c x1' _ = _
      simp only [f_X7_labels_L23]
      rw [if_pos b1]
    · obtain ⟨u2, lb2, e2, c1, c2⟩ := ih (smL lb' 48) (by omega) n u' lb' (Nat.le_refl _) (by omega) a1
      refine ⟨u2, lb2, ?_, c1, c2⟩
      refine e.trans ?_
      rw [b1]
      exact e2
theorem X7_lbl_L (h : MoAt w c F ar) : ∀ (d k n : Nat) (u : Nat → Int32), k + d = 48 → d < n →
    f_X7_labels_L2 n c (nI k) (wA w c 9 u) = f_X7_labels_L23 xfuel c 1 (wA w c 9 ((List.range' k d).foldl (fun u i => if true = true then upd u i (nI i) else u) u)) := by
  intro d
  induction d with
  | zero =>
    intro k n u hk hn
    obtain ⟨n, rfl⟩ : ∃ m, n = m + 1 := ⟨n - 1, by omega⟩
    simp only [f_X7_labels_L2]
    rw [if_pos (show (48 : Int32) ≤ nI k from nI_le (a := 48) (by omega) (by omega))]
    rfl
  | succ d ih =>
    intro k n u hk hn
    obtain ⟨n, rfl⟩ : ∃ m, n = m + 1 := ⟨n - 1, by omega⟩
    have h1 := h.sA 9 (by omega) (by omega) u
    have e1 : x_ist (wA w c 9 u) (c + 9) 0 (nI k) (nI k) = some (wA (wA w c 9 u) c 9 (upd u k (nI k))) := h1.st 9 (by omega) (by omega) (i := k) (by show k < 48; omega) _
    simp only [f_X7_labels_L2, h1.r11, ob, oe, e1]
    rw [if_neg (show ¬ (48 : Int32) ≤ nI k from nI_ge (b := 48) (by omega) (by omega)), ← nI_succ k, wA_wA]
    exact ih (k + 1) n (upd u k (nI k)) (by omega) (by omega)
theorem X7_labels (h : MoAt w c F ar) (r : RelS g (ar 1)) : ∃ u lb, f_X7_labels c w = x_ret () (wA w c 9 u) ∧ LbS (seeG g) u lb ∧ Lab (seeG g) lb := by
  have h1 := X7_lbl_L h 48 0 xfuel (ar 9) (by omega) (by unfold xfuel; omega)
  rw [wA_self h (by omega) (by omega), fo_R, fo_upd (fun _ => true) (fun i => nI i) (ar 9) 48, nI_0] at h1
  have q : LbS (seeG g) (fun i => if i < 48 ∧ true = true then nI i else ar 9 i) id := fun x hx => ⟨if_pos ⟨hx, rfl⟩, Nat.le_refl _, fun _ _ => rfl⟩
  have hs := smL_id 48 id (fun _ _ => Nat.le_refl _)
  obtain ⟨u, lb, e, a1, a2⟩ := X7_while_L h r 2304 xfuel _ id hs (by unfold xfuel; omega) q
  exact ⟨u, lb, h1.trans e, a1, a2⟩
theorem Lab.uniq {T : Nat → Int32} {lab lab' : Nat → Nat} (h : Lab T lab) (h' : Lab T lab') {x : Nat} (hx : x < 48) : lab x = lab' x := by
  have one : ∀ {l l' : Nat → Nat}, Lab T l → Lab T l' → l' x ≤ l x := fun {l l'} k k' => by
    have e := k.2.1 _ (k'.clo (fun z => z == l' x)) x hx
    have e2 : l' (l x) = l' x := beq_iff_eq.mp (e.symm.trans (by simp))
    have := k'.1 (l x) (k.lt hx)
    omega
  have a := one h h'
  have b := one h' h
  omega
theorem LbS.lab {T u : Nat → Int32} {lb lab : Nat → Nat} (k : LbS T u lb) (L : Lab T lb) (L' : Lab T lab) : ∀ x, x < 48 → u x = nI (lab x) := fun x hx => by
  rw [(k x hx).1, L.uniq L' hx]
/-- there is such a giving -/
theorem Lab_ex (h : MoAt w c F ar) (r : RelS g (ar 1)) : ∃ lab, Lab (seeG g) lab := by
  obtain ⟨u, lb, e, a1, a2⟩ := X7_labels h r
  exact ⟨lb, a2⟩
end X7L
