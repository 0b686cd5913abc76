/-! ===== the constructors ===== -/
section IN
variable {w w' : xW} {a b c k : Nat} {fs : List Value}
theorem put_ex (h : w.2 a = some (.inr (c, fs))) (hk : k < fs.length) (v : Value) : ∃ w1, x_put w a c k v = some w1 ∧ w1.2 a = some (.inr (c, fs.set k v)) ∧ w1.1 = w.1 ∧ ∀ q, q ≠ a → w1.2 q = w.2 q := by
  refine ⟨xset w a (.inr (c, fs.set k v)), ?_, xset_at _ _ _, rfl, fun q hq => xset_ne hq⟩
  simp [x_put, h, hk]
theorem al_ex (w : xW) (e : xE) : ∃ w1, x_alloc w e = some w1 ∧ w1.2 w.1 = some e ∧ w1.1 = w.1 + 1 ∧ ∀ q, q ≠ w.1 → w1.2 q = w.2 q := ⟨xpush w e, rfl, by simp [xpush], rfl, fun q hq => by simp [xpush, hq]⟩
theorem ap_ex (h : w.2 a = some (.inr (c, fs))) (ha : a < w.1) (hk : k < fs.length) (e : xE) : ∃ w1 w2, x_alloc w e = some w1 ∧ x_put w1 a c k (.ref w.1) = some w2 ∧ w2.2 a = some (.inr (c, fs.set k (.ref w.1))) ∧ w2.2 w.1 = some e ∧ w2.1 = w.1 + 1 ∧ ∀ q, q ≠ a → q ≠ w.1 → w2.2 q = w.2 q := by
  obtain ⟨w1, e1, a1, s1, b1⟩ := al_ex w e
  obtain ⟨w2, e2, a2, s2, b2⟩ := put_ex (k := k) ((b1 a (by omega)).trans h) hk (.ref w.1)
  exact ⟨w1, w2, e1, e2, a2, (b2 _ (by omega)).trans a1, s2.trans s1, fun q h1 h2 => (b2 q h1).trans (b1 q h2)⟩
/-- the same cells here -/
theorem upF {A : Nat → Prop} (h : ∀ q, A q → w'.2 q = w.2 q) : Fr (fun q => ¬ A q) w (w.1, w'.2) := ⟨rfl, fun q hq => h q (Classical.byContradiction hq)⟩
theorem LyAt.up {md vi : Int32} {t : Nat → Int32} (h : LyAt w a md vi t) (h0 : w'.2 a = w.2 a) (h1 : w'.2 (a + 1) = w.2 (a + 1)) : LyAt w' a md vi t := ⟨h0.trans h.1, h1.trans h.2⟩
theorem LsAt.up {g : WL} (h : LsAt w b g) (hq : ∀ q, blk b q → w'.2 q = w.2 q) : LsAt w' b g := by
  have key : LsAt (w.1, w'.2) b g := h.fr (upF hq) (fun q h1 h2 => h2 h1)
  exact key
theorem HiAt.up {nx sz : Nat} {G : Nat → WL} (h : HiAt w b nx sz G) (hq : ∀ q, ring b q → w'.2 q = w.2 q) : HiAt w' b nx sz G := by
  have key : HiAt (w.1, w'.2) b nx sz G := h.fr (upF hq) (fun q h1 h2 => h2 h1)
  exact key
theorem FwAt.up {f : FW} (h : FwAt w b f) (hq : ∀ q, fwc b q → w'.2 q = w.2 q) : FwAt w' b f := by
  have key : FwAt (w.1, w'.2) b f := h.fr (upF hq) (fun q h1 h2 => h2 h1)
  exact key
theorem CtAt.up {t u : Nat → Int32} {n p k : Nat} {kd : Int32} (h : CtAt w b t n p kd u k) (hq : ∀ q, ctc b q → w'.2 q = w.2 q) : CtAt w' b t n p kd u k := by
  have key : CtAt (w.1, w'.2) b t n p kd u k := h.fr (upF hq) (fun q h1 h2 => h2 h1)
  exact key
theorem X3_ini (h : w.2 a = some (.inr (3, [.int 0, .int 0, .null]))) (hs : w.1 = a + 1) : ∃ w', f_X3_init a w = some w' ∧ w'.1 = a + 2 ∧ LyAt w' a 110 1 (fun _ => 0) ∧ ∀ q, q < a → w'.2 q = w.2 q := by
  obtain ⟨w1, e1, a1, s1, b1⟩ := put_ex (k := 0) h (by decide) (.int 110)
  obtain ⟨w2, e2, a2, s2, b2⟩ := put_ex (k := 1) a1 (by decide) (.int 1)
  obtain ⟨w3, w4, e3, e4, a4, c4, s4, b4⟩ := ap_ex (k := 2) a2 (by omega) (by decide) (.inl (0, 48, .inl (fun _ => 0)))
  have hw : w2.1 = a + 1 := by omega
  rw [hw] at a4 c4 s4 b4
  refine ⟨w4, ?_, by omega, ⟨a4, c4⟩, fun q hq => ?_⟩
  · unfold f_X3_init
    rw [e1, ob, e2, ob, e3, ob, e4, ob]
  · rw [b4 q (by omega) (by omega), b2 q (by omega), b1 q (by omega)]
/-- a new wall -/
def g0 : WL := WL.mk 0 0 0 id (fun _ => 110) (fun _ => 1) (fun _ _ => 0)
/-- while a block is made -/
def MkL (w0 w : xW) (b i : Nat) : Prop := w.1 = b + 2 + 2 * i ∧ w.2 b = some (.inr (4, [.ref (b + 1), .int 0, .int 0, .int 0])) ∧ (∃ f : Nat → Option Nat, w.2 (b + 1) = some (.inl (3, 6, .inr (.inr (.inr (.inr f))))) ∧ ∀ j, j < i → f j = some (b + 2 + 2 * j)) ∧ (∀ j, j < i → LyAt w (b + 2 + 2 * j) 110 1 (fun _ => 0)) ∧ ∀ q, q < b → w.2 q = w0.2 q
theorem X4_ini_L {w0 : xW} : ∀ (d i n : Nat) (w : xW), i + d = 6 → d < n → MkL w0 w b i → ∃ w', f_X4_init_L30 n b (nI i) w = some w' ∧ MkL w0 w' b 6 := by
  intro d
  induction d with
  | zero =>
    intro i n w hi hn h
    obtain ⟨n, rfl⟩ : ∃ m, n = m + 1 := ⟨n - 1, by omega⟩
    obtain rfl : i = 6 := by omega
    obtain ⟨h1, h2, ⟨f, h3, h4⟩, h5, h6⟩ := id h
    refine ⟨w, ?_, h⟩
    have g1 : x_getr w b 4 0 = some (some (b + 1)) := by simp [x_getr, x_get, h2, x_vr]
    have l1 : x_len w (b + 1) = some (nI 6) := by simp [x_len, h3]
    simp only [f_X4_init_L30, g1, ob, oe, l1]
    rw [if_pos (nI_le (Nat.le_refl 6) (by omega))]
  | succ d ih =>
    intro i n w hi hn h
    obtain ⟨n, rfl⟩ : ∃ m, n = m + 1 := ⟨n - 1, by omega⟩
    obtain ⟨h1, h2, ⟨f, h3, h4⟩, h5, h6⟩ := id h
    have g1 : x_getr w b 4 0 = some (some (b + 1)) := by simp [x_getr, x_get, h2, x_vr]
    have l1 : x_len w (b + 1) = some (nI 6) := by simp [x_len, h3]
    obtain ⟨w1, e1, a1, s1, b1⟩ := al_ex w (.inr (3, [.int 0, .int 0, .null]))
    rw [h1] at a1 s1 b1
    obtain ⟨w2, e2, s2, l2, b2⟩ := X3_ini (a := b + 2 + 2 * i) a1 s1
    have c1 : w2.2 (b + 1) = some (.inl (3, 6, .inr (.inr (.inr (.inr f))))) := by rw [b2 _ (by omega), b1 _ (by omega)]; exact h3
    have e3 : x_ast w2 (b + 1) 3 (nI i) (b + 2 + 2 * i) = some (xset w2 (b + 1) (.inl (3, 6, .inr (.inr (.inr (.inr (va_up f i (some (b + 2 + 2 * i))))))))) := by
      have o2 : x_isO w2 (b + 2 + 2 * i) (x_comp 3) = true := l2.o
      simp only [x_ast, c1]
      rw [if_pos ⟨trivial, nI_in (N := 6) (by omega) (by decide), o2⟩, nI_clamp (by omega)]
    have nb : ∀ q, q ≠ b + 1 → (xset w2 (b + 1) (.inl (3, 6, .inr (.inr (.inr (.inr (va_up f i (some (b + 2 + 2 * i))))))))).2 q = w2.2 q := fun q hq => xset_ne hq
    obtain ⟨w4, e4, q4⟩ := ih (i + 1) n (xset w2 (b + 1) (.inl (3, 6, .inr (.inr (.inr (.inr (va_up f i (some (b + 2 + 2 * i))))))))) (by omega) (by omega) ⟨by rw [xset_1]; omega, by rw [nb _ (by omega), b2 _ (by omega), b1 _ (by omega)]; exact h2, ⟨_, xset_at _ _ _, fun j hj => by
      rw [vaup_at]
      by_cases hji : j = i
      · rw [if_pos hji, hji]
      · rw [if_neg hji]; exact h4 j (by omega)⟩, fun j hj => by
      by_cases hji : j = i
      · subst hji
        exact l2.up (nb _ (by omega)) (nb _ (by omega))
      · exact (h5 j (by omega)).up (by rw [nb _ (by omega), b2 _ (by omega), b1 _ (by omega)]) (by rw [nb _ (by omega), b2 _ (by omega), b1 _ (by omega)]), fun q hq => by rw [nb _ (by omega), b2 _ (by omega), b1 _ (by omega)]; exact h6 q hq⟩
    refine ⟨w4, ?_, q4⟩
    simp only [f_X4_init_L30, g1, ob, oe, l1]
    rw [if_neg (nI_ge (show i < 6 by omega) (by omega)), e1, ob, h1, e2, ob, e3, ob, ← nI_succ]
    exact e4
theorem X4_ini (h : w.2 b = some (.inr (4, [.null, .int 0, .int 0, .int 0]))) (hs : w.1 = b + 1) : ∃ w', f_X4_init b w = some w' ∧ w'.1 = b + 14 ∧ LsAt w' b g0 ∧ ∀ q, q < b → w'.2 q = w.2 q := by
  obtain ⟨w1, w2, e1, e2, a2, c2, s2, b2⟩ := ap_ex (k := 0) h (by omega) (by decide) (.inl (3, 6, .inr (.inr (.inr (.inr (fun _ => none))))))
  rw [hs] at a2 c2 s2 b2
  obtain ⟨w3, e3, a3, s3, b3⟩ := put_ex (k := 1) a2 (by simp) (.int 0)
  obtain ⟨w4, e4, a4, s4, b4⟩ := put_ex (k := 2) a3 (by simp) (.int 0)
  obtain ⟨w5, e5, a5, s5, b5⟩ := put_ex (k := 3) a4 (by simp) (.int 0)
  obtain ⟨w6, e6, h1, h2, ⟨f, h3, h4⟩, h5, h6⟩ := X4_ini_L (w0 := w) (b := b) 6 0 7 w5 (by omega) (by omega) ⟨by omega, a5, ⟨_, by rw [b5 _ (by omega), b4 _ (by omega), b3 _ (by omega)]; exact c2, fun j hj => absurd hj (Nat.not_lt_zero j)⟩, fun j hj => absurd hj (Nat.not_lt_zero j), fun q hq => by rw [b5 _ (by omega), b4 _ (by omega), b3 _ (by omega), b2 _ (by omega) (by omega)]⟩
  refine ⟨w6, ?_, by omega, ⟨⟨f, h2, h3, h4⟩, h5, by show 0 ≤ 6; omega, fun i hi => hi, fun i j _ _ he => he, fun j hj => ⟨show x_nar 1 110 = 110 by decide, show x_nar 2 1 = 1 by decide⟩, fun j c _ _ => Or.inr ⟨0, by omega, rfl⟩⟩, h6⟩
  unfold f_X4_init
  rw [e1, ob, hs]
  rw [hs] at e2
  rw [e2, ob, e3, ob, e4, ob, e5, ob]
  exact e6
/-- while the ring is made -/
def MkH (w0 w : xW) (h i : Nat) : Prop := w.1 = h + 2 + 14 * i ∧ w.2 h = some (.inr (2, [.ref (h + 1), .int 0, .int 0])) ∧ (∃ f : Nat → Option Nat, w.2 (h + 1) = some (.inl (4, 9, .inr (.inr (.inr (.inr f))))) ∧ ∀ j, j < i → f j = some (h + 2 + 14 * j)) ∧ (∀ j, j < i → LsAt w (h + 2 + 14 * j) g0) ∧ ∀ q, q < h → w.2 q = w0.2 q
theorem X2_ini_L {w0 : xW} {h : Nat} : ∀ (d i n : Nat) (w : xW), i + d = 9 → d < n → MkH w0 w h i → ∃ w', f_X2_init_L25 n h (nI i) w = some w' ∧ MkH w0 w' h 9 := by
  intro d
  induction d with
  | zero =>
    intro i n w hi hn hh
    obtain ⟨n, rfl⟩ : ∃ m, n = m + 1 := ⟨n - 1, by omega⟩
    obtain rfl : i = 9 := by omega
    obtain ⟨h1, h2, ⟨f, h3, h4⟩, h5, h6⟩ := id hh
    refine ⟨w, ?_, hh⟩
    have g1 : x_getr w h 2 0 = some (some (h + 1)) := by simp [x_getr, x_get, h2, x_vr]
    have l1 : x_len w (h + 1) = some (nI 9) := by simp [x_len, h3]
    simp only [f_X2_init_L25, g1, ob, oe, l1]
    rw [if_pos (nI_le (Nat.le_refl 9) (by omega))]
  | succ d ih =>
    intro i n w hi hn hh
    obtain ⟨n, rfl⟩ : ∃ m, n = m + 1 := ⟨n - 1, by omega⟩
    obtain ⟨h1, h2, ⟨f, h3, h4⟩, h5, h6⟩ := id hh
    have g1 : x_getr w h 2 0 = some (some (h + 1)) := by simp [x_getr, x_get, h2, x_vr]
    have l1 : x_len w (h + 1) = some (nI 9) := by simp [x_len, h3]
    obtain ⟨w1, e1, a1, s1, b1⟩ := al_ex w (.inr (4, [.null, .int 0, .int 0, .int 0]))
    rw [h1] at a1 s1 b1
    obtain ⟨w2, e2, s2, l2, b2⟩ := X4_ini (b := h + 2 + 14 * i) a1 s1
    have c1 : w2.2 (h + 1) = some (.inl (4, 9, .inr (.inr (.inr (.inr f))))) := by rw [b2 _ (by omega), b1 _ (by omega)]; exact h3
    have e3 : x_ast w2 (h + 1) 4 (nI i) (h + 2 + 14 * i) = some (xset w2 (h + 1) (.inl (4, 9, .inr (.inr (.inr (.inr (va_up f i (some (h + 2 + 14 * i))))))))) := by
      have o2 : x_isO w2 (h + 2 + 14 * i) (x_comp 4) = true := l2.o
      simp only [x_ast, c1]
      rw [if_pos ⟨trivial, nI_in (N := 9) (by omega) (by decide), o2⟩, nI_clamp (by omega)]
    have nb : ∀ q, q ≠ h + 1 → (xset w2 (h + 1) (.inl (4, 9, .inr (.inr (.inr (.inr (va_up f i (some (h + 2 + 14 * i))))))))).2 q = w2.2 q := fun q hq => xset_ne hq
    obtain ⟨w4, e4, q4⟩ := ih (i + 1) n (xset w2 (h + 1) (.inl (4, 9, .inr (.inr (.inr (.inr (va_up f i (some (h + 2 + 14 * i))))))))) (by omega) (by omega) ⟨by rw [xset_1]; omega, by rw [nb _ (by omega), b2 _ (by omega), b1 _ (by omega)]; exact h2, ⟨_, xset_at _ _ _, fun j hj => by
      rw [vaup_at]
      by_cases hji : j = i
      · rw [if_pos hji, hji]
      · rw [if_neg hji]; exact h4 j (by omega)⟩, fun j hj => by
      by_cases hji : j = i
      · subst hji
        exact l2.up (fun q hq => nb _ (by unfold blk at hq; omega))
      · exact (h5 j (by omega)).up (fun q hq => by unfold blk at hq; rw [nb _ (by omega), b2 _ (by omega), b1 _ (by omega)]), fun q hq => by rw [nb _ (by omega), b2 _ (by omega), b1 _ (by omega)]; exact h6 q hq⟩
    refine ⟨w4, ?_, q4⟩
    simp only [f_X2_init_L25, g1, ob, oe, l1]
    rw [if_neg (nI_ge (show i < 9 by omega) (by omega)), e1, ob, h1, e2, ob, e3, ob, ← nI_succ]
    exact e4
theorem X2_ini {h : Nat} (hh : w.2 h = some (.inr (2, [.null, .int 0, .int 0]))) (hs : w.1 = h + 1) : ∃ w', f_X2_init h w = some w' ∧ w'.1 = h + 128 ∧ HiAt w' h 0 0 (fun _ => g0) ∧ ∀ q, q < h → w'.2 q = w.2 q := by
  obtain ⟨w1, w2, e1, e2, a2, c2, s2, b2⟩ := ap_ex (k := 0) hh (by omega) (by decide) (.inl (4, 9, .inr (.inr (.inr (.inr (fun _ => none))))))
  rw [hs] at a2 c2 s2 b2
  obtain ⟨w3, e3, a3, s3, b3⟩ := put_ex (k := 1) a2 (by simp) (.int 0)
  obtain ⟨w4, e4, a4, s4, b4⟩ := put_ex (k := 2) a3 (by simp) (.int 0)
  obtain ⟨w6, e6, h1, h2, ⟨f, h3, h4⟩, h5, h6⟩ := X2_ini_L (w0 := w) (h := h) 9 0 10 w4 (by omega) (by omega) ⟨by omega, a4, ⟨_, by rw [b4 _ (by omega), b3 _ (by omega)]; exact c2, fun j hj => absurd hj (Nat.not_lt_zero j)⟩, fun j hj => absurd hj (Nat.not_lt_zero j), fun q hq => by rw [b4 _ (by omega), b3 _ (by omega), b2 _ (by omega) (by omega)]⟩
  refine ⟨w6, ?_, by omega, ⟨⟨f, h2, h3, h4⟩, h5, by omega, by omega⟩, h6⟩
  unfold f_X2_init
  rw [e1, ob, hs]
  rw [hs] at e2
  rw [e2, ob, e3, ob, e4, ob]
  exact e6
end IN
