/-! ===== areas: filled ===== -/
section X1f
variable {w : xW} {a : Nat} {f : FW}
theorem FwAt.lR (h : FwAt w a f) : x_len w (a + 3) = some (nI 48) := len_of h.2.2.2.1 (by omega)
theorem FwAt.ldR (h : FwAt w a f) {k : Nat} (hk : k < 48) : x_ild w (a + 3) 2 (nI k) = some (f.re k) := ild_of h.2.2.2.1 hk (by omega)
theorem FwAt.lQ (h : FwAt w a f) : x_len w (a + 4) = some (nI 48) := len_of h.2.2.2.2.1 (by omega)
theorem FwAt.ldQ (h : FwAt w a f) {k : Nat} (hk : k < 48) : x_ild w (a + 4) 0 (nI k) = some (f.qu k) := ild_of h.2.2.2.2.1 hk (by omega)
def FW.sR (f : FW) (u : Nat → Int32) : FW := FW.mk f.T f.tb u f.qu f.q f.pa
def FW.sQ (f : FW) (u : Nat → Int32) : FW := FW.mk f.T f.tb f.re u f.q f.pa
def FW.sq (f : FW) (v : Int32) : FW := FW.mk f.T f.tb f.re f.qu v f.pa
theorem FwAt.sR (h : FwAt w a f) (u : Nat → Int32) : FwAt (xset w (a + 3) (.inl (2, 48, .inl u))) a (f.sR u) :=
  ⟨(xset_ne (by omega)).trans h.1, (xset_ne (by omega)).trans h.2.1, (xset_ne (by omega)).trans h.2.2.1, xset_at _ _ _, (xset_ne (by omega)).trans h.2.2.2.2.1, (xset_ne (by omega)).trans h.2.2.2.2.2⟩
theorem FwAt.sQ (h : FwAt w a f) (u : Nat → Int32) : FwAt (xset w (a + 4) (.inl (0, 48, .inl u))) a (f.sQ u) :=
  ⟨(xset_ne (by omega)).trans h.1, (xset_ne (by omega)).trans h.2.1, (xset_ne (by omega)).trans h.2.2.1, (xset_ne (by omega)).trans h.2.2.2.1, xset_at _ _ _, (xset_ne (by omega)).trans h.2.2.2.2.2⟩
theorem FwAt.sq (h : FwAt w a f) (v : Int32) : FwAt (xset w a (.inr (1, [.ref (a + 1), .ref (a + 2), .ref (a + 3), .ref (a + 4), .int v, .ref (a + 5)]))) a (f.sq v) :=
  ⟨xset_at _ _ _, (xset_ne (by omega)).trans h.2.1, (xset_ne (by omega)).trans h.2.2.1, (xset_ne (by omega)).trans h.2.2.2.1, (xset_ne (by omega)).trans h.2.2.2.2.1, (xset_ne (by omega)).trans h.2.2.2.2.2⟩
theorem FwAt.p4 (h : FwAt w a f) (v : Int32) : x_put w a 1 4 (.int v) = some (xset w a (.inr (1, [.ref (a + 1), .ref (a + 2), .ref (a + 3), .ref (a + 4), .int v, .ref (a + 5)]))) := by simp [x_put, h.1]
theorem FwAt.stR (h : FwAt w a f) {k : Nat} (hk : k < 48) (x : Int32) : x_ist w (a + 3) 2 (nI k) x = some (xset w (a + 3) (.inl (2, 48, .inl (upd f.re k (x_nar 2 x))))) := ist_of h.2.2.2.1 hk (by omega) x
theorem FwAt.stQ (h : FwAt w a f) {k : Nat} (hk : k < 48) (x : Int32) : x_ist w (a + 4) 0 (nI k) x = some (xset w (a + 4) (.inl (0, 48, .inl (upd f.qu k x)))) := ist_of h.2.2.2.2.1 hk (by omega) x
/-- which cells are reached -/
def reB (f : FW) (ρ : Nat → Bool) : Prop := ∀ x, x < 48 → f.re x = if ρ x = true then 1 else 0
/-- the same tones, the same table -/
def Sam (f f' : FW) : Prop := f'.T = f.T ∧ f'.tb = f.tb
theorem Sam.tr {f g h : FW} (a : Sam f g) (b : Sam g h) : Sam f h := ⟨b.1.trans a.1, b.2.trans a.2⟩
theorem X1_nothing_L (h : FwAt w a f) : ∀ (d k n : Nat) (u : Nat → Int32), k + d = 48 → d < n →
    f_X1_reachNothing_L2 n a (nI k) (xset w (a + 3) (.inl (2, 48, .inl u))) = x_ret () (xset w (a + 3) (.inl (2, 48, .inl ((List.range' k d).foldl (fun u c => if true = true then upd u c 0 else u) u)))) := by
  intro d
  induction d with
  | zero =>
    intro k n u hk hn
    obtain ⟨n, rfl⟩ : ∃ m, n = m + 1 := ⟨n - 1, by omega⟩
    have h1 := h.sR u
    simp only [f_X1_reachNothing_L2, h1.g2, h1.lR, ob, oe]
    rw [if_pos (nI_le (by omega) (by omega))]
    rfl
  | succ d ih =>
    intro k n u hk hn
    obtain ⟨n, rfl⟩ : ∃ m, n = m + 1 := ⟨n - 1, by omega⟩
    have h1 := h.sR u
    simp only [f_X1_reachNothing_L2, h1.g2, h1.lR, ob, oe, h1.stR (show k < 48 by omega), xset_set, show x_nar 2 0 = 0 by decide]
    rw [if_neg (nI_ge (by omega) (by omega)), ← nI_succ k]
    exact ih (k + 1) n (upd u k 0) (by omega) (by omega)
theorem X1_reachNothing (h : FwAt w a f) : ∃ w' f', f_X1_reachNothing a w = x_ret () w' ∧ FwAt w' a f' ∧ Sam f f' ∧ reB f' (fun _ => false) ∧ Fr (fwc a) w w' := by
  have h1 := X1_nothing_L h 48 0 xfuel f.re (by omega) (by unfold xfuel; omega)
  rw [xset_self h.2.2.2.1, fo_R, fo_upd (fun _ => true) (fun _ => 0) f.re 48, nI_0] at h1
  refine ⟨_, _, h1, h.sR _, ⟨rfl, rfl⟩, fun x hx => ?_, Fr.set ⟨by omega, by omega⟩⟩
  show (if x < 48 ∧ true = true then 0 else f.re x) = _
  rw [if_pos ⟨hx, rfl⟩]
  rfl
/-- while an area is filled: n cells in the queue m, the reached ones ρ, those before r0 -/
def Flg (T : Nat → Int32) (lab : Nat → Nat) (s : Nat) (r0 : Nat → Bool) (f : FW) (n : Nat) (m : Nat → Nat) (ρ : Nat → Bool) : Prop :=
  f.q = nI n ∧ n ≤ 48 ∧ (∀ x, x < 48 → f.T x = T x) ∧ (∀ j, j < n → m j < 48 ∧ f.qu j = nI (m j) ∧ lab (m j) = lab s ∧ r0 (m j) = false ∧ T (m j) = T s) ∧ reB f ρ ∧
  (∀ x, x < 48 → (ρ x = true ↔ r0 x = true ∨ ∃ j, j < n ∧ m j = x)) ∧ n + cnt 48 r0 = cnt 48 ρ
/-- more has been reached since -/
def Mor (n : Nat) (m : Nat → Nat) (ρ : Nat → Bool) (n' : Nat) (m' : Nat → Nat) (ρ' : Nat → Bool) : Prop := n ≤ n' ∧ (∀ j, j < n → m' j = m j) ∧ ∀ x, ρ x = true → ρ' x = true
theorem Mor.rf {n : Nat} {m : Nat → Nat} {ρ : Nat → Bool} : Mor n m ρ n m ρ := ⟨Nat.le_refl _, fun _ _ => rfl, fun _ h => h⟩
theorem Mor.tr {n n' n'' : Nat} {m m' m'' : Nat → Nat} {ρ ρ' ρ'' : Nat → Bool} (h : Mor n m ρ n' m' ρ') (k : Mor n' m' ρ' n'' m'' ρ'') : Mor n m ρ n'' m'' ρ'' := ⟨Nat.le_trans h.1 k.1, fun j hj => (k.2.1 j (Nat.lt_of_lt_of_le hj h.1)).trans (h.2.1 j hj), fun x hx => k.2.2 x (h.2.2 x hx)⟩
/-- a cell is reached -/
theorem X1_reach {T : Nat → Int32} {lab : Nat → Nat} {s : Nat} {r0 : Nat → Bool} {n : Nat} {m : Nat → Nat} {ρ : Nat → Bool} (h : FwAt w a f) (k : Flg T lab s r0 f n m ρ) {y : Nat} (hy : y < 48) (hl : T y = T s → lab y = lab s) :
    ∃ w' f' n' m' ρ', f_X1_reach a (nI y) (T s) w = x_ret () w' ∧ FwAt w' a f' ∧ Sam f f' ∧ Flg T lab s r0 f' n' m' ρ' ∧ Mor n m ρ n' m' ρ' ∧ (T y = T s → ρ' y = true) ∧ Fr (fwc a) w w' := by
  obtain ⟨k1, k2, k3, k4, k5, k6, k7⟩ := id k
  simp only [f_X1_reach, h.g2, h.lR, ob, oe, h.g4, k1, h.g3, h.lQ, h.ldR hy, h.o, if_true, X1_toneAt h hy, x_br]
  rw [if_neg (nI_pos (by omega)), if_neg (nI_ge hy (by omega)), if_neg (nI_pos (by omega))]
  by_cases hn : n < 48
  · rw [if_pos (nI_lt hn (by omega)), k5 y hy]
    by_cases hr : ρ y = true
    · rw [if_pos hr, if_neg (by decide)]
      exact ⟨w, f, n, m, ρ, rfl, h, ⟨rfl, rfl⟩, k, Mor.rf, fun _ => hr, Fr.rf⟩
    · rw [if_neg hr, if_pos rfl, k3 y hy]
      by_cases ht : T y = T s
      · rw [if_pos ht]
        have h1 := h.sR (upd f.re y 1)
        have h2 := h1.sQ (upd f.qu n (nI y))
        have h3 := h2.sq (nI (n + 1))
        have e1 : x_ist (xset w (a + 3) (.inl (2, 48, .inl (upd f.re y 1)))) (a + 4) 0 (nI n) (nI y) = some (xset (xset w (a + 3) (.inl (2, 48, .inl (upd f.re y 1)))) (a + 4) (.inl (0, 48, .inl (upd f.qu n (nI y))))) := h1.stQ hn (nI y)
        have e2 : x_geti (xset w (a + 3) (.inl (2, 48, .inl (upd f.re y 1)))) a 1 4 = some (nI n) := by
          rw [← k1]
          exact h1.g4
        have e3 : x_geti (xset (xset w (a + 3) (.inl (2, 48, .inl (upd f.re y 1)))) (a + 4) (.inl (0, 48, .inl (upd f.qu n (nI y))))) a 1 4 = some (nI n) := by
          rw [← k1]
          exact h2.g4
        have hρy : ρ y = false := by simpa using hr
        have hr0 : r0 y = false := by
          cases h0 : r0 y with
          | false => rfl
          | true => exact absurd ((k6 y hy).mpr (Or.inl h0)) hr
        refine ⟨_, _, n + 1, fun j => if j = n then y else m j, fun x => if x = y then true else ρ x, ?_, h3, ⟨rfl, rfl⟩, ⟨rfl, by omega, k3, fun j hj => ?_, fun x hx => ?_, fun x hx => ?_, ?_⟩, ⟨by omega, fun j hj => if_neg (by omega), fun x hx => ?_⟩, fun _ => if_pos rfl, ((Fr.set ⟨by omega, by omega⟩).tr (Fr.set ⟨by omega, by omega⟩)).tr (Fr.set ⟨by omega, by omega⟩)⟩
        · rw [h.stR hy, ob, show x_nar 2 1 = 1 by decide, h1.g3, ob, e2, ob, oe, e1, ob, e3, ob, ← nI_succ, h2.p4, ob]
        · show (if j = n then y else m j) < 48 ∧ (if j = n then nI y else f.qu j) = nI (if j = n then y else m j) ∧ lab (if j = n then y else m j) = lab s ∧ r0 (if j = n then y else m j) = false ∧ T (if j = n then y else m j) = T s
          by_cases hjn : j = n
          · simp only [if_pos hjn]
            exact ⟨hy, trivial, hl ht, hr0, ht⟩
          · simp only [if_neg hjn]
            exact k4 j (by omega)
        · show (if x = y then 1 else f.re x) = if (if x = y then true else ρ x) = true then 1 else 0
          by_cases hxy : x = y
          · rw [if_pos hxy, if_pos hxy, if_pos rfl]
          · rw [if_neg hxy, if_neg hxy]
            exact k5 x hx
        · show (if x = y then true else ρ x) = true ↔ r0 x = true ∨ ∃ j, j < n + 1 ∧ (if j = n then y else m j) = x
          by_cases hxy : x = y
          · rw [if_pos hxy]
            exact ⟨fun _ => Or.inr ⟨n, by omega, by rw [if_pos rfl, hxy]⟩, fun _ => rfl⟩
          · rw [if_neg hxy, k6 x hx]
            constructor
            · rintro (h9 | ⟨j, hj, he⟩)
              · exact Or.inl h9
              · exact Or.inr ⟨j, by omega, by rw [if_neg (by omega)]; exact he⟩
            · rintro (h9 | ⟨j, hj, he⟩)
              · exact Or.inl h9
              · by_cases hjn : j = n
                · rw [if_pos hjn] at he
                  exact absurd he.symm hxy
                · rw [if_neg hjn] at he
                  exact Or.inr ⟨j, by omega, he⟩
        · have h9 : cnt 48 (fun x => if x = y then true else ρ x) + (if ρ y = true then 1 else 0) = cnt 48 ρ + (if (if y = y then true else ρ y) = true then 1 else 0) := cnt_one (q := y) (p := ρ) (p' := fun x => if x = y then true else ρ x) (fun k hk => if_neg hk) 48 hy
          rw [if_neg hr, if_pos (show (if y = y then true else ρ y) = true from if_pos rfl)] at h9
          omega
        · show (if x = y then true else ρ x) = true
          by_cases hxy : x = y
          · rw [if_pos hxy]
          · rw [if_neg hxy]; exact hx
      · rw [if_neg ht]
        exact ⟨w, f, n, m, ρ, rfl, h, ⟨rfl, rfl⟩, k, Mor.rf, fun hc => absurd hc ht, Fr.rf⟩
  · rw [if_neg (nI_nlt (by omega) (by omega))]
    exact ⟨w, f, n, m, ρ, rfl, h, ⟨rfl, rfl⟩, k, Mor.rf, fun _ => cnt_full (by omega) hy, Fr.rf⟩
/-- beyond the wall nothing is reached -/
theorem X1_reach_no (h : FwAt w a f) {x : Int32} (hx : x < 0 ∨ nI 48 ≤ x) (t : Int32) : f_X1_reach a x t w = x_ret () w := by
  simp only [f_X1_reach, h.g2, h.lR, ob, oe]
  by_cases h1 : x < 0
  · rw [if_pos h1]
  · rw [if_neg h1, if_pos (hx.resolve_left h1)]
end X1f
