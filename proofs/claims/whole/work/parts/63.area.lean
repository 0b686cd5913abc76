/-! ===== areas: what all ways of counting rest on ===== -/
theorem cnt_one_in {q n : Nat} (hq : q < n) (p : Nat → Bool) (hp : p q = true) : cnt n p = cnt n (fun k => p k && !(k == q)) + 1 := by
  have h := cnt_one (q := q) (p := p) (p' := fun k => p k && !(k == q)) (fun k hk => by simp [hk]) n hq
  simp [hp] at h
  omega
/-- as many at most, if the map keeps them apart -/
theorem cnt_inj {f : Nat → Nat} (m : Nat) : ∀ (n : Nat) (p q : Nat → Bool), (∀ x, x < n → p x = true → f x < m ∧ q (f x) = true) → (∀ x y, x < n → y < n → p x = true → p y = true → f x = f y → x = y) → cnt n p ≤ cnt m q
  | 0, p, q, _, _ => Nat.zero_le _
  | n + 1, p, q, hf, hi => by
    rw [cnt_succ]
    by_cases hp : p n = true
    · obtain ⟨h1, h2⟩ := hf n (Nat.lt_succ_self n) hp
      rw [if_pos hp, cnt_one_in h1 q h2]
      refine Nat.add_le_add_right (cnt_inj m n p _ (fun x hx hpx => ?_) (fun x y hx hy => hi x y (by omega) (by omega))) 1
      obtain ⟨h3, h4⟩ := hf x (by omega) hpx
      refine ⟨h3, ?_⟩
      have hne : f x ≠ f n := fun hc => by
        have := hi x n (by omega) (by omega) hpx hp hc
        omega
      simp [h4, hne]
    · rw [if_neg hp]
      exact cnt_inj m n p q (fun x hx => hf x (by omega)) (fun x y hx hy => hi x y (by omega) (by omega))
theorem cnt_pos {n q : Nat} {p : Nat → Bool} (hq : q < n) (hp : p q = true) : 0 < cnt n p := by
  rw [cnt_one_in hq p hp]
  omega
theorem cnt_full {n : Nat} {p : Nat → Bool} (h : n ≤ cnt n p) {q : Nat} (hq : q < n) : p q = true := by
  cases hp : p q with
  | true => rfl
  | false =>
    exfalso
    have h1 : cnt n (fun k => if k = q then true else p k) + (if p q = true then 1 else 0) = cnt n p + (if (if q = q then true else p q) = true then 1 else 0) := cnt_one (q := q) (p := p) (p' := fun k => if k = q then true else p k) (fun k hk => if_neg hk) n hq
    rw [if_neg (show ¬ p q = true by rw [hp]; decide), if_pos (show (if q = q then true else p q) = true from if_pos rfl)] at h1
    have h2 := cnt_le n (fun k => if k = q then true else p k)
    omega
/-- the second cell stands left of the first, or above it, and has its tone -/
def Edg (T : Nat → Int32) (x y : Nat) : Prop := x < 48 ∧ y < 48 ∧ T x = T y ∧ ((0 < x % 8 ∧ y + 1 = x) ∨ y + 8 = x)
/-- a set that no area crosses -/
def Clo (T : Nat → Int32) (P : Nat → Bool) : Prop := ∀ x y, Edg T x y → P x = P y
/-- each cell is given a cell of its area, the same one for all -/
def Lab (T : Nat → Int32) (lab : Nat → Nat) : Prop := (∀ x, x < 48 → lab x ≤ x) ∧ (∀ P, Clo T P → ∀ x, x < 48 → P x = P (lab x)) ∧ ∀ x y, Edg T x y → lab x = lab y
theorem Lab.clo {T : Nat → Int32} {lab : Nat → Nat} (h : Lab T lab) (f : Nat → Bool) : Clo T (fun x => f (lab x)) := fun x y hxy => by
  show f (lab x) = f (lab y)
  rw [h.2.2 x y hxy]
theorem Lab.idem {T : Nat → Int32} {lab : Nat → Nat} (h : Lab T lab) {x : Nat} (hx : x < 48) : lab (lab x) = lab x := by
  have h1 := h.2.1 _ (h.clo (fun z => z == lab x)) x hx
  have h2 : (lab (lab x) == lab x) = true := h1.symm.trans (by simp)
  exact beq_iff_eq.mp h2
theorem Lab.lt {T : Nat → Int32} {lab : Nat → Nat} (h : Lab T lab) {x : Nat} (hx : x < 48) : lab x < 48 := Nat.lt_of_le_of_lt (h.1 x hx) hx
/-- two ways of giving: as many cells stand for areas -/
theorem Lab.count_le {T : Nat → Int32} {lab lab' : Nat → Nat} (h1 : ∀ x, x < 48 → lab x < 48) (h2 : ∀ P, Clo T P → ∀ x, x < 48 → P x = P (lab x)) (h3 : ∀ x y, Edg T x y → lab x = lab y)
    (k1 : ∀ x, x < 48 → lab' x < 48) (k2 : ∀ P, Clo T P → ∀ x, x < 48 → P x = P (lab' x)) (k3 : ∀ x y, Edg T x y → lab' x = lab' y) : cnt 48 (fun x => lab x == x) ≤ cnt 48 (fun x => lab' x == x) := by
  have ck : ∀ f : Nat → Bool, Clo T (fun x => f (lab' x)) := fun f x y hxy => by
    show f (lab' x) = f (lab' y)
    rw [k3 x y hxy]
  have ch : ∀ f : Nat → Bool, Clo T (fun x => f (lab x)) := fun f x y hxy => by
    show f (lab x) = f (lab y)
    rw [h3 x y hxy]
  refine cnt_inj (f := lab') 48 48 _ _ (fun x hx _ => ⟨k1 x hx, ?_⟩) (fun x y hx hy hpx hpy he => ?_)
  · have := k2 _ (ck (fun z => z == lab' x)) x hx
    exact this.symm.trans (by simp)
  · have hx' : lab x = x := beq_iff_eq.mp hpx
    have hy' : lab y = y := beq_iff_eq.mp hpy
    have e1 := k2 _ (ch (fun z => z == x)) x hx
    have e2 := k2 _ (ch (fun z => z == x)) y hy
    have e3 : (lab y == x) = true := by
      rw [e2, ← he, ← e1, hx']
      simp
    have := beq_iff_eq.mp e3
    omega
/-- cells that touch -/
def Nbr (x y : Nat) : Prop := (0 < x % 8 ∧ y + 1 = x) ∨ (x % 8 < 7 ∧ y = x + 1) ∨ y + 8 = x ∨ y = x + 8
theorem Nbr.edg {T : Nat → Int32} {x y : Nat} (h : Nbr x y) (hx : x < 48) (hy : y < 48) (ht : T x = T y) : Edg T x y ∨ Edg T y x := by
  rcases h with h | h | h | h
  · exact Or.inl ⟨hx, hy, ht, Or.inl h⟩
  · exact Or.inr ⟨hy, hx, ht.symm, Or.inl ⟨by omega, by omega⟩⟩
  · exact Or.inl ⟨hx, hy, ht, Or.inr h⟩
  · exact Or.inr ⟨hy, hx, ht.symm, Or.inr (by omega)⟩
theorem Edg.nbr {T : Nat → Int32} {x y : Nat} (h : Edg T x y) : Nbr x y ∧ Nbr y x := by
  obtain ⟨h1, h2, h3, h4⟩ := h
  rcases h4 with h4 | h4
  · exact ⟨Or.inl h4, Or.inr (Or.inl ⟨by omega, by omega⟩)⟩
  · exact ⟨Or.inr (Or.inr (Or.inl h4)), Or.inr (Or.inr (Or.inr (by omega)))⟩
theorem nI_col : ∀ k, k < 48 → nI k - nI k / 8 * 8 = nI (k % 8) := by decide +kernel
theorem nI_row : ∀ k, k < 48 → nI k / 8 = nI (k / 8) := by decide +kernel
