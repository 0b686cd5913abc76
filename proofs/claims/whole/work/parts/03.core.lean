/-! ===== the worlds of this claim: all cells that the law has made, in one map ===== -/
/-- a cell: an array (the number of its type, what it holds), or an object (the number of its class, its fields) -/
abbrev xE : Type := (Nat × vp_A) ⊕ (Nat × List Value)
/-- a world: how many cells the heap has, and the cells known -/
abbrev xW : Type := Nat × (Nat → Option xE)
/-- what a run fixes: the classes' numbers and slots, the array types' classes, the law's first cell, the literals' cells -/
abbrev xG : Type := va_G × (Nat → ClassId) × Nat × (Nat → Nat) × (Nat → Nat)
abbrev xz (Γ : xG) : Nat := Γ.2.2.1
abbrev xA (Γ : xG) : Nat → Prop := fun q => Γ.2.2.1 ≤ q
def xty : Nat → FieldType := fun k => match k with
  | 0 => .int
  | 1 => .char
  | 2 => .boolean
  | 3 => .object "ShadowWall$Layer"
  | 4 => .object "ShadowWall$Layers"
  | _ => .long
def xtys (Γ : xG) : List (ClassId × FieldType) := [(Γ.2.1 0, xty 0), (Γ.2.1 1, xty 1), (Γ.2.1 2, xty 2), (Γ.2.1 3, xty 3), (Γ.2.1 4, xty 4), (Γ.2.1 5, xty 5)]
abbrev xcl : List vw_C := [(RX0, TX0, 6), (RX1, TX1, 6), (RX2, TX2, 3), (RX3, TX3, 3), (RX4, TX4, 4), (RX5, TX5, 2), (RX6, TX6, 9), (RX7, TX7, 22)]
def xcv (Γ : xG) : xE → va_E
  | .inl a => .inl (Γ.2.1 a.1, a.2)
  | .inr o => .inr o
def xRl (Γ : xG) (w : xW) (H : Heap) : Prop := H.size = w.1 ∧ xz Γ ≤ w.1 ∧ ∀ (a : Nat) (e : xE), w.2 a = some e → xz Γ ≤ a ∧ va_at Γ.1 xcl (a, xcv Γ e) H
def xset (w : xW) (a : Nat) (e : xE) : xW := (w.1, fun q => if q = a then some e else w.2 q)
def xpush (w : xW) (e : xE) : xW := (w.1 + 1, fun q => if q = w.1 then some e else w.2 q)
theorem xRl.lt {Γ : xG} {w : xW} {H : Heap} (h : xRl Γ w H) {a : Nat} {e : xE} (ha : w.2 a = some e) : a < H.size := (h.2.2 a e ha).2.lt
theorem xRl.set {Γ : xG} {w : xW} {H H1 : Heap} (h : xRl Γ w H) {a : Nat} {e0 e : xE} (ha : w.2 a = some e0) (hat : va_at Γ.1 xcl (a, xcv Γ e) H1) (hz : H1.size = H.size) (ho : ∀ q : Nat, q ≠ a → H1[q]? = H[q]?) : xRl Γ (xset w a e) H1 := by
  obtain ⟨h1, h2, h3⟩ := h
  refine ⟨hz.trans h1, h2, fun b e' hb => ?_⟩
  by_cases hba : b = a
  · subst hba
    have : some e = some e' := by simpa [xset] using hb
    cases this
    exact ⟨(h3 _ _ ha).1, hat⟩
  · have hb' : w.2 b = some e' := by simpa [xset, hba] using hb
    exact ⟨(h3 b e' hb').1, (h3 b e' hb').2.kept (ho b hba)⟩
theorem xRl.push {Γ : xG} {w : xW} {H H1 : Heap} (h : xRl Γ w H) {e : xE} (hat : va_at Γ.1 xcl (H.size, xcv Γ e) H1) (hz : H1.size = H.size + 1) (ho : ∀ q : Nat, q < H.size → H1[q]? = H[q]?) : xRl Γ (xpush w e) H1 := by
  have hh := h
  obtain ⟨h1, h2, h3⟩ := h
  refine ⟨by rw [hz, h1]; rfl, Nat.le_succ_of_le h2, fun b e' hb => ?_⟩
  by_cases hba : b = w.1
  · subst hba
    have : some e = some e' := by simpa [xpush] using hb
    cases this
    exact ⟨h2, by rw [← h1]; exact hat⟩
  · have hb' : w.2 b = some e' := by simpa [xpush, hba] using hb
    exact ⟨(h3 b e' hb').1, (h3 b e' hb').2.kept (ho b (hh.lt hb'))⟩
theorem xP1 {D : va_G} {cl : List vw_C} {q : Nat × va_E} {H : Heap} (h : va_at D cl q H) : va_P D cl [q] H := fun k q' hk => by
  have hz : k < 1 := (List.getElem?_eq_some_iff.mp hk).1
  rw [show k = 0 by omega] at hk
  cases hk
  exact h
/-! ===== reads and writes of worlds ===== -/
/-- a field -/
def x_get (w : xW) (a ci k : Nat) : Option Value := match w.2 a with
  | some (.inr (c, fs)) => if c = ci then fs[k]? else none
  | _ => none
def x_vi : Value → Option Int32
  | .int x => some x
  | _ => none
def x_vr : Value → Option (Option Nat)
  | .null => some none
  | .ref a => some (some a)
  | _ => none
def x_geti (w : xW) (a ci k : Nat) : Option Int32 := (x_get w a ci k).bind x_vi
def x_getr (w : xW) (a ci k : Nat) : Option (Option Nat) := (x_get w a ci k).bind x_vr
def x_put (w : xW) (a ci k : Nat) (v : Value) : Option xW := match w.2 a with
  | some (.inr (c, fs)) => if c = ci ∧ k < fs.length then some (xset w a (.inr (c, fs.set k v))) else none
  | _ => none
/-- is there an object of the class ci at a -/
def x_isO (w : xW) (a ci : Nat) : Bool := match w.2 a with
  | some (.inr (c, _)) => c == ci
  | _ => false
def x_len (w : xW) (a : Nat) : Option Int32 := match w.2 a with
  | some (.inl (k, n, _)) => if k ≤ 5 then some (nI n) else none
  | _ => none
/-- an element of an array of ints, chars, booleans (type number t) -/
def x_ild (w : xW) (a t : Nat) (i : Int32) : Option Int32 := match w.2 a with
  | some (.inl (k, n, .inl f)) => if k = t ∧ ¬ (i < 0 ∨ n ≤ i.toNatClampNeg) then some (f i.toNatClampNeg) else none
  | _ => none
def x_nar : Nat → Int32 → Int32 := fun t x => match t with
  | 0 => x
  | 1 => vp_nar .char x
  | _ => vp_nar .boolean x
def x_ist (w : xW) (a t : Nat) (i x : Int32) : Option xW := match w.2 a with
  | some (.inl (k, n, .inl f)) => if k = t ∧ ¬ (i < 0 ∨ n ≤ i.toNatClampNeg) then some (xset w a (.inl (k, n, .inl (upd f i.toNatClampNeg (x_nar t x))))) else none
  | _ => none
def x_lld (w : xW) (a : Nat) (i : Int32) : Option Int64 := match w.2 a with
  | some (.inl (k, n, .inr (.inl f))) => if k = 5 ∧ ¬ (i < 0 ∨ n ≤ i.toNatClampNeg) then some (f i.toNatClampNeg) else none
  | _ => none
def x_lst (w : xW) (a : Nat) (i : Int32) (x : Int64) : Option xW := match w.2 a with
  | some (.inl (k, n, .inr (.inl f))) => if k = 5 ∧ ¬ (i < 0 ∨ n ≤ i.toNatClampNeg) then some (xset w a (.inl (k, n, .inr (.inl (vp_updL f i.toNatClampNeg x))))) else none
  | _ => none
def x_ald (w : xW) (a t : Nat) (i : Int32) : Option (Option Nat) := match w.2 a with
  | some (.inl (k, n, .inr (.inr (.inr (.inr f))))) => if k = t ∧ ¬ (i < 0 ∨ n ≤ i.toNatClampNeg) then some (f i.toNatClampNeg) else none
  | _ => none
/-- the class number of the objects of an array of type t -/
def x_comp : Nat → Nat := fun t => match t with
  | 3 => 3
  | _ => 4
def x_ast (w : xW) (a t : Nat) (i : Int32) (v : Nat) : Option xW := match w.2 a with
  | some (.inl (k, n, .inr (.inr (.inr (.inr f))))) => if k = t ∧ ¬ (i < 0 ∨ n ≤ i.toNatClampNeg) ∧ x_isO w v (x_comp t) = true then some (xset w a (.inl (k, n, .inr (.inr (.inr (.inr (va_up f i.toNatClampNeg (some v)))))))) else none
  | _ => none
/-- System.arraycopy of ints -/
def x_cpy (w : xW) (a : Nat) (sp : Int32) (b : Nat) (dp n : Int32) : Option xW := match w.2 a, w.2 b with
  | some (.inl (k0, n0, .inl f)), some (.inl (k1, n1, .inl g)) => if k0 = 0 ∧ k1 = 0 ∧ ¬ sp < 0 ∧ ¬ dp < 0 ∧ ¬ n < 0 ∧ sp.toNatClampNeg + n.toNatClampNeg ≤ n0 ∧ dp.toNatClampNeg + n.toNatClampNeg ≤ n1 then some (xset w b (.inl (k1, n1, .inl (va_cpy f g sp.toNatClampNeg dp.toNatClampNeg n.toNatClampNeg)))) else none
  | _, _ => none
/-- what a method answers: a value or an exception's class, and the world behind it -/
abbrev xO (α : Type) : Type := Option ((α ⊕ String) × xW)
def x_ret {α : Type} (v : α) (w : xW) : xO α := some (.inl v, w)
def x_thr {α : Type} (E : String) (w : xW) : xO α := some (.inr E, (w.1 + 1, w.2))
def x_bind {α β : Type} (x : xO α) (k : α → xW → xO β) : xO β := match x with
  | none => none
  | some (.inl v, w) => k v w
  | some (.inr E, w) => some (.inr E, w)
/-- an exception caught: E by the handler h, the others go on -/
def x_try {α β : Type} (x : xO α) (k : α → xW → xO β) (h : String → xW → xO β) : xO β := match x with
  | none => none
  | some (.inl v, w) => k v w
  | some (.inr E, w) => h E w
def x_mc {α : Type} : α ⊕ String → Nat
  | .inl _ => 0
  | .inr _ => 1
def x_ms {α : Type} : α ⊕ String → Nat
  | .inl _ => 0
  | .inr _ => 6
theorem x_some {α β : Type} {x : Option α} {k : α → Option β} {r : β} (h : x.bind k = some r) : ∃ v, x = some v ∧ k v = some r := Option.bind_eq_some_iff.mp h
theorem x_if {c : Prop} [Decidable c] {β : Type} {a b : Option β} {r : β} (h : (if c then a else b) = some r) : (c ∧ a = some r) ∨ (¬ c ∧ b = some r) := by
  by_cases hc : c
  · rw [if_pos hc] at h; exact Or.inl ⟨hc, h⟩
  · rw [if_neg hc] at h; exact Or.inr ⟨hc, h⟩
theorem x_get_e {w : xW} {a ci k : Nat} {v : Value} (h : x_get w a ci k = some v) : ∃ fs, w.2 a = some (.inr (ci, fs)) ∧ fs[k]? = some v := by
  unfold x_get at h
  split at h
  · rename_i c fs heq
    split at h
    · rename_i hc
      subst hc
      exact ⟨fs, heq, h⟩
    · cases h
  · cases h
theorem x_geti_e {w : xW} {a ci k : Nat} {x : Int32} (h : x_geti w a ci k = some x) : x_get w a ci k = some (.int x) := by
  obtain ⟨v, h1, h2⟩ := x_some h
  cases v <;> simp [x_vi] at h2
  subst h2
  exact h1
theorem x_getr_e {w : xW} {a ci k : Nat} {x : Option Nat} (h : x_getr w a ci k = some x) : x_get w a ci k = some (va_rf x) := by
  obtain ⟨v, h1, h2⟩ := x_some h
  cases v <;> simp [x_vr] at h2
  · subst h2; exact h1
  · subst h2; exact h1
theorem x_put_e {w w1 : xW} {a ci k : Nat} {v : Value} (h : x_put w a ci k v = some w1) : ∃ fs, w.2 a = some (.inr (ci, fs)) ∧ k < fs.length ∧ w1 = xset w a (.inr (ci, fs.set k v)) := by
  unfold x_put at h
  split at h
  · rename_i c fs heq
    split at h
    · rename_i hc
      obtain ⟨rfl, hk⟩ := hc
      exact ⟨fs, heq, hk, (Option.some.inj h).symm⟩
    · cases h
  · cases h
theorem x_isO_e {w : xW} {a ci : Nat} (h : x_isO w a ci = true) : ∃ fs, w.2 a = some (.inr (ci, fs)) := by
  unfold x_isO at h
  split at h
  · rename_i c fs heq
    have : c = ci := by simpa using h
    subst this
    exact ⟨fs, heq⟩
  · cases h
theorem x_len_e {w : xW} {a : Nat} {x : Int32} (h : x_len w a = some x) : ∃ k n f, w.2 a = some (.inl (k, n, f)) ∧ k ≤ 5 ∧ x = nI n := by
  unfold x_len at h
  split at h
  · rename_i k n f heq
    split at h
    · rename_i hk
      exact ⟨k, n, f, heq, hk, (Option.some.inj h).symm⟩
    · cases h
  · cases h
theorem x_ild_e {w : xW} {a t : Nat} {i x : Int32} (h : x_ild w a t i = some x) : ∃ n f, w.2 a = some (.inl (t, n, .inl f)) ∧ vp_in i n ∧ x = f i.toNatClampNeg := by
  unfold x_ild at h
  split at h
  · rename_i k n f heq
    split at h
    · rename_i hc
      obtain ⟨rfl, hk⟩ := hc
      exact ⟨n, f, heq, hk, (Option.some.inj h).symm⟩
    · cases h
  · cases h
theorem x_ist_e {w w1 : xW} {a t : Nat} {i x : Int32} (h : x_ist w a t i x = some w1) : ∃ n f, w.2 a = some (.inl (t, n, .inl f)) ∧ vp_in i n ∧ w1 = xset w a (.inl (t, n, .inl (upd f i.toNatClampNeg (x_nar t x)))) := by
  unfold x_ist at h
  split at h
  · rename_i k n f heq
    split at h
    · rename_i hc
      obtain ⟨rfl, hk⟩ := hc
      exact ⟨n, f, heq, hk, (Option.some.inj h).symm⟩
    · cases h
  · cases h
theorem x_lld_e {w : xW} {a : Nat} {i : Int32} {x : Int64} (h : x_lld w a i = some x) : ∃ n f, w.2 a = some (.inl (5, n, .inr (.inl f))) ∧ vp_in i n ∧ x = f i.toNatClampNeg := by
  unfold x_lld at h
  split at h
  · rename_i k n f heq
    split at h
    · rename_i hc
      obtain ⟨rfl, hk⟩ := hc
      exact ⟨n, f, heq, hk, (Option.some.inj h).symm⟩
    · cases h
  · cases h
theorem x_lst_e {w w1 : xW} {a : Nat} {i : Int32} {x : Int64} (h : x_lst w a i x = some w1) : ∃ n f, w.2 a = some (.inl (5, n, .inr (.inl f))) ∧ vp_in i n ∧ w1 = xset w a (.inl (5, n, .inr (.inl (vp_updL f i.toNatClampNeg x)))) := by
  unfold x_lst at h
  split at h
  · rename_i k n f heq
    split at h
    · rename_i hc
      obtain ⟨rfl, hk⟩ := hc
      exact ⟨n, f, heq, hk, (Option.some.inj h).symm⟩
    · cases h
  · cases h
theorem x_ald_e {w : xW} {a t : Nat} {i : Int32} {x : Option Nat} (h : x_ald w a t i = some x) : ∃ n f, w.2 a = some (.inl (t, n, .inr (.inr (.inr (.inr f))))) ∧ vp_in i n ∧ x = f i.toNatClampNeg := by
  unfold x_ald at h
  split at h
  · rename_i k n f heq
    split at h
    · rename_i hc
      obtain ⟨rfl, hk⟩ := hc
      exact ⟨n, f, heq, hk, (Option.some.inj h).symm⟩
    · cases h
  · cases h
theorem x_ast_e {w w1 : xW} {a t v : Nat} {i : Int32} (h : x_ast w a t i v = some w1) : ∃ n f, w.2 a = some (.inl (t, n, .inr (.inr (.inr (.inr f))))) ∧ vp_in i n ∧ x_isO w v (x_comp t) = true ∧ w1 = xset w a (.inl (t, n, .inr (.inr (.inr (.inr (va_up f i.toNatClampNeg (some v))))))) := by
  unfold x_ast at h
  split at h
  · rename_i k n f heq
    split at h
    · rename_i hc
      obtain ⟨rfl, hk, ho⟩ := hc
      exact ⟨n, f, heq, hk, ho, (Option.some.inj h).symm⟩
    · cases h
  · cases h
theorem x_cpy_e {w w1 : xW} {a b : Nat} {sp dp n : Int32} (h : x_cpy w a sp b dp n = some w1) : ∃ n0 f n1 g, w.2 a = some (.inl (0, n0, .inl f)) ∧ w.2 b = some (.inl (0, n1, .inl g)) ∧ ¬ sp < 0 ∧ ¬ dp < 0 ∧ ¬ n < 0 ∧ sp.toNatClampNeg + n.toNatClampNeg ≤ n0 ∧ dp.toNatClampNeg + n.toNatClampNeg ≤ n1 ∧ w1 = xset w b (.inl (0, n1, .inl (va_cpy f g sp.toNatClampNeg dp.toNatClampNeg n.toNatClampNeg))) := by
  unfold x_cpy at h
  split at h
  · rename_i k0 n0 f k1 n1 g heq heq1
    split at h
    · rename_i hc
      obtain ⟨rfl, rfl, h1, h2, h3, h4, h5⟩ := hc
      exact ⟨n0, f, n1, g, heq, heq1, h1, h2, h3, h4, h5, (Option.some.inj h).symm⟩
    · cases h
  · cases h
