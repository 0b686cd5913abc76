/-! ===== areas: filled to the end ===== -/
section X1g
variable {w : xW} {a : Nat} {f : FW} {T : Nat → Int32} {lab : Nat → Nat} {s : Nat} {r0 : Nat → Bool} {n : Nat} {m : Nat → Nat} {ρ : Nat → Bool}
/-- a state further on: its world, its cells, what has been reached -/
def Nxt (T : Nat → Int32) (lab : Nat → Nat) (s : Nat) (r0 : Nat → Bool) (a : Nat) (w : xW) (f : FW) (n : Nat) (m : Nat → Nat) (ρ : Nat → Bool) (w' : xW) (f' : FW) (n' : Nat) (m' : Nat → Nat) (ρ' : Nat → Bool) : Prop :=
  FwAt w' a f' ∧ Sam f f' ∧ Flg T lab s r0 f' n' m' ρ' ∧ Mor n m ρ n' m' ρ' ∧ Fr (fwc a) w w'
theorem X1_reachV (L : Lab T lab) (h : FwAt w a f) (k : Flg T lab s r0 f n m ρ) {x : Nat} (hx : x < 48) (hlx : lab x = lab s) (htx : T x = T s) (v : Int32) (hv : ∀ y, y < 48 → v = nI y → Nbr x y) :
    ∃ w' f' n' m' ρ', f_X1_reach a v (T s) w = x_ret () w' ∧ Nxt T lab s r0 a w f n m ρ w' f' n' m' ρ' ∧ ∀ y, y < 48 → v = nI y → T y = T s → ρ' y = true := by
  rcases pos_or (n := 48) (by omega) v with ⟨y, hy, rfl⟩ | hno
  · have hN := hv y hy rfl
    obtain ⟨w', f', n', m', ρ', e, q1, q2, q3, q4, q5, q6⟩ := X1_reach h k hy (fun ht => by
      rcases hN.edg (T := T) hx hy (htx.trans ht.symm) with he | he
      · rw [← hlx, L.2.2 x y he]
      · rw [← hlx, ← L.2.2 y x he])
    refine ⟨w', f', n', m', ρ', e, ⟨q1, q2, q3, q4, q6⟩, fun z hz he ht => ?_⟩
    have : y = z := (nI_eq (by omega) (by omega)).mp he
    subst this
    exact q5 ht
  · refine ⟨w, f, n, m, ρ, X1_reach_no h hno _, ⟨h, ⟨rfl, rfl⟩, k, Mor.rf, Fr.rf⟩, fun y hy he _ => ?_⟩
    subst he
    exact absurd hno (fun hc => hc.elim (nI_pos (by omega)) (nI_ge hy (by omega)))
theorem X1_J81 (L : Lab T lab) (h : FwAt w a f) (k : Flg T lab s r0 f n m ρ) {x : Nat} (hx : x < 48) (hlx : lab x = lab s) (htx : T x = T s) (K : Nat → Int32 → Int32 → xW → xO Int32) (i : Nat) :
    ∃ w' f' n' m' ρ', f_X1_fillAreaAt_J81 K a (T s) (nI i) (nI x) w = K a (T s) (nI (i + 1)) w' ∧ Nxt T lab s r0 a w f n m ρ w' f' n' m' ρ' ∧ ∀ y, y < 48 → (y + 8 = x ∨ y = x + 8) → T y = T s → ρ' y = true := by
  obtain ⟨w1, f1, n1, m1, ρ1, e1, ⟨p1, p2, p3, p4, p5⟩, p6⟩ := X1_reachV L h k hx hlx htx (nI x - 8) (fun y hy he => by
    have : nI x = nI y + 8 := by rw [← he, Int32.sub_add_cancel]
    have : nI x = nI (y + 8) := this.trans (nI_add y 8)
    have := (nI_eq (by omega) (by omega)).mp this
    exact Or.inr (Or.inr (Or.inl this.symm)))
  obtain ⟨w2, f2, n2, m2, ρ2, e2, ⟨q1, q2, q3, q4, q5⟩, q6⟩ := X1_reachV L p1 p3 hx hlx htx (nI x + 8) (fun y hy he => by
    have : nI (x + 8) = nI y := (nI_add x 8).symm.trans he
    have := (nI_eq (by omega) (by omega)).mp this
    exact Or.inr (Or.inr (Or.inr this.symm)))
  refine ⟨w2, f2, n2, m2, ρ2, ?_, ⟨q1, p2.tr q2, q3, p4.tr q4, p5.tr q5⟩, fun y hy hc ht => ?_⟩
  · unfold f_X1_fillAreaAt_J81
    rw [if_pos h.o, e1, x_br, if_pos p1.o, e2, x_br, nI_succ]
  · rcases hc with hc | hc
    · refine q4.2.2 y (p6 y hy ?_ ht)
      rw [← hc]
      show nI (y + 8) - nI 8 = nI y
      rw [nI_sub (by omega), Nat.add_sub_cancel]
    · exact q6 y hy (by rw [hc]; exact nI_add x 8) ht
theorem X1_J65 (L : Lab T lab) (h : FwAt w a f) (k : Flg T lab s r0 f n m ρ) {x : Nat} (hx : x < 48) (hlx : lab x = lab s) (htx : T x = T s) (K : Nat → Int32 → Int32 → xW → xO Int32) (i : Nat) :
    ∃ w' f' n' m' ρ', f_X1_fillAreaAt_J65 K a (T s) (nI i) (nI x) (nI (x % 8)) w = K a (T s) (nI (i + 1)) w' ∧ Nxt T lab s r0 a w f n m ρ w' f' n' m' ρ' ∧ ∀ y, y < 48 → ((x % 8 < 7 ∧ y = x + 1) ∨ y + 8 = x ∨ y = x + 8) → T y = T s → ρ' y = true := by
  unfold f_X1_fillAreaAt_J65
  by_cases h7 : 7 ≤ x % 8
  · rw [if_pos (show (7 : Int32) ≤ nI (x % 8) from nI_le (a := 7) h7 (by omega))]
    obtain ⟨w', f', n', m', ρ', e, q, r⟩ := X1_J81 L h k hx hlx htx K i
    exact ⟨w', f', n', m', ρ', e, q, fun y hy hc ht => r y hy (by omega) ht⟩
  · rw [if_neg (show ¬ (7 : Int32) ≤ nI (x % 8) from nI_ge (b := 7) (by omega) (by omega)), if_pos h.o]
    obtain ⟨w1, f1, n1, m1, ρ1, e1, ⟨p1, p2, p3, p4, p5⟩, p6⟩ := X1_reachV L h k hx hlx htx (nI x + 1) (fun y hy he => by
      have : nI (x + 1) = nI y := (nI_succ x).trans he
      have := (nI_eq (by omega) (by omega)).mp this
      exact Or.inr (Or.inl ⟨by omega, this.symm⟩))
    obtain ⟨w2, f2, n2, m2, ρ2, e2, ⟨q1, q2, q3, q4, q5⟩, q6⟩ := X1_J81 L p1 p3 hx hlx htx K i
    refine ⟨w2, f2, n2, m2, ρ2, by rw [e1, x_br, e2], ⟨q1, p2.tr q2, q3, p4.tr q4, p5.tr q5⟩, fun y hy hc ht => ?_⟩
    rcases hc with hc | hc
    · exact q4.2.2 y (p6 y hy (by rw [hc.2, nI_succ]) ht)
    · exact q6 y hy hc ht
/-- the first k cells of the queue have been seen to -/
def Prc (T : Nat → Int32) (s : Nat) (m : Nat → Nat) (ρ : Nat → Bool) (k : Nat) : Prop := ∀ j, j < k → ∀ y, y < 48 → Nbr (m j) y → T y = T s → ρ y = true
theorem X1_fill_L (L : Lab T lab) : ∀ (d k fu : Nat) (w : xW) (f : FW) (n : Nat) (m : Nat → Nat) (ρ : Nat → Bool), k + d = 48 → d < fu → FwAt w a f → Flg T lab s r0 f n m ρ → k ≤ n → Prc T s m ρ k →
    ∃ w' f' n' m' ρ', f_X1_fillAreaAt_L19 fu a (T s) (nI k) w = x_ret (nI n') w' ∧ Nxt T lab s r0 a w f n m ρ w' f' n' m' ρ' ∧ Prc T s m' ρ' n' := by
  intro d
  induction d with
  | zero =>
    intro k fu w f n m ρ hk hfu h q hkn hp
    obtain ⟨fu, rfl⟩ : ∃ m, fu = m + 1 := ⟨fu - 1, by omega⟩
    have hn := q.2.1
    obtain rfl : n = k := by omega
    refine ⟨w, f, n, m, ρ, ?_, ⟨h, ⟨rfl, rfl⟩, q, Mor.rf, Fr.rf⟩, hp⟩
    simp only [f_X1_fillAreaAt_L19, h.g4, ob, q.1]
    rw [if_pos (nI_le (Nat.le_refl _) (by omega))]
  | succ d ih =>
    intro k fu w f n m ρ hk hfu h q hkn hp
    obtain ⟨fu, rfl⟩ : ∃ m, fu = m + 1 := ⟨fu - 1, by omega⟩
    have hn := q.2.1
    by_cases hkn' : k < n
    · obtain ⟨m1, m2, m3, m4, m5⟩ := q.2.2.2.1 k hkn'
      have key : ∃ w1 f1 n1 m1 ρ1, f_X1_fillAreaAt_L19 (fu + 1) a (T s) (nI k) w = f_X1_fillAreaAt_L19 fu a (T s) (nI (k + 1)) w1 ∧ Nxt T lab s r0 a w f n m ρ w1 f1 n1 m1 ρ1 ∧ ∀ y, y < 48 → Nbr (m k) y → T y = T s → ρ1 y = true := by
        simp only [f_X1_fillAreaAt_L19, h.g4, ob, oe, q.1, h.g3, h.lQ, h.ldQ (show k < 48 by omega), m2, nI_col _ m1]
        rw [if_neg (nI_ge hkn' (by omega)), if_neg (nI_ge (show k < 48 by omega) (by omega))]
        by_cases h0 : 0 < m k % 8
        · rw [if_neg (nI_nle h0 (by omega)), if_pos h.o]
          obtain ⟨w1, f1, n1, mm1, ρ1, e1, ⟨p1, p2, p3, p4, p5⟩, p6⟩ := X1_reachV L h q m1 m3 m5 (nI (m k) - 1) (fun y hy he => by
            have h9 : nI (m k) = nI y + 1 := by rw [← he, Int32.sub_add_cancel]
            have h9 : nI (m k) = nI (y + 1) := h9.trans (nI_succ y).symm
            have h9 := (nI_eq (by omega) (by omega)).mp h9
            exact Or.inl ⟨h0, h9.symm⟩)
          obtain ⟨w2, f2, n2, mm2, ρ2, e2, ⟨q1, q2, q3, q4, q5⟩, q6⟩ := X1_J65 L p1 p3 m1 m3 m5 (fun a0 x2 x3 w => f_X1_fillAreaAt_L19 fu a0 x2 x3 w) k
          refine ⟨w2, f2, n2, mm2, ρ2, by rw [e1, x_br]; exact e2, ⟨q1, p2.tr q2, q3, p4.tr q4, p5.tr q5⟩, fun y hy hN ht => ?_⟩
          rcases hN with hN | hN | hN
          · exact q4.2.2 y (p6 y hy (by rw [← hN.2, nI_pred]) ht)
          · exact q6 y hy (Or.inl hN) ht
          · exact q6 y hy (Or.inr hN) ht
        · rw [if_pos (show nI (m k % 8) ≤ 0 by rw [show m k % 8 = 0 by omega]; decide)]
          obtain ⟨w2, f2, n2, mm2, ρ2, e2, qq, q6⟩ := X1_J65 L h q m1 m3 m5 (fun a0 x2 x3 w => f_X1_fillAreaAt_L19 fu a0 x2 x3 w) k
          refine ⟨w2, f2, n2, mm2, ρ2, e2, qq, fun y hy hN ht => ?_⟩
          rcases hN with hN | hN | hN
          · exact absurd hN.1 h0
          · exact q6 y hy (Or.inl hN) ht
          · exact q6 y hy (Or.inr hN) ht
      obtain ⟨w1, f1, n1, mm1, ρ1, e1, ⟨p1, p2, p3, p4, p5⟩, p6⟩ := key
      obtain ⟨w2, f2, n2, mm2, ρ2, e2, ⟨q1, q2, q3, q4, q5⟩, q6⟩ := ih (k + 1) fu w1 f1 n1 mm1 ρ1 (by omega) (by omega) p1 p3 (Nat.le_trans hkn' p4.1) (fun j hj y hy hN ht => by
        by_cases hjk : j = k
        · subst hjk
          rw [p4.2.1 j hkn'] at hN
          exact p6 y hy hN ht
        · rw [p4.2.1 j (by omega)] at hN
          exact p4.2.2 y (hp j (by omega) y hy hN ht))
      exact ⟨w2, f2, n2, mm2, ρ2, e1.trans e2, ⟨q1, p2.tr q2, q3, p4.tr q4, p5.tr q5⟩, q6⟩
    · obtain rfl : n = k := by omega
      refine ⟨w, f, n, m, ρ, ?_, ⟨h, ⟨rfl, rfl⟩, q, Mor.rf, Fr.rf⟩, hp⟩
      simp only [f_X1_fillAreaAt_L19, h.g4, ob, q.1]
      rw [if_pos (nI_le (Nat.le_refl _) (by omega))]
/-- the size of an area -/
def sizA (lab : Nat → Nat) (s : Nat) : Nat := cnt 48 fun x => lab x == lab s
theorem X1_fillAreaAt (L : Lab T lab) (h : FwAt w a f) (hT : ∀ x, x < 48 → f.T x = T x) (hr : reB f r0) (hc : Clo T r0) (hs : s < 48) :
    ∃ w' f', f_X1_fillAreaAt a (nI s) w = x_ret (nI (if r0 s = true then 0 else sizA lab s)) w' ∧ FwAt w' a f' ∧ Sam f f' ∧ reB f' (fun x => r0 x || lab x == lab s) ∧ Fr (fwc a) w w' := by
  have h0 := h.sq 0
  have k0 : Flg T lab s r0 (f.sq 0) 0 (fun _ => 0) r0 := ⟨nI_0.symm, Nat.zero_le _, hT, fun j hj => absurd hj (Nat.not_lt_zero j), hr, fun x hx => ⟨Or.inl, fun h9 => h9.elim id (fun ⟨j, hj, _⟩ => absurd hj (Nat.not_lt_zero j))⟩, Nat.zero_add _⟩
  obtain ⟨w1, f1, n1, m1, ρ1, e1, p1, p2, p3, p4, p5, p6⟩ := X1_reach h0 k0 hs (fun _ => rfl)
  obtain ⟨w2, f2, n2, m2, ρ2, e2, ⟨q1, q2, q3, q4, q5⟩, q6⟩ := X1_fill_L L (a := a) (s := s) (r0 := r0) 48 0 xfuel w1 f1 n1 m1 ρ1 (by omega) (by unfold xfuel; omega) p1 p3 (Nat.zero_le _) (fun j hj => absurd hj (Nat.not_lt_zero j))
  have hρs : ρ2 s = true := q4.2.2 s (p5 rfl)
  have es : f_X1_fillAreaAt a (nI s) w = x_ret (nI n2) w2 := by
    simp only [f_X1_fillAreaAt, h.o, if_true, X1_toneAt h hs, x_br, h.p4, ob, h0.o, hT s hs, e1]
    rw [nI_0] at e2
    exact e2
  obtain ⟨k1, k2, k3, k4, k5, k6, k7⟩ := q3
  -- the cells reached by this filling
  have hN : Clo T (fun x => ρ2 x && !r0 x) := by
    have one : ∀ x y, x < 48 → y < 48 → T x = T y → Nbr x y → r0 x = r0 y → (ρ2 x && !r0 x) = true → (ρ2 y && !r0 y) = true := fun x y hx hy ht hN hrr hx9 => by
      have ha : ρ2 x = true := by simp at hx9; exact hx9.1
      have hb : r0 x = false := by simp at hx9; exact hx9.2
      have hj : ∃ j, j < n2 ∧ m2 j = x := ((k6 x hx).mp ha).resolve_left (fun hc => by rw [hb] at hc; cases hc)
      obtain ⟨j, hj, rfl⟩ := hj
      have h9 := q6 j hj y hy hN (ht.symm.trans (k4 j hj).2.2.2.2)
      simp [h9, ← hrr, hb]
    intro x y he
    obtain ⟨n1', n2'⟩ := he.nbr
    have hrr := hc x y he
    show (ρ2 x && !r0 x) = (ρ2 y && !r0 y)
    have f1' := one x y he.1 he.2.1 he.2.2.1 n1' hrr
    have f2' := one y x he.2.1 he.1 he.2.2.1.symm n2' hrr.symm
    cases hx9 : (ρ2 x && !r0 x) with
    | true => exact (f1' hx9).symm
    | false =>
      cases hy9 : (ρ2 y && !r0 y) with
      | true => rw [f2' hy9] at hx9; cases hx9
      | false => rfl
  by_cases hrs : r0 s = true
  · -- filled before: nothing is reached
    have hn0 : n2 = 0 := by
      cases n2 with
      | zero => rfl
      | succ n2 =>
        exfalso
        obtain ⟨a1, a2, a3, a4, a5⟩ := k4 0 (by omega)
        have b1 := L.2.1 r0 hc (m2 0) a1
        have b2 := L.2.1 r0 hc s hs
        rw [a3, ← b2, hrs, a4] at b1
        cases b1
    subst hn0
    refine ⟨w2, f2, by rw [if_pos hrs]; exact es, q1, ⟨q2.1.trans p2.1, q2.2.trans p2.2⟩, fun x hx => ?_, ((Fr.set ⟨by omega, by omega⟩).tr p6).tr q5⟩
    rw [k5 x hx]
    have e9 : ρ2 x = (r0 x || lab x == lab s) := by
      by_cases hx0 : r0 x = true
      · rw [hx0, (k6 x hx).mpr (Or.inl hx0)]; rfl
      · have hx1 : r0 x = false := by simpa using hx0
        have b0 : ρ2 x = false := by
          cases hb : ρ2 x with
          | false => rfl
          | true => exact absurd ((k6 x hx).mp hb) (fun h9 => h9.elim hx0 (fun ⟨j, hj, _⟩ => Nat.not_lt_zero j hj))
        have b1 : (lab x == lab s) = false := by
          cases hb : (lab x == lab s) with
          | false => rfl
          | true =>
            have b1 := L.2.1 r0 hc x hx
            have b2 := L.2.1 r0 hc s hs
            rw [beq_iff_eq.mp hb, ← b2, hrs] at b1
            exact absurd b1 hx0
        rw [b0, hx1, b1]; rfl
    rw [e9]
  · have hrs' : r0 s = false := by simpa using hrs
    have e9 : ∀ x, x < 48 → ρ2 x = (r0 x || lab x == lab s) := fun x hx => by
      by_cases hx0 : r0 x = true
      · rw [hx0, (k6 x hx).mpr (Or.inl hx0)]; rfl
      · have hx1 : r0 x = false := by simpa using hx0
        rw [hx1, Bool.false_or]
        cases hb : (lab x == lab s) with
        | true =>
          have b1 := L.2.1 _ hN x hx
          have b2 := L.2.1 _ hN s hs
          rw [beq_iff_eq.mp hb, ← b2] at b1
          simp [hρs, hrs', hx1] at b1
          exact b1
        | false =>
          cases hb2 : ρ2 x with
          | false => rfl
          | true =>
            obtain ⟨j, hj, rfl⟩ := ((k6 x hx).mp hb2).resolve_left hx0
            rw [(k4 j hj).2.2.1] at hb
            simp at hb
    have hn2 : n2 = sizA lab s := by
      have c1 := cnt_split 48 ρ2 r0
      have c2 : cnt 48 (fun k => ρ2 k && r0 k) = cnt 48 r0 := cnt_congr (fun x hx => by
        cases hb : r0 x with
        | true => rw [(k6 x hx).mpr (Or.inl hb)]; rfl
        | false => rw [Bool.and_false])
      have c3 : cnt 48 (fun k => ρ2 k && !r0 k) = sizA lab s := cnt_congr (fun x hx => by
        rw [e9 x hx]
        cases hb : r0 x with
        | true =>
          cases hb2 : (lab x == lab s) with
          | false => rfl
          | true =>
            have b1 := L.2.1 r0 hc x hx
            have b2 := L.2.1 r0 hc s hs
            rw [beq_iff_eq.mp hb2, ← b2, hrs', hb] at b1
            cases b1
        | false => simp)
      omega
    refine ⟨w2, f2, by rw [if_neg hrs, ← hn2]; exact es, q1, ⟨q2.1.trans p2.1, q2.2.trans p2.2⟩, fun x hx => ?_, ((Fr.set ⟨by omega, by omega⟩).tr p6).tr q5⟩
    rw [k5 x hx, e9 x hx]
end X1g
