/-! ===== areas: counted by joining ===== -/
section X1j
variable {w : xW} {a : Nat} {f : FW} {T : Nat → Int32}
theorem FwAt.lP (h : FwAt w a f) : x_len w (a + 5) = some (nI 48) := len_of h.2.2.2.2.2 (by omega)
theorem FwAt.ldP (h : FwAt w a f) {k : Nat} (hk : k < 48) : x_ild w (a + 5) 0 (nI k) = some (f.pa k) := ild_of h.2.2.2.2.2 hk (by omega)
theorem FwAt.stP (h : FwAt w a f) {k : Nat} (hk : k < 48) (x : Int32) : x_ist w (a + 5) 0 (nI k) x = some (xset w (a + 5) (.inl (0, 48, .inl (upd f.pa k x)))) := ist_of h.2.2.2.2.2 hk (by omega) x
def FW.sP (f : FW) (u : Nat → Int32) : FW := FW.mk f.T f.tb f.re f.qu f.q u
theorem FwAt.sP (h : FwAt w a f) (u : Nat → Int32) : FwAt (xset w (a + 5) (.inl (0, 48, .inl u))) a (f.sP u) :=
  ⟨(xset_ne (by omega)).trans h.1, (xset_ne (by omega)).trans h.2.1, (xset_ne (by omega)).trans h.2.2.1, (xset_ne (by omega)).trans h.2.2.2.1, (xset_ne (by omega)).trans h.2.2.2.2.1, xset_at _ _ _⟩
/-- the sets: each cell's parent, root, depth; n sets -/
def Uni (T : Nat → Int32) (f : FW) (n : Nat) (par rt dep : Nat → Nat) : Prop :=
  (∀ x, x < 48 → f.pa x = nI (par x) ∧ par x < 48 ∧ rt x < 48 ∧ rt (par x) = rt x ∧ par (rt x) = rt x ∧ (par x = x → rt x = x ∧ dep x = 0) ∧ (par x ≠ x → dep (par x) < dep x) ∧ dep x + n ≤ 48) ∧
  (∀ P, Clo T P → ∀ x, x < 48 → P x = P (rt x)) ∧ n = cnt 48 (fun x => rt x == x)
theorem Uni.pos {n : Nat} {par rt dep : Nat → Nat} (h : Uni T f n par rt dep) : 0 < n := by
  obtain ⟨h1, h2, h3⟩ := h
  obtain ⟨a1, a2, a3, a4, a5, a6, a7, a8⟩ := h1 0 (by omega)
  obtain ⟨b1, b2, b3, b4, b5, b6, b7, b8⟩ := h1 (rt 0) a3
  rw [h3]
  exact cnt_pos a3 (by rw [(b6 a5).1]; simp)
theorem X1_root_L (h : FwAt w a f) {n : Nat} {par rt dep : Nat → Nat} (k : Uni T f n par rt dep) : ∀ (e x st fu : Nat), x < 48 → dep x = e → st + dep x < 48 → dep x < fu → f_X1_rootOf_L4 fu a (nI x) (nI st) w = x_ret (nI (rt x)) w := by
  intro e
  induction e using Nat.strongRecOn with
  | ind e ih =>
    intro x st fu hx he hst hfu
    obtain ⟨fu, rfl⟩ : ∃ m, fu = m + 1 := ⟨fu - 1, by omega⟩
    obtain ⟨a1, a2, a3, a4, a5, a6, a7, a8⟩ := k.1 x hx
    simp only [f_X1_rootOf_L4, h.g5, h.lP, ob, oe, h.ldP hx, a1]
    rw [if_neg (show ¬ (48 : Int32) ≤ nI st from nI_ge (b := 48) (by omega) (by omega)), if_neg (nI_pos (by omega)), if_neg (nI_ge hx (by omega))]
    by_cases hp : par x = x
    · rw [hp, if_pos rfl, (a6 hp).1]
    · rw [if_neg (fun hc : nI (par x) = nI x => hp ((nI_eq (by omega) (by omega)).mp hc)), ← nI_succ st]
      have h1 := a7 hp
      rw [ih (dep (par x)) (by omega) (par x) (st + 1) fu a2 rfl (by omega) (by omega), a4]
theorem X1_rootOf (h : FwAt w a f) {n : Nat} {par rt dep : Nat → Nat} (k : Uni T f n par rt dep) {x : Nat} (hx : x < 48) : f_X1_rootOf a (nI x) w = x_ret (nI (rt x)) w := by
  have h1 := k.pos
  have h2 := (k.1 x hx).2.2.2.2.2.2.2
  exact X1_root_L h k (dep x) x 0 xfuel hx rfl (by omega) (by unfold xfuel; omega)
/-- two sets become one -/
theorem Uni.join {n : Nat} {par rt dep : Nat → Nat} (k : Uni T f n par rt dep) {c d : Nat} (he : Edg T c d) (hne : rt c ≠ rt d) :
    Uni T (f.sP (upd f.pa (rt c) (nI (rt d)))) (n - 1) (fun x => if x = rt c then rt d else par x) (fun x => if rt x = rt c then rt d else rt x) (fun x => if rt x = rt c then dep x + 1 else dep x) := by
  obtain ⟨hc, hd, ht, hN⟩ := id he
  have hn := k.pos
  obtain ⟨k1, k2, k3⟩ := k
  obtain ⟨c1, c2, c3, c4, c5, c6, c7, c8⟩ := k1 c hc
  obtain ⟨d1, d2, d3, d4, d5, d6, d7, d8⟩ := k1 d hd
  have rc := (k1 _ c3).2.2.2.2.2.1 c5
  have rd := (k1 _ d3).2.2.2.2.2.1 d5
  refine ⟨fun x hx => ?_, fun P hP x hx => ?_, ?_⟩
  · obtain ⟨a1, a2, a3, a4, a5, a6, a7, a8⟩ := k1 x hx
    show upd f.pa (rt c) (nI (rt d)) x = nI (if x = rt c then rt d else par x) ∧ (if x = rt c then rt d else par x) < 48 ∧ (if rt x = rt c then rt d else rt x) < 48 ∧
      (if rt (if x = rt c then rt d else par x) = rt c then rt d else rt (if x = rt c then rt d else par x)) = (if rt x = rt c then rt d else rt x) ∧
      (if (if rt x = rt c then rt d else rt x) = rt c then rt d else par (if rt x = rt c then rt d else rt x)) = (if rt x = rt c then rt d else rt x) ∧
      ((if x = rt c then rt d else par x) = x → (if rt x = rt c then rt d else rt x) = x ∧ (if rt x = rt c then dep x + 1 else dep x) = 0) ∧
      ((if x = rt c then rt d else par x) ≠ x → (if rt (if x = rt c then rt d else par x) = rt c then dep (if x = rt c then rt d else par x) + 1 else dep (if x = rt c then rt d else par x)) < (if rt x = rt c then dep x + 1 else dep x)) ∧ (if rt x = rt c then dep x + 1 else dep x) + (n - 1) ≤ 48
    have hb : (if rt x = rt c then dep x + 1 else dep x) + (n - 1) ≤ 48 := by split <;> omega
    by_cases hxc : x = rt c
    · have hrx : rt x = rt c := by rw [hxc]; exact rc.1
      have e1 : upd f.pa (rt c) (nI (rt d)) x = nI (rt d) := by unfold upd; rw [if_pos hxc]
      simp only [if_pos hxc, if_pos hrx, e1, rd.1, if_neg hne.symm]
      refine ⟨trivial, d3, d3, trivial, d5, fun h9 => absurd (h9.trans hxc) hne.symm, fun _ => ?_, ?_⟩
      · rw [rd.2]; omega
      · rw [if_pos hrx] at hb; exact hb
    · have e1 : upd f.pa (rt c) (nI (rt d)) x = f.pa x := by unfold upd; rw [if_neg hxc]
      simp only [if_neg hxc, e1, a4]
      by_cases hrx : rt x = rt c
      · simp only [if_pos hrx, if_neg hne.symm]
        refine ⟨a1, a2, d3, trivial, d5, fun h9 => absurd ((a6 h9).1.symm.trans hrx) hxc, fun h9 => ?_, ?_⟩
        · have := a7 h9; omega
        · rw [if_pos hrx] at hb; exact hb
      · simp only [if_neg hrx]
        refine ⟨a1, a2, a3, trivial, a5, a6, a7, ?_⟩
        rw [if_neg hrx] at hb; exact hb
  · show P x = P (if rt x = rt c then rt d else rt x)
    have h1 := k2 P hP x hx
    by_cases hrx : rt x = rt c
    · rw [if_pos hrx, h1, hrx, ← k2 P hP c hc, ← k2 P hP d hd]
      exact hP c d he
    · rw [if_neg hrx]; exact h1
  · have h1 := cnt_one_in c3 (fun x => rt x == x) (by rw [rc.1]; simp)
    have h2 : cnt 48 (fun x => (if rt x = rt c then rt d else rt x) == x) = cnt 48 (fun x => (rt x == x) && !(x == rt c)) := cnt_congr (fun x hx => by
      by_cases hxc : x = rt c
      · have hrx : rt x = rt c := by rw [hxc]; exact rc.1
        have h9 : ¬ rt d = x := fun hc => hne (hxc.symm.trans hc.symm)
        simp [hxc, rc.1, hne.symm]
      · by_cases hrx : rt x = rt c
        · have h8 : ¬ rt d = x := fun hc => by
            rw [← hc, rd.1] at hrx
            exact hne hrx.symm
          have h9 : ¬ rt x = x := fun hc => hxc (hc.symm.trans hrx)
          have e1 : (rt d == x) = false := beq_eq_false_iff_ne.mpr h8
          have e2 : (rt x == x) = false := beq_eq_false_iff_ne.mpr h9
          rw [if_pos hrx, e1, e2]
          rfl
        · simp [hrx, hxc])
    rw [h2]
    omega
theorem X1_joins (h : FwAt w a f) (hT : ∀ x, x < 48 → f.T x = T x) {n : Nat} {par rt dep : Nat → Nat} (k : Uni T f n par rt dep) {c d : Nat} (hc : c < 48) (hd : d < 48) (he : T c = T d → Edg T c d) :
    ∃ w' f' n' par' rt' dep' r, f_X1_joins a (nI c) (nI d) w = x_ret r w' ∧ FwAt w' a f' ∧ Sam f f' ∧ Uni T f' n' par' rt' dep' ∧ ((r = 0 ∧ n' = n) ∨ (r = 1 ∧ n' + 1 = n)) ∧ (T c = T d → rt' c = rt' d) ∧ (∀ x y, rt x = rt y → rt' x = rt' y) ∧ Fr (fwc a) w w' := by
  obtain ⟨c1, c2, c3, c4, c5, c6, c7, c8⟩ := k.1 c hc
  obtain ⟨d1, d2, d3, d4, d5, d6, d7, d8⟩ := k.1 d hd
  simp only [f_X1_joins, h.o, if_true, X1_toneAt h hc, X1_toneAt h hd, x_br, X1_rootOf h k hc, X1_rootOf h k hd, h.g5, h.lP, ob, oe, hT c hc, hT d hd]
  by_cases ht : T c = T d
  · rw [if_pos ht]
    by_cases hr : rt c = rt d
    · rw [hr, if_pos rfl]
      exact ⟨w, f, n, par, rt, dep, 0, rfl, h, ⟨rfl, rfl⟩, k, Or.inl ⟨rfl, rfl⟩, fun _ => hr, fun _ _ h9 => h9, Fr.rf⟩
    · rw [if_neg (fun h9 : nI (rt c) = nI (rt d) => hr ((nI_eq (by omega) (by omega)).mp h9)), if_neg (nI_pos (by omega)), if_pos (nI_lt c3 (by omega)), h.stP c3, ob]
      refine ⟨_, _, n - 1, _, _, _, 1, rfl, h.sP _, ⟨rfl, rfl⟩, k.join (he ht) hr, Or.inr ⟨rfl, by have := k.pos; omega⟩, fun _ => ?_, fun x y h9 => ?_, Fr.set ⟨by omega, by omega⟩⟩
      · show (if rt c = rt c then rt d else rt c) = (if rt d = rt c then rt d else rt d)
        rw [if_pos rfl]
        split <;> rfl
      · show (if rt x = rt c then rt d else rt x) = (if rt y = rt c then rt d else rt y)
        rw [h9]
  · rw [if_neg ht]
    exact ⟨w, f, n, par, rt, dep, 0, rfl, h, ⟨rfl, rfl⟩, k, Or.inl ⟨rfl, rfl⟩, fun h9 => absurd h9 ht, fun _ _ h9 => h9, Fr.rf⟩
/-- the second half of a cell's joining -/
theorem X1_jn_L : ∀ (d k fu : Nat) (w : xW) (f : FW) (n : Nat) (par rt dep : Nat → Nat), k + d = 48 → d < fu → FwAt w a f → (∀ x, x < 48 → f.T x = T x) → Uni T f n par rt dep → (∀ x y, x < k → Edg T x y → rt x = rt y) →
    ∃ w' f' n' par' rt' dep', f_X1_countAreasByJoining_L29 fu a (nI n) (nI k) w = x_ret (nI n') w' ∧ FwAt w' a f' ∧ Sam f f' ∧ Uni T f' n' par' rt' dep' ∧ (∀ x y, Edg T x y → rt' x = rt' y) ∧ Fr (fwc a) w w' := by
  intro d
  induction d with
  | zero =>
    intro k fu w f n par rt dep hk hfu h hT q hj
    obtain ⟨fu, rfl⟩ : ∃ m, fu = m + 1 := ⟨fu - 1, by omega⟩
    refine ⟨w, f, n, par, rt, dep, ?_, h, ⟨rfl, rfl⟩, q, fun x y he => hj x y (by have := he.1; omega) he, Fr.rf⟩
    simp only [f_X1_countAreasByJoining_L29]
    rw [if_pos (show (48 : Int32) ≤ nI k from nI_le (a := 48) (by omega) (by omega))]
  | succ d ih =>
    intro k fu w f n par rt dep hk hfu h hT q hj
    obtain ⟨fu, rfl⟩ : ∃ m, fu = m + 1 := ⟨fu - 1, by omega⟩
    -- behind the left neighbour
    have half : ∀ (w : xW) (f1 : FW) (n1 : Nat) (par1 rt1 dep1 : Nat → Nat), FwAt w a f1 → Sam f f1 → Uni T f1 n1 par1 rt1 dep1 → (∀ x y, x < k → Edg T x y → rt1 x = rt1 y) → (∀ y, Edg T k y → y + 8 ≠ k → rt1 k = rt1 y) →
        ∃ w' f' n' par' rt' dep', (if nI k < 8 then (f_X1_countAreasByJoining_L29 fu a (nI n1) (nI (k + 1)) w) else (if x_isO w a 1 = true then (x_bind (f_X1_joins a (nI k) (nI k - 8) w) fun r9 w8 => (if r9 = 0 then (f_X1_countAreasByJoining_L29 fu a (nI n1) (nI (k + 1)) w8) else (f_X1_countAreasByJoining_L29 fu a (nI n1 + (-1)) (nI (k + 1)) w8))) else none)) = x_ret (nI n') w' ∧ FwAt w' a f' ∧ Sam f f' ∧ Uni T f' n' par' rt' dep' ∧ (∀ x y, Edg T x y → rt' x = rt' y) ∧ Fr (fwc a) w w' := by
      intro w f1 n1 par1 rt1 dep1 h1 hs1 q1 hj1 hl1
      have hT1 : ∀ x, x < 48 → f1.T x = T x := fun x hx => by rw [hs1.1]; exact hT x hx
      by_cases h8 : k < 8
      · rw [if_pos (show nI k < 8 from nI_lt (b := 8) h8 (by omega))]
        obtain ⟨w2, f2, n2, p2, r2, d2, e2, a1, a2, a3, a4, a5⟩ := ih (k + 1) fu w f1 n1 par1 rt1 dep1 (by omega) (by omega) h1 hT1 q1 (fun x y hx he => by
          by_cases hxk : x = k
          · subst hxk
            refine hl1 y he (fun hc => ?_)
            omega
          · exact hj1 x y (by omega) he)
        exact ⟨w2, f2, n2, p2, r2, d2, e2, a1, hs1.tr a2, a3, a4, a5⟩
      · rw [if_neg (show ¬ nI k < 8 from nI_nlt (b := 8) (by omega) (by omega)), if_pos h1.o, show nI k - 8 = nI (k - 8) from nI_sub (b := 8) (by omega)]
        obtain ⟨w2, f2, n2, p2, r2, d2, r, e2, b1, b2, b3, b4, b5, b6, b7⟩ := X1_joins h1 hT1 q1 (c := k) (d := k - 8) (by omega) (by omega) (fun ht => ⟨by omega, by omega, ht, Or.inr (by omega)⟩)
        have hT2 : ∀ x, x < 48 → f2.T x = T x := fun x hx => by rw [b2.1]; exact hT1 x hx
        have fin : ∃ w' f' n' par' rt' dep', f_X1_countAreasByJoining_L29 fu a (nI n2) (nI (k + 1)) w2 = x_ret (nI n') w' ∧ FwAt w' a f' ∧ Sam f2 f' ∧ Uni T f' n' par' rt' dep' ∧ (∀ x y, Edg T x y → rt' x = rt' y) ∧ Fr (fwc a) w2 w' := ih (k + 1) fu w2 f2 n2 p2 r2 d2 (by omega) (by omega) b1 hT2 b3 (fun x y hx he => by
          by_cases hxk : x = k
          · subst hxk
            by_cases hy8 : y + 8 = x
            · have : y = x - 8 := by omega
              subst this
              exact b5 he.2.2.1
            · exact b6 x y (hl1 y he hy8)
          · exact b6 x y (hj1 x y (by omega) he))
        obtain ⟨w3, f3, n3, p3, r3, d3, e3, a1, a2, a3, a4, a5⟩ := fin
        refine ⟨w3, f3, n3, p3, r3, d3, ?_, a1, hs1.tr (b2.tr a2), a3, a4, b7.tr a5⟩
        rw [e2, x_br]
        rcases b4 with ⟨hr, hn⟩ | ⟨hr, hn⟩
        · rw [hr, if_pos rfl, ← hn]
          exact e3
        · rw [hr, if_neg (by decide), ← hn, nI_dn]
          exact e3
    simp only [f_X1_countAreasByJoining_L29, nI_col k (by omega)]
    rw [if_neg (show ¬ (48 : Int32) ≤ nI k from nI_ge (b := 48) (by omega) (by omega)), ← nI_succ k]
    by_cases h0 : 0 < k % 8
    · rw [if_neg (nI_nle h0 (by omega)), if_pos h.o, show nI k - 1 = nI (k - 1) from nI_sub (b := 1) (by omega)]
      obtain ⟨w2, f2, n2, p2, r2, d2, r, e2, b1, b2, b3, b4, b5, b6, b7⟩ := X1_joins h hT q (c := k) (d := k - 1) (by omega) (by omega) (fun ht => ⟨by omega, by omega, ht, Or.inl ⟨h0, by omega⟩⟩)
      obtain ⟨w3, f3, n3, p3, r3, d3, e3, a1, a2, a3, a4, a5⟩ := half w2 f2 n2 p2 r2 d2 b1 b2 b3 (fun x y hx he => b6 x y (hj x y hx he)) (fun y he hy => by
        have : y = k - 1 := by
          have := he.2.2.2
          omega
        subst this
        exact b5 he.2.2.1)
      refine ⟨w3, f3, n3, p3, r3, d3, ?_, a1, a2, a3, a4, b7.tr a5⟩
      rw [e2, x_br]
      rcases b4 with ⟨hr, hn⟩ | ⟨hr, hn⟩
      · rw [hr, if_pos rfl, ← hn]
        exact e3
      · rw [hr, if_neg (by decide), ← hn, nI_dn]
        exact e3
    · rw [if_pos (show nI (k % 8) ≤ 0 by rw [show k % 8 = 0 by omega]; decide)]
      exact half w f n par rt dep h ⟨rfl, rfl⟩ q hj (fun y he hy => by
        have := he.2.2.2
        omega)
theorem X1_par_L (h : FwAt w a f) : ∀ (d k n : Nat) (u : Nat → Int32), k + d = 48 → d < n →
    f_X1_countAreasByJoining_L2 n a (nI k) (xset w (a + 5) (.inl (0, 48, .inl u))) = f_X1_countAreasByJoining_L29 xfuel a 48 0 (xset w (a + 5) (.inl (0, 48, .inl ((List.range' k d).foldl (fun u c => if true = true then upd u c (nI c) else u) u)))) := by
  intro d
  induction d with
  | zero =>
    intro k n u hk hn
    obtain ⟨n, rfl⟩ : ∃ m, n = m + 1 := ⟨n - 1, by omega⟩
    have h1 := h.sP u
    simp only [f_X1_countAreasByJoining_L2, h1.g5, h1.lP, ob, oe]
    rw [if_pos (nI_le (by omega) (by omega))]
    rfl
  | succ d ih =>
    intro k n u hk hn
    obtain ⟨n, rfl⟩ : ∃ m, n = m + 1 := ⟨n - 1, by omega⟩
    have h1 := h.sP u
    simp only [f_X1_countAreasByJoining_L2, h1.g5, h1.lP, ob, oe, h1.stP (show k < 48 by omega), xset_set]
    rw [if_neg (nI_ge (by omega) (by omega)), ← nI_succ k]
    exact ih (k + 1) n (upd u k (nI k)) (by omega) (by omega)
theorem X1_countAreasByJoining {lab : Nat → Nat} (L : Lab T lab) (h : FwAt w a f) (hT : ∀ x, x < 48 → f.T x = T x) :
    ∃ w' f', f_X1_countAreasByJoining a w = x_ret (nI (numA lab)) w' ∧ FwAt w' a f' ∧ Sam f f' ∧ Fr (fwc a) w w' := by
  have h1 := X1_par_L h 48 0 xfuel f.pa (by omega) (by unfold xfuel; omega)
  rw [xset_self h.2.2.2.2.2, fo_R, fo_upd (fun _ => true) (fun c => nI c) f.pa 48, nI_0] at h1
  have h2 := h.sP (fun c => if c < 48 ∧ true = true then nI c else f.pa c)
  have c48 : cnt 48 (fun x => (id x : Nat) == x) = 48 := by decide
  have k0 : Uni T (f.sP (fun c => if c < 48 ∧ true = true then nI c else f.pa c)) 48 id id (fun _ => 0) := ⟨fun x hx => ⟨if_pos ⟨hx, rfl⟩, hx, hx, rfl, rfl, fun _ => ⟨rfl, rfl⟩, fun hc => absurd rfl hc, Nat.le_refl 48⟩, fun _ _ _ _ => rfl, c48.symm⟩
  obtain ⟨w2, f2, n2, p2, r2, d2, e2, a1, a2, a3, a4, a5⟩ := X1_jn_L (a := a) (T := T) 48 0 xfuel _ _ 48 id id (fun _ => 0) (by omega) (by unfold xfuel; omega) h2 hT k0 (fun x y hx _ => absurd hx (Nat.not_lt_zero x))
  obtain ⟨b1, b2, b3⟩ := a3
  have hn : n2 = numA lab := by
    rw [b3]
    refine Nat.le_antisymm ?_ ?_
    · exact Lab.count_le (T := T) (fun x hx => (b1 x hx).2.2.1) b2 a4 (fun x hx => L.lt hx) L.2.1 L.2.2
    · exact Lab.count_le (T := T) (fun x hx => L.lt hx) L.2.1 L.2.2 (fun x hx => (b1 x hx).2.2.1) b2 a4
  rw [hn, nI_0] at e2
  refine ⟨w2, f2, ?_, a1, a2, (Fr.set ⟨by omega, by omega⟩).tr a5⟩
  unfold f_X1_countAreasByJoining
  exact h1.trans e2
end X1j
