/-! ===== the model's changes: shadows cast ===== -/
theorem WL.put_num_put (g : WL) (n : Nat) (p e p' e' : Int32) (j : Nat) (x y : Int32) (t u : Nat → Int32) : (((g.num n p e).put j x y t).num n p' e').put j x y u = (g.num n p' e').put j x y u := by
  simp only [WL.put, WL.num, WL.mk, WL.n, WL.ps, WL.es, WL.sg, WL.md, WL.vi, WL.to]
  refine congrArg _ (congrArg _ (congrArg _ (congrArg _ (Prod.ext ?_ (Prod.ext ?_ ?_)))))
  · funext k; by_cases hk : k = j <;> simp [hk]
  · funext k; by_cases hk : k = j <;> simp [hk]
  · funext k; by_cases hk : k = j <;> simp [hk]
section X7q
variable {w : xW} {c : Nat} {F : Nat → Int32} {ar : Nat → Nat → Int32} {g : WL}
/-- the array while a shadow is cast -/
def CsS (S u : Nat → Int32) (l : Nat) (t : Nat → Int32) : Prop := (∀ q, q < 48 → u (3 + 50 * l + 2 + q) = t q + 1) ∧ ∀ j, ¬ (3 + 50 * l + 2 ≤ j ∧ j < 3 + 50 * l + 50) → u j = S j
theorem CsS.step {S u : Nat → Int32} {l : Nat} {t : Nat → Int32} (h : CsS S u l t) {q : Nat} (hq : q < 48) : CsS S (upd u (3 + 50 * l + 2 + q) 9) l (upd t q 8) := by
  obtain ⟨h2, h3⟩ := h
  refine ⟨fun k hk => ?_, fun j hn => ?_⟩
  · show (if 3 + 50 * l + 2 + k = 3 + 50 * l + 2 + q then 9 else u (3 + 50 * l + 2 + k)) = (if k = q then 8 else t k) + 1
    by_cases hkq : k = q
    · rw [if_pos (by omega), if_pos hkq]
      decide
    · rw [if_neg (by omega), if_neg hkq, h2 k hk]
  · show (if j = 3 + 50 * l + 2 + q then 9 else u j) = S j
    rw [if_neg (by omega)]
    exact h3 j hn
def cstE (a0 : Nat) (x3 : Int32) (w0 : xW) : xO Int32 := (x_getr w0 a0 7 1).bind fun v19 => (v19).elim none fun a20 => (x_ild w0 a20 0 1).bind fun v21 => if x_isO w0 a0 7 = true then (x_bind (f_X7_full a0 x3 w0) fun r23 w22 => (x_ist w22 a20 0 1 (v21 + r23)).bind fun w25 => if x_isO w25 a0 7 = true then (x_bind (f_X7_full a0 x3 w25) fun r27 w26 => if x_isO w26 a0 7 = true then (x_bind (f_X7_done a0 r27 w26) fun r30 w29 => x_ret r30 w29) else none) else none) else none
theorem sh_eq (a h : Int32) : a + h - 12 = a + (h - 12) := by rw [Int32.sub_eq_add_neg, Int32.add_assoc, ← Int32.sub_eq_add_neg]
theorem X7_cst_L (h : MoAt w c F ar) {l tp : Nat} (hl : l < tp) (htp : tp < 6) {t : Nat → Int32} {S : Nat → Int32} (hS : ∀ q, q < 48 → S (3 + 50 * l + 2 + q) = t q + 1 ∧ okT (t q)) (hr : Int32) : ∀ (d k n : Nat) (u v : Nat → Int32), k + d = 48 → d < n → CsS S u tp v →
    ∃ u', f_X7_casts_L57 n c (nI l) hr (nI tp) (nI k) (wA w c 1 u) = cstE c (nI tp) (wA w c 1 u') ∧ CsS S u' tp ((List.range' k d).foldl (shF t (hr - 12)) v) := by
  intro d
  induction d with
  | zero =>
    intro k n u v hk hn hP
    obtain ⟨n, rfl⟩ : ∃ m, n = m + 1 := ⟨n - 1, by omega⟩
    refine ⟨u, ?_, hP⟩
    simp only [f_X7_casts_L57]
    rw [if_pos (show (48 : Int32) ≤ nI k from nI_le (a := 48) (by omega) (by omega))]
    rfl
  | succ d ih =>
    intro k n u v hk hn hP
    obtain ⟨n, rfl⟩ : ∃ m, n = m + 1 := ⟨n - 1, by omega⟩
    obtain ⟨es, ok⟩ := hS k (by omega)
    have h1 := h.sA 1 (by omega) (by omega) u
    have e1 : f_X7_at c (nI l) (nI k) (wA w c 1 u) = x_ret (t k + 1) (wA w c 1 u) := by
      rw [← es, ← hP.2 (3 + 50 * l + 2 + k) (by omega)]
      exact X7_at h1 (show l < 6 by omega) (by omega)
    simp only [f_X7_casts_L57, h1.o, if_true, e1, x_br, okT_le ok, X7_isCell, sh_eq]
    rw [if_neg (show ¬ (48 : Int32) ≤ nI k from nI_ge (b := 48) (by omega) (by omega)), ← nI_succ k, show List.range' k (d + 1) = k :: List.range' (k + 1) d from rfl, List.foldl_cons]
    by_cases hc : t k = -1
    · rw [if_pos hc, show shF t (hr - 12) v k = v by simp [shF, hc]]
      exact ih (k + 1) n u v (by omega) (by omega) hP
    · rw [if_neg hc]
      by_cases hd : isC (shX (hr - 12) k) (shY k) = true
      · obtain ⟨j, hj, he⟩ := isC_cell hd
        have hd' := hd
        have he' := he
        unfold shX shY at hd' he'
        rw [Int32.mul_comm] at he'
        have e2 : f_X7_sets c (nI tp) (nI j) 9 (wA w c 1 u) = x_ret () (wA w c 1 (upd u (3 + 50 * tp + 2 + j) 9)) := by
          refine (X7_sets h1 htp hj 9).trans ?_
          show x_ret () (wA (wA w c 1 u) c 1 (upd u (3 + 50 * tp + 2 + j) 9)) = _
          rw [wA_wA]
        rw [if_pos hd', if_neg (by decide), he', e2, x_br, show shF t (hr - 12) v k = upd v j 8 by simp [shF, hc, hd, he, nI_clamp (show j < 2 ^ 31 by omega)]]
        exact ih (k + 1) n _ _ (by omega) (by omega) (hP.step hj)
      · have hd' := hd
        unfold shX shY at hd'
        rw [if_neg hd', if_pos rfl, show shF t (hr - 12) v k = v by simp [shF, hd]]
        exact ih (k + 1) n u v (by omega) (by omega) hP
def cdC (v : Int32) : Int32 := if v = -2 then 1 else if v = -3 then 2 else if v = -4 then 3 else 0
theorem cdC_nI {k : Nat} (hk : k < 2 ^ 31) : cdC (nI k) = 0 := by
  unfold cdC
  rw [if_neg (nI_nneg hk (by decide)), if_neg (nI_nneg hk (by decide)), if_neg (nI_nneg hk (by decide))]
theorem X7_casts (h : MoAt w c F ar) (r : RelS g (ar 1)) (hs : ∀ i j, i < 6 → j < 6 → g.sg i = g.sg j → i = j) (p hr : Int32) : MRun cdC c w F ar (f_X7_casts c p hr w) (castG g p hr) := by
  have h6 := r.2.2.2.1
  simp only [f_X7_casts, h.o, if_true, X7_isLayer h r.1 h6, X7_in, x_br, isLayer_if]
  rcases posG_or g h6 p with ⟨i, hi, rfl, hp⟩ | ⟨hq, hp⟩
  · rw [if_neg (fun hc : nI i < 0 ∨ nI g.n ≤ nI i => hc.elim (nI_pos (by omega)) (nI_ge hi (by omega))), if_neg (by decide)]
    by_cases c1 : ¬ hr < 6 ∧ ¬ 18 < hr
    · rw [if_pos c1, if_neg (by decide), h.r1, ob, oe, X7_n h, ob, r.1]
      have c2 : hr ≤ 18 := Int32.not_lt.mp c1.2
      by_cases hn : g.n < 6
      · rw [if_neg (fun hc : nI g.n = (6 : Int32) => absurd ((nI_eq (b := 6) (by omega) (by omega)).mp hc) (by omega)), X7_begins h hn, x_br]
        obtain ⟨b1, b2, b3, b4⟩ := r.2.2.2.2 i hi
        have h1 := h.sA 1 (by omega) (by omega) (begS g.n 109 (ar 1))
        have e2 : x_ist (wA w c 1 (begS g.n 109 (ar 1))) (c + 1) 0 0 (nI g.n + 1) = some (wA (wA w c 1 (begS g.n 109 (ar 1))) c 1 (upd (begS g.n 109 (ar 1)) 0 (nI (g.n + 1)))) := by
          rw [← nI_succ]
          exact h1.st 1 (by omega) (by omega) (i := 0) (by show 0 < 303; omega) (nI (g.n + 1))
        rw [h1.r1, ob, oe, e2, ob, wA_wA]
        have r1 := begS_rel r hn hs (x := 109)
        generalize hSS : upd (begS g.n 109 (ar 1)) 0 (nI (g.n + 1)) = S at r1 ⊢
        have hSl : ∀ q, q < 48 → S (3 + 50 * i + 2 + q) = g.t i q + 1 ∧ okT (g.t i q) := fun q hq => by
          rw [← hSS]
          unfold upd begS
          rw [if_neg (by omega), if_neg (by omega), if_neg (by omega), if_neg (by omega)]
          exact b4 q hq
        have hP : CsS S S g.n (fun c => if c < 48 then -1 else g.t g.n c) := ⟨fun q hq => by
          rw [← hSS]
          unfold upd begS
          rw [if_neg (by omega), if_neg (by omega), if_neg (by omega), if_pos (by omega)]
          show 0 = (if q < 48 then (-1 : Int32) else _) + 1
          rw [if_pos hq]
          decide, fun _ _ => rfl⟩
        obtain ⟨u', e3, hP'⟩ := X7_cst_L h (l := i) (tp := g.n) hi hn hSl hr 48 0 xfuel S _ (by omega) (by unfold xfuel; omega) hP
        rw [nI_0] at e3
        rw [fo_R] at hP'
        generalize hF : fo 48 (shF (g.t i) (hr - 12)) (fun c => if c < 48 then -1 else g.t g.n c) = T at hP'
        have hu : ∀ c, c < 48 → okT (T c) := by
          rw [← hF]
          unfold fo
          exact foldl_ok (fun u k hu => shF_ok u k hu) _ _ (fun c hc => by rw [if_pos hc]; exact okT_neg)
        have hs' : ∀ i j, i < 6 → j < 6 → (begG g 109).sg i = (begG g 109).sg j → i = j := hs
        have em : (begG g 109).m g.n = 109 := by simp [begG, WL.m, WL.put, WL.num, WL.md, WL.sg, WL.mk, WL.n]
        have evv : (begG g 109).v g.n = 1 := by simp [begG, WL.v, WL.put, WL.num, WL.vi, WL.sg, WL.mk, WL.n]
        have rel : ∀ (S' : Nat → Int32) (ps : Int32), (∀ j, j ≠ 1 → S' j = u' j) → S' 1 = ps → RelS ((g.num (g.n + 1) ps g.es).put (g.sg g.n) 109 1 T) S' := fun S' ps hj h1 => by
          have key := put_rel r1 hs' (i := g.n) (show g.n < g.n + 1 by omega) (ps := ps) (es := g.es) (u := T) (S' := S') ((hj 0 (by omega)).trans (hP'.2 0 (by omega))) h1 (by rw [hj 2 (by omega), hP'.2 2 (by omega)]; exact r1.2.2.1) (fun l hl => by
            have hl' : l < g.n + 1 := hl
            exact ⟨(hj _ (by omega)).trans (hP'.2 _ (by omega)), (hj _ (by omega)).trans (hP'.2 _ (by omega))⟩) (fun l hl hln k hk => by
            have hl' : l < g.n + 1 := hl
            exact (hj _ (by omega)).trans (hP'.2 _ (by omega))) (fun k hk => ⟨(hj _ (by omega)).trans (hP'.1 k hk), hu k hk⟩)
          rw [em, evv] at key
          have e9 : ((begG g 109).num (begG g 109).n ps g.es).put ((begG g 109).sg g.n) 109 1 T = (g.num (g.n + 1) ps g.es).put (g.sg g.n) 109 1 T := WL.put_num_put g (g.n + 1) g.ps g.es ps g.es (g.sg g.n) 109 1 _ T
          rw [e9] at key
          exact key
        have ton : ∀ ps, tonG ((g.num (g.n + 1) ps g.es).put (g.sg g.n) 109 1 T) g.n = tonesG T := fun ps => by
          unfold tonG tonesG
          have : ((g.num (g.n + 1) ps g.es).put (g.sg g.n) 109 1 T).t g.n = T := by simp [WL.t, WL.put, WL.num, WL.to, WL.sg, WL.mk]
          rw [this]
        have s1 : u' 1 = g.ps := by rw [hP'.2 1 (by omega)]; exact r1.2.1
        have h3 := h.sA 1 (by omega) (by omega) u'
        have r3 := rel u' g.ps (fun _ _ => rfl) s1
        have f3 := X7_full h3 (g := (g.num (g.n + 1) g.ps g.es).put (g.sg g.n) 109 1 T) r3 (l := g.n) (show g.n < g.n + 1 by omega)
        rw [ton] at f3
        have e4 : x_ild (wA w c 1 u') (c + 1) 0 1 = some g.ps := by
          rw [← s1]
          exact h3.ld 1 (by omega) (by omega) (i := 1) (by show 1 < 303; omega)
        have e5 : x_ist (wA w c 1 u') (c + 1) 0 1 (g.ps + nI (tonesG T)) = some (wA (wA w c 1 u') c 1 (upd u' 1 (g.ps + nI (tonesG T)))) := h3.st 1 (by omega) (by omega) (i := 1) (by show 1 < 303; omega) _
        have h4 := h.sA 1 (by omega) (by omega) (upd u' 1 (g.ps + nI (tonesG T)))
        have r4 := rel (upd u' 1 (g.ps + nI (tonesG T))) (g.ps + nI (tonesG T)) (fun j hj => by unfold upd; rw [if_neg hj]) (by unfold upd; rw [if_pos rfl])
        have f4 := X7_full h4 (g := (g.num (g.n + 1) (g.ps + nI (tonesG T)) g.es).put (g.sg g.n) 109 1 T) r4 (l := g.n) (show g.n < g.n + 1 by omega)
        rw [ton] at f4
        obtain ⟨w5, e6, h5, f5⟩ := X7_done h4 (nI (tonesG T))
        have ev : castG g (nI i) hr = (nI (tonesG T), (g.num (g.n + 1) (g.ps + nI (tonesG T)) g.es).put (g.sg g.n) 109 1 T) := by simp [castG, hp, c1.1, c2, hn, hF]
        have hle : tonesG T ≤ 48 := cnt_le _ _
        rw [ev]
        refine ⟨w5, upd F 17 (nI (tonesG T)), _, ?_, h5, (wA_fr (by omega) _).tr f5, fun k hk => by unfold upd; rw [if_neg hk], fun k hk _ _ => by rw [if_neg hk], r4, fun _ => by unfold upd; rw [if_pos rfl]⟩
        refine e3.trans ?_
        unfold cstE
        rw [h3.r1, ob, oe, e4, ob, if_pos h3.o, f3, x_br, e5, ob, wA_wA, if_pos h4.o, f4, x_br, if_pos h4.o, e6, x_br]
        show x_ret 0 w5 = x_ret (cdC (nI (tonesG T))) w5
        rw [cdC_nI (by omega)]
      · have hn6 : g.n = 6 := by omega
        rw [hn6, if_pos (show nI 6 = (6 : Int32) from rfl), show castG g (nI i) hr = (-4, g) by simp [castG, hp, c1.1, c2, hn]]
        exact MRun.stay h r (by decide) (by decide)
    · rw [if_neg c1, if_pos rfl]
      have ev : castG g (nI i) hr = (-3, g) := by
        by_cases c3 : hr < 6
        · simp [castG, hp, c3]
        · have c4 : ¬ hr ≤ 18 := fun hc => c1 ⟨c3, Int32.not_lt.mpr hc⟩
          simp [castG, hp, c4]
      rw [ev]
      exact MRun.stay h r (by decide) (by decide)
  · rw [if_pos hq, if_pos rfl, show castG g p hr = (-2, g) by simp [castG, hp]]
    exact MRun.stay h r (by decide) (by decide)
end X7q
