/-! ===== texts: the model reads numbers ===== -/
section X7v
variable {w : xW} {c : Nat} {F : Nat → Int32} {ar : Nat → Nat → Int32} {e cm p : Nat} {so : Int32}
/-- a place of the told numbers written -/
def tdA (ar : Nat → Nat → Int32) (j : Nat) (x : Int32) : Nat → Nat → Int32 := fun k => if k = 6 then upd (ar 6) j x else ar k
theorem ix7 (a b : Nat) : (7 : Int32) * nI a + nI b = nI (7 * a + b) := by
  rw [show (7 : Int32) = nI 7 from rfl, nI_mul, nI_add]
theorem X7_J63 (h : MoAt w c F ar) (h20 : F 20 = nI cm) (hc : cm ≤ 30) {kp dg : Nat} (hk : kp ≤ 6) (hd : dg ≤ 2) {b : Bool} (h21 : F 21 = if b = true then 0 else 1) (x3 : Int32) :
    ∃ w', f_X7_number_J63 c (nI kp) x3 (nI dg) w = x_ret () w' ∧ MoAt w' c (upd F 21 (if b = true ∧ dg ≠ 0 then 0 else 1)) (tdA ar (7 * cm + kp) x3) ∧ Fr (moc c) w w' := by
  have go : ∀ v : Int32, ∃ w', x_put w c 7 21 (.int v) = some (xset w c (.inr (7, moF c (upd F 21 v)))) ∧ x_getr (xset w c (.inr (7, moF c (upd F 21 v)))) c 7 8 = some (some (c + 6)) ∧ x_geti (xset w c (.inr (7, moF c (upd F 21 v)))) c 7 20 = some (nI cm) ∧ x_ist (xset w c (.inr (7, moF c (upd F 21 v)))) (c + 6) 0 (7 * nI cm + nI kp) x3 = some w' ∧ MoAt w' c (upd F 21 v) (tdA ar (7 * cm + kp) x3) ∧ Fr (moc c) w w' := fun v => by
    have h1 := h.sF (upd F 21 v)
    refine ⟨_, h.p21 v, h1.r8, ?_, ?_, h1.sA 6 (by omega) (by omega) (upd (ar 6) (7 * cm + kp) x3), (wF_fr _).tr (wA_fr (by omega) _)⟩
    · rw [h1.g20]
      show some (upd F 21 v 20) = _
      unfold upd
      rw [if_neg (by omega), h20]
    · rw [ix7]
      exact h1.st 6 (by omega) (by omega) (i := 7 * cm + kp) (by show _ < 420; omega) x3
  unfold f_X7_number_J63
  rw [h.g21, ob, h21]
  cases b with
  | true =>
    rw [if_pos rfl, if_pos rfl]
    by_cases h0 : dg = 0
    · subst h0
      obtain ⟨w', a1, a2, a3, a4, a5, a6⟩ := go 1
      rw [if_pos nI_0, a1, ob, a2, ob, a3, ob, oe, a4, ob, if_neg (fun hc => hc.2 rfl)]
      exact ⟨w', rfl, a5, a6⟩
    · obtain ⟨w', a1, a2, a3, a4, a5, a6⟩ := go 0
      rw [if_neg (nI_ne0 (by omega) (by omega)), a1, ob, a2, ob, a3, ob, oe, a4, ob, if_pos ⟨rfl, h0⟩]
      exact ⟨w', rfl, a5, a6⟩
  | false =>
    obtain ⟨w', a1, a2, a3, a4, a5, a6⟩ := go 1
    rw [if_neg (show ¬ false = true by decide), if_neg (by decide), a1, ob, a2, ob, a3, ob, oe, a4, ob, if_neg (fun hc => absurd hc.1 (by decide))]
    exact ⟨w', rfl, a5, a6⟩
theorem fit35 (x : Int32) : fitB 35 x = digB x := by
  unfold fitB
  rw [if_neg (by decide), if_pos (Or.inl rfl)]
/-- a digit here? -/
theorem dig_here (t : Nat → Int32) (q : Nat) : (¬ (if q < e then t q else -1) < 48 ∧ ¬ 57 < (if q < e then t q else (-1 : Int32))) ↔ nxtB t e 35 q = true := by
  have e0 : nxtB t e 35 q = (decide (q < e) && digB (t q)) := by unfold nxtB; rw [fit35]
  rw [e0]
  by_cases hq : q < e
  · rw [if_pos hq]
    unfold digB
    simp [hq]
  · rw [if_neg hq]
    simp [hq]
/-- a digit taken -/
theorem X7_dig (h : MoAt w c F ar) {q : Nat} (h8 : F 18 = nI q) (h9 : F 19 = nI e) (h21 : F 21 = 0) (he : e ≤ 60) (hq : q ≤ e) {kp mo dg : Nat} (hm : mo ≤ 2) (hd : dg < mo) (x3 : Int32) (fu : Nat) :
    f_X7_number_L5 (fu + 1) c (nI kp) (nI mo) x3 (nI dg) w = if nxtB (ar 5) e 35 q = true then f_X7_number_L5 fu c (nI kp) (nI mo) (((10 * x3) + ar 5 q) - 48) (nI (dg + 1)) (xset w c (.inr (7, moF c (upd F 18 (nI (q + 1)))))) else f_X7_number_J63 c (nI kp) x3 (nI dg) w := by
  have e1 := X7_here h (m := 0) h8 h9 he (by omega) (by omega)
  rw [nI_0, Nat.add_zero] at e1
  simp only [f_X7_number_L5]
  rw [h.g21, ob, h21, if_pos rfl, if_neg (nI_ge hd (by omega)), if_pos h.o, e1, x_br, X7_in, x_br]
  by_cases hn : nxtB (ar 5) e 35 q = true
  · have hqe : q < e := by
      unfold nxtB at hn
      simp at hn
      exact hn.1
    rw [if_pos ((dig_here (ar 5) q).mpr hn), if_neg (by decide), if_pos h.o, e1, x_br, h.g18, ob, h8, ← nI_succ, h.p18, ob, if_pos hn, if_pos hqe, ← nI_succ]
  · rw [if_neg (fun hc => hn ((dig_here (ar 5) q).mp hc)), if_pos rfl, if_neg hn]
theorem num_end (h : MoAt w c F ar) {mo dg : Nat} (hm : dg ≤ mo) (hm2 : mo ≤ 2) (hd : mo = dg) (h21 : F 21 = 0) (kp : Nat) (x3 : Int32) (fu : Nat) : f_X7_number_L5 (fu + 1) c (nI kp) (nI mo) x3 (nI dg) w = f_X7_number_J63 c (nI kp) x3 (nI dg) w := by
  simp only [f_X7_number_L5]
  rw [h.g21, ob, h21, if_pos rfl, if_pos (nI_le (by omega) (by omega))]
theorem num_wrong (h : MoAt w c F ar) (h21 : F 21 = 1) (kp : Nat) (x2 x3 x4 : Int32) (fu : Nat) : f_X7_number_L5 (fu + 1) c (nI kp) x2 x3 x4 w = f_X7_number_J63 c (nI kp) x3 x4 w := by
  simp only [f_X7_number_L5]
  rw [h.g21, ob, h21, if_neg (by decide)]
/-- the state behind a number told -/
theorem MP_end {F' F2 : Nat → Int32} {ar' : Nat → Nat → Int32} {w' : xW} {L L2 : List Int32} {kp q : Nat} {x : Int32} {b : Bool} (hk1 : 1 ≤ kp) (hk : b = true → (mtc (ar 5) e L p).2.2.2 + 1 = kp)
    (h : MoAt w' c (upd F2 21 (if b = true then 0 else 1)) (tdA ar' (7 * cm + kp) x)) (e18 : F2 18 = nI q)
    (m3 : ∀ k, k ≠ 18 → k ≠ 21 → F' k = F k) (z3 : ∀ k, k ≠ 18 → F2 k = F' k) (m4 : ∀ k, k ≠ 6 → ar' k = ar k) (m5 : ∀ j, j < 7 * cm → ar' 6 j = ar 6 j) (m6 : ar' 6 (7 * cm) = so)
    (m7 : b = true → ∀ i, i < (mtc (ar 5) e L p).2.2.2 → ar' 6 (7 * cm + 1 + i) = (mtc (ar 5) e L p).2.2.1 i) (hq : (mtc (ar 5) e L2 p).2.1 = q) (hb : (mtc (ar 5) e L2 p).1 = b)
    (hu : b = true → (mtc (ar 5) e L2 p).2.2.1 = upd (mtc (ar 5) e L p).2.2.1 (mtc (ar 5) e L p).2.2.2 x ∧ (mtc (ar 5) e L2 p).2.2.2 = (mtc (ar 5) e L p).2.2.2 + 1) : MP w' c F ar e cm so p L2 := by
  have hne : ∀ j, j ≠ 7 * cm + kp → tdA ar' (7 * cm + kp) x 6 j = ar' 6 j := fun j hj => by
    unfold tdA
    rw [if_pos rfl]
    unfold upd
    rw [if_neg hj]
  refine ⟨_, _, h, ?_, ?_, fun k k1 k2 => ?_, fun k k6 => ?_, fun j hj => ?_, ?_, fun h9 i hi => ?_⟩
  · rw [hq, ← e18]
    unfold upd
    rw [if_neg (by omega)]
  · rw [hb]
    unfold upd
    rw [if_pos rfl]
  · unfold upd
    rw [if_neg k2, z3 k k1]
    exact m3 k k1 k2
  · unfold tdA
    rw [if_neg k6]
    exact m4 k k6
  · rw [hne j (by omega)]
    exact m5 j hj
  · rw [hne _ (by omega)]
    exact m6
  · rw [hb] at h9
    obtain ⟨u1, u2⟩ := hu h9
    have hk9 := hk h9
    rw [u1]
    rw [u2] at hi
    by_cases hik : i = (mtc (ar 5) e L p).2.2.2
    · rw [hik]
      have e7 : 7 * cm + 1 + (mtc (ar 5) e L p).2.2.2 = 7 * cm + kp := by omega
      rw [e7]
      unfold tdA upd
      rw [if_pos rfl, if_pos rfl, if_pos rfl]
    · rw [hne _ (by omega), m7 h9 i (by omega)]
      unfold upd
      rw [if_neg hik]
theorem ten0 (x : Int32) : (10 : Int32) * 0 + x - 48 = x - 48 := by
  rw [show (10 : Int32) * 0 = 0 by decide, Int32.zero_add]
/-- one digit -/
theorem num1_MP (H : RdH F e cm p) {L : List Int32} (M : MP w c F ar e cm so p L) {kp : Nat} (hk1 : 1 ≤ kp) (hk6 : kp ≤ 6) (hk : (mtc (ar 5) e L p).1 = true → (mtc (ar 5) e L p).2.2.2 + 1 = kp) : ∃ w', f_X7_number c (nI kp) 1 w = x_ret () w' ∧ MP w' c F ar e cm so p (L ++ [35]) ∧ Fr (moc c) w w' := by
  obtain ⟨H1, H2, H3, H4, H5⟩ := H
  obtain ⟨F', ar', h, m1, m2, m3, m4, m5, m6, m7⟩ := M
  have e5 : ar' 5 = ar 5 := m4 5 (by omega)
  have h20 : F' 20 = nI cm := (m3 20 (by omega) (by omega)).trans H2
  have h19 : F' 19 = nI e := (m3 19 (by omega) (by omega)).trans H1
  have hle : (mtc (ar 5) e L p).2.1 ≤ e := mt_le _ _ _ _ _ _ H5
  have ea := mtc_app (ar 5) e L [35] p
  obtain ⟨N, hN⟩ : ∃ N, xfuel = N + 1 + 1 := ⟨4998, rfl⟩
  unfold f_X7_number
  rw [hN]
  by_cases hok : (mtc (ar 5) e L p).1 = true
  · rw [if_pos hok] at m2 ea
    have e1 := X7_dig h m1 h19 m2 H3 hle (kp := kp) (mo := 1) (dg := 0) (by omega) (by omega) 0 (N + 1)
    rw [e5, nI_0] at e1
    rw [show (1 : Int32) = nI 1 from rfl, e1]
    by_cases hn : nxtB (ar 5) e 35 (mtc (ar 5) e L p).2.1 = true
    · rw [if_pos hn]
      have h2 := h.sF (upd F' 18 (nI ((mtc (ar 5) e L p).2.1 + 1)))
      have e2 := num_end h2 (mo := 1) (dg := 0 + 1) (by omega) (by omega) (by omega) (by unfold upd; rw [if_neg (by omega)]; exact m2) kp (((10 * 0) + ar 5 (mtc (ar 5) e L p).2.1) - 48) N
      obtain ⟨w3, e3, q1, q2⟩ := X7_J63 h2 (cm := cm) (by unfold upd; rw [if_neg (by omega)]; exact h20) H4 (kp := kp) (dg := 0 + 1) hk6 (by omega) (b := true) (by unfold upd; rw [if_neg (by omega)]; exact m2) (((10 * 0) + ar 5 (mtc (ar 5) e L p).2.1) - 48)
      rw [if_pos ⟨rfl, by omega⟩] at q1
      rw [mt_cons, if_pos hn] at ea
      refine ⟨w3, e2.trans e3, ?_, (wF_fr _).tr q2⟩
      refine MP_end (b := true) (L := L) (q := (mtc (ar 5) e L p).2.1 + 1) hk1 (fun _ => hk hok) q1 (by unfold upd; rw [if_pos rfl]) m3 (fun k k1 => by unfold upd; rw [if_neg k1]) m4 m5 m6 (fun _ => m7 hok) (by rw [ea]; rfl) (by rw [ea]; rfl) (fun _ => ?_)
      rw [ea, ten0]
      exact ⟨rfl, rfl⟩
    · rw [if_neg hn]
      obtain ⟨w3, e3, q1, q2⟩ := X7_J63 h (cm := cm) h20 H4 (kp := kp) (dg := 0) hk6 (by omega) (b := true) m2 0
      rw [if_neg (fun hc => hc.2 rfl)] at q1
      rw [mt_cons, if_neg hn, if_neg (by decide)] at ea
      rw [nI_0] at e3
      refine ⟨w3, e3, ?_, q2⟩
      exact MP_end (b := false) (L := L) (q := (mtc (ar 5) e L p).2.1) (F2 := F') hk1 (fun hc => by cases hc) q1 m1 m3 (fun k k1 => rfl) m4 m5 m6 (fun hc => by cases hc) (by rw [ea]) (by rw [ea]) (fun hc => by cases hc)
  · have hw : F' 21 = 1 := by rw [m2, if_neg hok]
    rw [if_neg hok] at ea
    obtain ⟨w3, e3, q1, q2⟩ := X7_J63 h (cm := cm) h20 H4 (kp := kp) (dg := 0) hk6 (by omega) (b := false) (by rw [hw]; rfl) 0
    rw [if_neg (fun hc => hc.2 rfl)] at q1
    rw [nI_0] at e3
    refine ⟨w3, (num_wrong h hw kp 1 0 0 (N + 1)).trans e3, ?_, q2⟩
    exact MP_end (b := false) (L := L) (q := (mtc (ar 5) e L p).2.1) (F2 := F') hk1 (fun hc => by cases hc) q1 m1 m3 (fun k k1 => rfl) m4 m5 m6 (fun hc => by cases hc) (by rw [ea]) (by rw [ea]; simpa using hok) (fun hc => by cases hc)
theorem ten1 (a x : Int32) : (10 : Int32) * (a - 48) + x - 48 = (a - 48) * 10 + x - 48 := by rw [Int32.mul_comm]
/-- one digit or two -/
theorem num2_MP (H : RdH F e cm p) {L : List Int32} (M : MP w c F ar e cm so p L) {kp : Nat} (hk1 : 1 ≤ kp) (hk6 : kp ≤ 6) (hk : (mtc (ar 5) e L p).1 = true → (mtc (ar 5) e L p).2.2.2 + 1 = kp) : ∃ w', f_X7_number c (nI kp) 2 w = x_ret () w' ∧ MP w' c F ar e cm so p (L ++ [35, 43]) ∧ Fr (moc c) w w' := by
  obtain ⟨H1, H2, H3, H4, H5⟩ := H
  obtain ⟨F', ar', h, m1, m2, m3, m4, m5, m6, m7⟩ := M
  have e5 : ar' 5 = ar 5 := m4 5 (by omega)
  have h20 : F' 20 = nI cm := (m3 20 (by omega) (by omega)).trans H2
  have h19 : F' 19 = nI e := (m3 19 (by omega) (by omega)).trans H1
  have hle : (mtc (ar 5) e L p).2.1 ≤ e := mt_le _ _ _ _ _ _ H5
  have ea := mtc_app (ar 5) e L [35, 43] p
  obtain ⟨N, hN⟩ : ∃ N, xfuel = N + 1 + 1 + 1 := ⟨4997, rfl⟩
  unfold f_X7_number
  rw [hN]
  by_cases hok : (mtc (ar 5) e L p).1 = true
  · rw [if_pos hok] at m2 ea
    have e1 := X7_dig h m1 h19 m2 H3 hle (kp := kp) (mo := 2) (dg := 0) (by omega) (by omega) 0 (N + 1 + 1)
    rw [e5, nI_0] at e1
    rw [show (2 : Int32) = nI 2 from rfl, e1]
    by_cases hn : nxtB (ar 5) e 35 (mtc (ar 5) e L p).2.1 = true
    · rw [if_pos hn]
      have hlt : (mtc (ar 5) e L p).2.1 < e := by
        unfold nxtB at hn
        simp at hn
        exact hn.1
      have h2 := h.sF (upd F' 18 (nI ((mtc (ar 5) e L p).2.1 + 1)))
      have u18 : upd F' 18 (nI ((mtc (ar 5) e L p).2.1 + 1)) 18 = nI ((mtc (ar 5) e L p).2.1 + 1) := by unfold upd; rw [if_pos rfl]
      have u21 : upd F' 18 (nI ((mtc (ar 5) e L p).2.1 + 1)) 21 = 0 := by unfold upd; rw [if_neg (by omega)]; exact m2
      have u20 : upd F' 18 (nI ((mtc (ar 5) e L p).2.1 + 1)) 20 = nI cm := by unfold upd; rw [if_neg (by omega)]; exact h20
      have u19 : upd F' 18 (nI ((mtc (ar 5) e L p).2.1 + 1)) 19 = nI e := by unfold upd; rw [if_neg (by omega)]; exact h19
      have e2 := X7_dig h2 u18 u19 u21 H3 hlt (kp := kp) (mo := 2) (dg := 0 + 1) (by omega) (by omega) (((10 * 0) + ar 5 (mtc (ar 5) e L p).2.1) - 48) (N + 1)
      rw [e5] at e2
      rw [e2]
      rw [mt_cons, if_pos hn, mt_cons] at ea
      have hn43 : nxtB (ar 5) e 43 ((mtc (ar 5) e L p).2.1 + 1) = nxtB (ar 5) e 35 ((mtc (ar 5) e L p).2.1 + 1) := by
        unfold nxtB fitB
        rw [if_neg (by decide), if_pos (Or.inr rfl), if_neg (by decide), if_pos (Or.inl rfl)]
      rw [hn43] at ea
      by_cases hn2 : nxtB (ar 5) e 35 ((mtc (ar 5) e L p).2.1 + 1) = true
      · rw [if_pos hn2]
        rw [if_pos hn2] at ea
        have h3 := h2.sF (upd (upd F' 18 (nI ((mtc (ar 5) e L p).2.1 + 1))) 18 (nI ((mtc (ar 5) e L p).2.1 + 1 + 1)))
        have e3 := num_end h3 (mo := 2) (dg := 0 + 1 + 1) (by omega) (by omega) (by omega) (by unfold upd; rw [if_neg (by omega), if_neg (by omega)]; exact m2) kp (((10 * (((10 * 0) + ar 5 (mtc (ar 5) e L p).2.1) - 48)) + ar 5 ((mtc (ar 5) e L p).2.1 + 1)) - 48) N
        obtain ⟨w4, e4, q1, q2⟩ := X7_J63 h3 (cm := cm) (by unfold upd; rw [if_neg (by omega), if_neg (by omega)]; exact h20) H4 (kp := kp) (dg := 0 + 1 + 1) hk6 (by omega) (b := true) (by unfold upd; rw [if_neg (by omega), if_neg (by omega)]; exact m2) (((10 * (((10 * 0) + ar 5 (mtc (ar 5) e L p).2.1) - 48)) + ar 5 ((mtc (ar 5) e L p).2.1 + 1)) - 48)
        rw [if_pos ⟨rfl, by omega⟩] at q1
        refine ⟨w4, e3.trans e4, ?_, ((wF_fr _).tr (wF_fr _)).tr q2⟩
        refine MP_end (b := true) (L := L) (q := (mtc (ar 5) e L p).2.1 + 1 + 1) (F' := F') hk1 (fun _ => hk hok) q1 (by unfold upd; rw [if_pos rfl]) m3 (fun k k1 => by unfold upd; rw [if_neg k1, if_neg k1]) m4 m5 m6 (fun _ => m7 hok) (by rw [ea]; rfl) (by rw [ea]; rfl) (fun _ => ?_)
        rw [ea, ten0, ten1]
        refine ⟨?_, rfl⟩
        show upd (upd (mtc (ar 5) e L p).2.2.1 (mtc (ar 5) e L p).2.2.2 (ar 5 (mtc (ar 5) e L p).2.1 - 48)) ((mtc (ar 5) e L p).2.2.2 + 1 - 1) (upd (mtc (ar 5) e L p).2.2.1 (mtc (ar 5) e L p).2.2.2 (ar 5 (mtc (ar 5) e L p).2.1 - 48) ((mtc (ar 5) e L p).2.2.2 + 1 - 1) * 10 + ar 5 ((mtc (ar 5) e L p).2.1 + 1) - 48) = _
        rw [Nat.add_sub_cancel]
        funext i
        unfold upd
        rw [if_pos rfl]
        by_cases hi : i = (mtc (ar 5) e L p).2.2.2
        · rw [if_pos hi, if_pos hi]
        · rw [if_neg hi, if_neg hi, if_neg hi]
      · rw [if_neg hn2]
        rw [if_neg hn2, if_pos rfl] at ea
        obtain ⟨w4, e4, q1, q2⟩ := X7_J63 h2 (cm := cm) u20 H4 (kp := kp) (dg := 0 + 1) hk6 (by omega) (b := true) u21 (((10 * 0) + ar 5 (mtc (ar 5) e L p).2.1) - 48)
        rw [if_pos ⟨rfl, by omega⟩] at q1
        refine ⟨w4, e4, ?_, (wF_fr _).tr q2⟩
        refine MP_end (b := true) (L := L) (q := (mtc (ar 5) e L p).2.1 + 1) (F' := F') hk1 (fun _ => hk hok) q1 u18 m3 (fun k k1 => by unfold upd; rw [if_neg k1]) m4 m5 m6 (fun _ => m7 hok) (by rw [ea]; rfl) (by rw [ea]; rfl) (fun _ => ?_)
        rw [ea, ten0]
        exact ⟨rfl, rfl⟩
    · rw [if_neg hn]
      obtain ⟨w3, e3, q1, q2⟩ := X7_J63 h (cm := cm) h20 H4 (kp := kp) (dg := 0) hk6 (by omega) (b := true) m2 0
      rw [if_neg (fun hc => hc.2 rfl)] at q1
      rw [mt_cons, if_neg hn, if_neg (by decide)] at ea
      rw [nI_0] at e3
      refine ⟨w3, e3, ?_, q2⟩
      exact MP_end (b := false) (L := L) (q := (mtc (ar 5) e L p).2.1) (F2 := F') hk1 (fun hc => by cases hc) q1 m1 m3 (fun k k1 => rfl) m4 m5 m6 (fun hc => by cases hc) (by rw [ea]) (by rw [ea]) (fun hc => by cases hc)
  · have hw : F' 21 = 1 := by rw [m2, if_neg hok]
    rw [if_neg hok] at ea
    obtain ⟨w3, e3, q1, q2⟩ := X7_J63 h (cm := cm) h20 H4 (kp := kp) (dg := 0) hk6 (by omega) (b := false) (by rw [hw]; rfl) 0
    rw [if_neg (fun hc => hc.2 rfl)] at q1
    rw [nI_0] at e3
    refine ⟨w3, (num_wrong h hw kp 2 0 0 (N + 1 + 1)).trans e3, ?_, q2⟩
    exact MP_end (b := false) (L := L) (q := (mtc (ar 5) e L p).2.1) (F2 := F') hk1 (fun hc => by cases hc) q1 m1 m3 (fun k k1 => rfl) m4 m5 m6 (fun hc => by cases hc) (by rw [ea]) (by rw [ea]; simpa using hok) (fun hc => by cases hc)
end X7v
