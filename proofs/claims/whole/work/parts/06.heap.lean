section XH
variable {Γ : xG} {p : Program} {l : Launch} {e : Env} {R : Room} {s : State} {m : MethodId} {args : Array Value} {below : List Frame} {meth : Method} {c : Code} {nL : Nat} {Q : State → Prop} {w : xW} {cells slots pc : Nat} {lv lv' : List (Nat × Value)} {st : List Value}
variable {own : String} {cc : ByteArray} {ret : Option FieldType}
theorem xG_K (G : xCx Γ p l s m args meth c own cc nL ret) : va_K Γ.1 xcl (xtys Γ) s := G.2.2.2.2.2.1.1
theorem xty_in (Γ : xG) (t : Nat) (ht : t ≤ 5) : ∃ k : Nat, (xtys Γ)[k]? = some (Γ.2.1 t, xty t) := by
  rcases (show t = 0 ∨ t = 1 ∨ t = 2 ∨ t = 3 ∨ t = 4 ∨ t = 5 by omega) with rfl | rfl | rfl | rfl | rfl | rfl
  · exact ⟨0, rfl⟩
  · exact ⟨1, rfl⟩
  · exact ⟨2, rfl⟩
  · exact ⟨3, rfl⟩
  · exact ⟨4, rfl⟩
  · exact ⟨5, rfl⟩
/-- a field that holds a value -/
theorem r_getv (G : xCx Γ p l s m args meth c own cc nL ret) {C ref : String} {T : u_T} {N ci ix a : Nat} (k : Nat) {v : Value} (hv : x_get w a ci k = some v) (hc : xcl[ci]? = some (C, T, N)) (hin : ∀ w ∈ u_ws C T N, w ∈ xWS) (hk : k < N) (href : (T k).1 = ref)
    (hlink : Cond.fieldLink own ix ref (T k).2.1 (T k).2.2.1 ∈ xWS) (hd : decode cc pc = .ok (.getfield ix, 3))
    (kk : xAW Γ p l e R s m args below meth c nL Q w cells slots (pc + 3) lv (v :: st)) : xAW Γ p l e R s m args below meth c nL Q w cells slots pc lv (.ref a :: st) := by
  subst href
  obtain ⟨fs, h1, h2⟩ := x_get_e hv
  exact fun H locs ls hR hS hL => va_get (ws := [(a, .inr (ci, fs))]) G.1 G.2.1 G.2.2.2.2.1 hin G.2.2.2.1 (xG_K G) (xP1 (hR.2.2 _ _ h1).2) 0 rfl hc k hk (G.2.2.2.2.1 _ hlink) (fun _ h9 => h9) h2 hd (kk H locs ls hR hS hL)
/-- .. of another class of the nest -/
theorem r_getvN (G : xCx Γ p l s m args meth c own cc nL ret) {C ref host : String} {T : u_T} {N ci ix a : Nat} (k : Nat) {v : Value} (hv : x_get w a ci k = some v) (hc : xcl[ci]? = some (C, T, N)) (hin : ∀ w ∈ u_ws C T N, w ∈ xWS) (hk : k < N) (href : (T k).1 = ref)
    (hlink : Cond.fieldLinkNest own ix ref (T k).2.1 (T k).2.2.1 host ∈ xNS) (hd : decode cc pc = .ok (.getfield ix, 3))
    (kk : xAW Γ p l e R s m args below meth c nL Q w cells slots (pc + 3) lv (v :: st)) : xAW Γ p l e R s m args below meth c nL Q w cells slots pc lv (.ref a :: st) := by
  subst href
  obtain ⟨fs, h1, h2⟩ := x_get_e hv
  exact fun H locs ls hR hS hL => va_getN (ws := [(a, .inr (ci, fs))]) G.1 G.2.1 G.2.2.2.2.1 hin G.2.2.2.1 (xG_K G) (xP1 (hR.2.2 _ _ h1).2) 0 rfl hc k hk (va_Nw.use rfl (G.2.2.2.2.2.1.2.1 _ hlink)) (fun _ h9 => h9) h2 hd (kk H locs ls hR hS hL)
/-- a cell after a write of a field, said of the world -/
theorem r_putv (G : xCx Γ p l s m args meth c own cc nL ret) {C ref : String} {T : u_T} {N ci ix a : Nat} (ty0 : Nat → FieldType) (hty : ∀ k, k < N → parseFieldDescriptor (T k).2.2.1 = some (ty0 k)) (hnm : ∀ a, a < N → ∀ b, b < N → a ≠ b → (T a).2.1 ≠ (T b).2.1) (k : Nat) {v : Value} {w1 : xW} (hv : x_put w a ci k v = some w1)
    (hc : xcl[ci]? = some (C, T, N)) (hin : ∀ w ∈ u_ws C T N, w ∈ xWS) (hk : k < N) (href : (T k).1 = ref) (hlink : Cond.fieldLink own ix ref (T k).2.1 (T k).2.2.1 ∈ xWS) (hfin : (T k).2.2.2 = false) (hn : narrow (ty0 k) v = v) (hfit : fits (ty0 k) v = true) (hd : decode cc pc = .ok (.putfield ix, 3))
    (kk : xAW Γ p l e R s m args below meth c nL Q w1 cells slots (pc + 3) lv st) : xAW Γ p l e R s m args below meth c nL Q w cells slots pc lv (v :: .ref a :: st) := by
  subst href
  obtain ⟨fs, h1, hl, rfl⟩ := x_put_e hv
  intro H locs ls hR hS0 hL
  have hts := G.2.2.2.2.1
  have hK := xG_K G
  have hap := va_apart (own := own) hts hin ty0 hty hnm hK hc
  obtain ⟨hza, r, h1', cell, q1, q2, q3, q4⟩ := hR.2.2 _ _ h1
  have hr : r = (C, T, N) := Option.some.inj (h1'.symm.trans hc)
  subst hr
  obtain ⟨hSl, hfc, kC, hkC, hkind⟩ := hK.1 ci _ hc
  obtain ⟨cf, kf, fi, f, hi, hsl⟩ := hSl k hk
  have hlay := hts _ (hin _ (u_in_lay hk))
  unfold u_lay at hlay
  rw [if_neg (by rw [hfin]; decide)] at hlay
  have hst := (u_facts hfc hkC (u_lays hts hin hk) hi).1
  have h6 := u_store hfc hkC hkind hlay hi (hty k hk) hn hfit
  refine W.putK G.1 G.2.1 (f := f) ⟨G.2.2.2.1, hts _ hlink, ⟨_, _, _, hi⟩, hst⟩ (by rw [q2]; exact h6) q1 q3 (by rw [hsl]; exact k2_hasslot (q4 k hk)) rfl rfl hd fun H' e1 e2 e3 => ?_
  rw [hsl] at e1 ⊢
  exact kk H' _ ls (hR.set h1 ⟨_, hc, t_OB.to (V := updV (vp_V fs) k v) ⟨_, e1, q2, q3, t_set q4 hap hk v⟩ (fun j _ => vp_updV_set hl v j)⟩ e2 e3) (hS0.put e2 e3 hza) hL
/-- .. of a final field, in the constructor -/
theorem r_putvF (G : xCx Γ p l s m args meth c own cc nL ret) (hin2 : meth.name = "<init>") {C ref : String} {T : u_T} {N ci ix a : Nat} (ty0 : Nat → FieldType) (hty : ∀ k, k < N → parseFieldDescriptor (T k).2.2.1 = some (ty0 k)) (hnm : ∀ a, a < N → ∀ b, b < N → a ≠ b → (T a).2.1 ≠ (T b).2.1) (k : Nat) {v : Value} {w1 : xW} (hv : x_put w a ci k v = some w1)
    (hc : xcl[ci]? = some (C, T, N)) (hin : ∀ w ∈ u_ws C T N, w ∈ xWS) (hk : k < N) (href : (T k).1 = ref) (hdecl : (T k).1 = own) (hlink : Cond.fieldLink own ix ref (T k).2.1 (T k).2.2.1 ∈ xWS) (hfin : (T k).2.2.2 = true) (hn : narrow (ty0 k) v = v) (hfit : fits (ty0 k) v = true) (hd : decode cc pc = .ok (.putfield ix, 3))
    (kk : xAW Γ p l e R s m args below meth c nL Q w1 cells slots (pc + 3) lv st) : xAW Γ p l e R s m args below meth c nL Q w cells slots pc lv (v :: .ref a :: st) := by
  subst href
  obtain ⟨fs, h1, hl, rfl⟩ := x_put_e hv
  intro H locs ls hR hS0 hL
  have hts := G.2.2.2.2.1
  have hown := G.2.2.2.1
  have hK := xG_K G
  have hap := va_apart (own := own) hts hin ty0 hty hnm hK hc
  obtain ⟨hza, r, h1', cell, q1, q2, q3, q4⟩ := hR.2.2 _ _ h1
  have hr : r = (C, T, N) := Option.some.inj (h1'.symm.trans hc)
  subst hr
  obtain ⟨hSl, hfc, kC, hkC, hkind⟩ := hK.1 ci _ hc
  obtain ⟨cf, kf, fi, f, hi, hsl⟩ := hSl k hk
  have hlay := hts _ (hin _ (u_in_lay hk))
  unfold u_lay at hlay
  rw [if_pos hfin] at hlay
  have hst := (u_facts hfc hkC (u_lays hts hin hk) hi).1
  have hcf : m.cls = cf := by
    obtain ⟨_, _, c', _, _, _, -, -, hf', -, -, -, hown2, -⟩ := Cond.laysFinal_spec hlay
    have e1 : c' = cf := by have := hi.symm.trans hf'; simp at this; exact this.1.symm
    rw [hdecl] at hown2
    rw [← e1]; exact Option.some.inj (hown.symm.trans hown2)
  have h6 := u_fits hfc hkC hkind (Or.inr hlay) hi (hty k hk) hn hfit
  refine W.putFinK G.1 G.2.1 hown (hts _ hlink) hi hst hcf hin2 (by rw [q2]; exact h6) q1 q3 (by rw [hsl]; exact k2_hasslot (q4 k hk)) rfl rfl hd fun H' e1 e2 e3 => ?_
  rw [hsl] at e1 ⊢
  exact kk H' _ ls (hR.set h1 ⟨_, hc, t_OB.to (V := updV (vp_V fs) k v) ⟨_, e1, q2, q3, t_set q4 hap hk v⟩ (fun j _ => vp_updV_set hl v j)⟩ e2 e3) (hS0.put e2 e3 hza) hL
/-- .. of another class of the nest -/
theorem r_putvN (G : xCx Γ p l s m args meth c own cc nL ret) {C ref host : String} {T : u_T} {N ci ix a : Nat} (ty0 : Nat → FieldType) (hty : ∀ k, k < N → parseFieldDescriptor (T k).2.2.1 = some (ty0 k)) (hnm : ∀ a, a < N → ∀ b, b < N → a ≠ b → (T a).2.1 ≠ (T b).2.1) (k : Nat) {v : Value} {w1 : xW} (hv : x_put w a ci k v = some w1)
    (hc : xcl[ci]? = some (C, T, N)) (hin : ∀ w ∈ u_ws C T N, w ∈ xWS) (hk : k < N) (href : (T k).1 = ref) (hlink : Cond.fieldLinkNest own ix ref (T k).2.1 (T k).2.2.1 host ∈ xNS) (hfin : (T k).2.2.2 = false) (hn : narrow (ty0 k) v = v) (hfit : fits (ty0 k) v = true) (hd : decode cc pc = .ok (.putfield ix, 3))
    (kk : xAW Γ p l e R s m args below meth c nL Q w1 cells slots (pc + 3) lv st) : xAW Γ p l e R s m args below meth c nL Q w cells slots pc lv (v :: .ref a :: st) := by
  subst href
  obtain ⟨fs, h1, hl, rfl⟩ := x_put_e hv
  intro H locs ls hR hS0 hL
  have hts := G.2.2.2.2.1
  have hK := xG_K G
  have hap := va_apart (own := own) hts hin ty0 hty hnm hK hc
  obtain ⟨hza, r, h1', cell, q1, q2, q3, q4⟩ := hR.2.2 _ _ h1
  have hr : r = (C, T, N) := Option.some.inj (h1'.symm.trans hc)
  subst hr
  obtain ⟨hSl, hfc, kC, hkC, hkind⟩ := hK.1 ci _ hc
  obtain ⟨cf, kf, fi, f, hi, hsl⟩ := hSl k hk
  have hlay := hts _ (hin _ (u_in_lay hk))
  unfold u_lay at hlay
  rw [if_neg (by rw [hfin]; decide)] at hlay
  have hst := (u_facts hfc hkC (u_lays hts hin hk) hi).1
  have h6 := u_store hfc hkC hkind hlay hi (hty k hk) hn hfit
  refine va_WputK G.1 G.2.1 (f := f) G.2.2.2.1 (va_Nw.use rfl (G.2.2.2.2.2.1.2.1 _ hlink)) hi hst (by rw [q2]; exact h6) q1 q3 (by rw [hsl]; exact k2_hasslot (q4 k hk)) rfl rfl hd fun H' e1 e2 e3 => ?_
  rw [hsl] at e1 ⊢
  exact kk H' _ ls (hR.set h1 ⟨_, hc, t_OB.to (V := updV (vp_V fs) k v) ⟨_, e1, q2, q3, t_set q4 hap hk v⟩ (fun j _ => vp_updV_set hl v j)⟩ e2 e3) (hS0.put e2 e3 hza) hL
theorem r_len (G : xCx Γ p l s m args meth c own cc nL ret) {a : Nat} {x : Int32} (hv : x_len w a = some x) (hd : decode cc pc = .ok (.arraylength, 1))
    (kk : xAW Γ p l e R s m args below meth c nL Q w cells slots (pc + 1) lv (.int x :: st)) : xAW Γ p l e R s m args below meth c nL Q w cells slots pc lv (.ref a :: st) := by
  obtain ⟨k, n, f, h1, hk, rfl⟩ := x_len_e hv
  obtain ⟨t0, h0⟩ := xty_in Γ k hk
  exact fun H locs ls hR hS hL => va_alen (ws := [(a, .inl (Γ.2.1 k, n, f))]) G.1 G.2.1 (xG_K G) (xP1 (hR.2.2 _ _ h1).2) 0 t0 rfl h0 rfl hd (kk H locs ls hR hS hL)
theorem r_iald (G : xCx Γ p l s m args meth c own cc nL ret) {a : Nat} {i x : Int32} (hv : x_ild w a 0 i = some x) (hd : decode cc pc = .ok (.iaload, 1))
    (kk : xAW Γ p l e R s m args below meth c nL Q w cells slots (pc + 1) lv (.int x :: st)) : xAW Γ p l e R s m args below meth c nL Q w cells slots pc lv (.int i :: .ref a :: st) := by
  obtain ⟨n, f, h1, h2, rfl⟩ := x_ild_e hv
  exact fun H locs ls hR hS hL => va_iald (ws := [(a, .inl (Γ.2.1 0, n, .inl f))]) G.1 G.2.1 (xG_K G) (xP1 (hR.2.2 _ _ h1).2) 0 0 rfl rfl h2 hd (kk H locs ls hR hS hL)
theorem r_cald (G : xCx Γ p l s m args meth c own cc nL ret) {a : Nat} {i x : Int32} (hv : x_ild w a 1 i = some x) (hd : decode cc pc = .ok (.caload, 1))
    (kk : xAW Γ p l e R s m args below meth c nL Q w cells slots (pc + 1) lv (.int x :: st)) : xAW Γ p l e R s m args below meth c nL Q w cells slots pc lv (.int i :: .ref a :: st) := by
  obtain ⟨n, f, h1, h2, rfl⟩ := x_ild_e hv
  exact fun H locs ls hR hS hL => va_cald (ws := [(a, .inl (Γ.2.1 1, n, .inl f))]) G.1 G.2.1 (xG_K G) (xP1 (hR.2.2 _ _ h1).2) 0 1 rfl rfl h2 hd (kk H locs ls hR hS hL)
theorem r_zald (G : xCx Γ p l s m args meth c own cc nL ret) {a : Nat} {i x : Int32} (hv : x_ild w a 2 i = some x) (hd : decode cc pc = .ok (.baload, 1))
    (kk : xAW Γ p l e R s m args below meth c nL Q w cells slots (pc + 1) lv (.int x :: st)) : xAW Γ p l e R s m args below meth c nL Q w cells slots pc lv (.int i :: .ref a :: st) := by
  obtain ⟨n, f, h1, h2, rfl⟩ := x_ild_e hv
  exact fun H locs ls hR hS hL => va_zald (ws := [(a, .inl (Γ.2.1 2, n, .inl f))]) G.1 G.2.1 (xG_K G) (xP1 (hR.2.2 _ _ h1).2) 0 2 rfl rfl h2 hd (kk H locs ls hR hS hL)
theorem r_lald (G : xCx Γ p l s m args meth c own cc nL ret) {a : Nat} {i : Int32} {x : Int64} (hv : x_lld w a i = some x) (hd : decode cc pc = .ok (.laload, 1))
    (kk : xAW Γ p l e R s m args below meth c nL Q w cells slots (pc + 1) lv (.long x :: st)) : xAW Γ p l e R s m args below meth c nL Q w cells slots pc lv (.int i :: .ref a :: st) := by
  obtain ⟨n, f, h1, h2, rfl⟩ := x_lld_e hv
  exact fun H locs ls hR hS hL => va_lald (ws := [(a, .inl (Γ.2.1 5, n, .inr (.inl f)))]) G.1 G.2.1 (xG_K G) (xP1 (hR.2.2 _ _ h1).2) 0 5 rfl rfl h2 hd (kk H locs ls hR hS hL)
theorem r_aald (G : xCx Γ p l s m args meth c own cc nL ret) {a : Nat} (t : Nat) {C : String} (hC : xty t = .object C) (ht : t ≤ 5) {i : Int32} {x : Option Nat} (hv : x_ald w a t i = some x) (hd : decode cc pc = .ok (.aaload, 1))
    (kk : xAW Γ p l e R s m args below meth c nL Q w cells slots (pc + 1) lv (va_rf x :: st)) : xAW Γ p l e R s m args below meth c nL Q w cells slots pc lv (.int i :: .ref a :: st) := by
  obtain ⟨n, f, h1, h2, rfl⟩ := x_ald_e hv
  obtain ⟨t0, h0⟩ := xty_in Γ t ht
  rw [hC] at h0
  exact fun H locs ls hR hS hL => va_aldq (ws := [(a, .inl (Γ.2.1 t, n, .inr (.inr (.inr (.inr f)))))]) G.1 G.2.1 (xG_K G) (xP1 (hR.2.2 _ _ h1).2) 0 t0 rfl h0 h2 hd (kk H locs ls hR hS hL)
theorem r_iast (G : xCx Γ p l s m args meth c own cc nL ret) {a : Nat} {i x : Int32} {w1 : xW} (hv : x_ist w a 0 i x = some w1) (hd : decode cc pc = .ok (.iastore, 1))
    (kk : xAW Γ p l e R s m args below meth c nL Q w1 cells slots (pc + 1) lv st) : xAW Γ p l e R s m args below meth c nL Q w cells slots pc lv (.int x :: .int i :: .ref a :: st) := by
  obtain ⟨n, f, h1, h2, rfl⟩ := x_ist_e hv
  intro H locs ls hR hS hL
  obtain ⟨hza, hat⟩ := hR.2.2 _ _ h1
  refine W.iast G.1 G.2.1 hat (((xG_K G).2 0 _ rfl).1 n (fun j => .int (f j))) (fun q => by cases q) (by show ¬ (i < 0 ∨ (arrV _ _ _).slots.size ≤ _); rw [arrV_size]; exact h2) rfl rfl hd fun H1 e1 z oq => ?_
  refine kk H1 _ ls (hR.set h1 ?_ z oq) (hS.put z oq hza) hL
  show H1[a]? = some (vp_cell _ _)
  rw [e1]
  rw [vp_cell_i, vp_cell_i, arrV_store]
  congr 2
  funext q
  by_cases hq : q = i.toNatClampNeg
  · subst hq
    simp [updV, upd, x_nar]
    try rfl
  · simp [updV, upd, hq]
theorem r_cast (G : xCx Γ p l s m args meth c own cc nL ret) {a : Nat} {i x : Int32} {w1 : xW} (hv : x_ist w a 1 i x = some w1) (hd : decode cc pc = .ok (.castore, 1))
    (kk : xAW Γ p l e R s m args below meth c nL Q w1 cells slots (pc + 1) lv st) : xAW Γ p l e R s m args below meth c nL Q w cells slots pc lv (.int x :: .int i :: .ref a :: st) := by
  obtain ⟨n, f, h1, h2, rfl⟩ := x_ist_e hv
  intro H locs ls hR hS hL
  obtain ⟨hza, hat⟩ := hR.2.2 _ _ h1
  refine W.cast G.1 G.2.1 hat (((xG_K G).2 1 _ rfl).1 n (fun j => .int (f j))) (fun q => by cases q) (by show ¬ (i < 0 ∨ (arrV _ _ _).slots.size ≤ _); rw [arrV_size]; exact h2) rfl rfl hd fun H1 e1 z oq => ?_
  refine kk H1 _ ls (hR.set h1 ?_ z oq) (hS.put z oq hza) hL
  show H1[a]? = some (vp_cell _ _)
  rw [e1]
  rw [vp_cell_i, vp_cell_i, arrV_store]
  congr 2
  funext q
  by_cases hq : q = i.toNatClampNeg
  · subst hq
    simp [updV, upd, vp_nar, x_nar]
    try rfl
  · simp [updV, upd, hq]
theorem r_zast (G : xCx Γ p l s m args meth c own cc nL ret) {a : Nat} {i x : Int32} {w1 : xW} (hv : x_ist w a 2 i x = some w1) (hd : decode cc pc = .ok (.bastore, 1))
    (kk : xAW Γ p l e R s m args below meth c nL Q w1 cells slots (pc + 1) lv st) : xAW Γ p l e R s m args below meth c nL Q w cells slots pc lv (.int x :: .int i :: .ref a :: st) := by
  obtain ⟨n, f, h1, h2, rfl⟩ := x_ist_e hv
  intro H locs ls hR hS hL
  obtain ⟨hza, hat⟩ := hR.2.2 _ _ h1
  refine W.zast G.1 G.2.1 hat (((xG_K G).2 2 _ rfl).1 n (fun j => .int (f j))) (fun q => by cases q) (by show ¬ (i < 0 ∨ (arrV _ _ _).slots.size ≤ _); rw [arrV_size]; exact h2) rfl rfl hd fun H1 e1 z oq => ?_
  refine kk H1 _ ls (hR.set h1 ?_ z oq) (hS.put z oq hza) hL
  show H1[a]? = some (vp_cell _ _)
  rw [e1]
  rw [vp_cell_i, vp_cell_i, arrV_store]
  congr 2
  funext q
  by_cases hq : q = i.toNatClampNeg
  · subst hq
    simp [updV, upd, vp_nar, x_nar]
    try rfl
  · simp [updV, upd, hq]
theorem r_last (G : xCx Γ p l s m args meth c own cc nL ret) {a : Nat} {i : Int32} {x : Int64} {w1 : xW} (hv : x_lst w a i x = some w1) (hd : decode cc pc = .ok (.lastore, 1))
    (kk : xAW Γ p l e R s m args below meth c nL Q w1 cells slots (pc + 1) lv st) : xAW Γ p l e R s m args below meth c nL Q w cells slots pc lv (.long x :: .int i :: .ref a :: st) := by
  obtain ⟨n, f, h1, h2, rfl⟩ := x_lst_e hv
  intro H locs ls hR hS hL
  obtain ⟨hza, hat⟩ := hR.2.2 _ _ h1
  refine W.last G.1 G.2.1 hat (((xG_K G).2 5 _ rfl).1 n (fun j => .long (f j))) (fun q => by cases q) (by show ¬ (i < 0 ∨ (arrV _ _ _).slots.size ≤ _); rw [arrV_size]; exact h2) rfl rfl hd fun H1 e1 z oq => ?_
  refine kk H1 _ ls (hR.set h1 ?_ z oq) (hS.put z oq hza) hL
  show H1[a]? = some (vp_cell _ _)
  rw [e1]
  rw [vp_cell_l, vp_cell_l, arrV_store]
  congr 2
  funext q
  by_cases hq : q = i.toNatClampNeg
  · subst hq
    simp [updV, vp_updL]
  · simp [updV, vp_updL, hq]
theorem r_aast (G : xCx Γ p l s m args meth c own cc nL ret) {a v : Nat} (t : Nat) (ht : t = 3 ∨ t = 4) {i : Int32} {w1 : xW} (hv : x_ast w a t i v = some w1) (hd : decode cc pc = .ok (.aastore, 1))
    (kk : xAW Γ p l e R s m args below meth c nL Q w1 cells slots (pc + 1) lv st) : xAW Γ p l e R s m args below meth c nL Q w cells slots pc lv (.ref v :: .int i :: .ref a :: st) := by
  obtain ⟨n, f, h1, h2, ho, rfl⟩ := x_ast_e hv
  obtain ⟨vs, hvs⟩ := x_isO_e ho
  intro H locs ls hR hS hL
  obtain ⟨hza, hat⟩ := hR.2.2 _ _ h1
  have hlt : i.toNatClampNeg < n := Nat.not_le.mp fun q => h2 (Or.inr q)
  have h0 : ¬ i < 0 := fun q => h2 (Or.inl q)
  obtain ⟨-, r', hr', cellV, g1, g2, g3, -⟩ := hR.2.2 _ _ hvs
  have hK := xG_K G
  have hcc : ∃ r : vw_C, xcl[x_comp t]? = some r ∧ xty t = .object r.1 := by
    rcases ht with rfl | rfl
    · exact ⟨_, rfl, rfl⟩
    · exact ⟨_, rfl, rfl⟩
  obtain ⟨r, hc, hty⟩ := hcc
  obtain ⟨t0, h00⟩ := xty_in Γ t (by omega)
  rw [hty] at h00
  have hcls := (hK.1 _ r hc).2
  obtain ⟨kA, comp, k1, k2, k3, -⟩ := (hK.2 t0 _ h00).2
  have hcomp : comp = Γ.1.1 (x_comp t) := Option.some.inj (k3.symm.trans hcls.1)
  subst hcomp
  obtain ⟨kC, hkC, -⟩ := hcls.2
  refine W.aast G.1 G.2.1 hat (fun q h => by cases h) (fun h => by cases h) k1 k2 rfl hkC ⟨h0, by show _ < (arrV _ _ _).slots.size; rw [arrV_size]; exact hlt⟩ g1 (fun q h => by rw [g3] at h; cases h) (by rw [g2]; exact hkC) (by rw [g2]; exact va_assign hcls) rfl rfl hd fun H1 e1 z oq => ?_
  refine kk H1 _ ls (hR.set h1 ?_ z oq) (hS.put z oq hza) hL
  show H1[a]? = some (vp_cell _ _)
  rw [e1]
  rw [vp_cell_q, vp_cell_q, arrV_store]
  congr 2
  funext q
  by_cases hq : q = i.toNatClampNeg
  · subst hq
    simp [updV, va_up, va_rf]
  · simp [updV, va_up, hq]
theorem r_new (G : xCx Γ p l s m args meth c own cc nL ret) {C : String} {T : u_T} {N ix : Nat} (ci : Nat) (ty : Nat → FieldType) (hty : ∀ k, k < N → parseFieldDescriptor (T k).2.2.1 = some (ty k)) (hc : xcl[ci]? = some (C, T, N)) (hin : ∀ w ∈ u_ws C T N, w ∈ xWS)
    (hl : Cond.classLink own ix C ∈ xWS) (hi : Cond.instantiable C N ∈ xWS) (hini : Cond.initialized C ∈ xWS) {fs : List Value} (hfs : ∀ j, j < N → defaultValue (ty j) = vp_V fs j) (hcells : cells + 1 ≤ R.cells) (hslots : slots + N ≤ R.slots) (hd : decode cc pc = .ok (.new ix, 3))
    (kk : xAW Γ p l e R s m args below meth c nL Q (xpush w (.inr (ci, fs))) (cells + 1) (slots + N) (pc + 3) lv (.ref w.1 :: st)) : xAW Γ p l e R s m args below meth c nL Q w cells slots pc lv st := by
  intro H locs ls hR hS hL
  have hts := G.2.2.2.2.1
  have hKn := (xG_K G).1 ci _ hc
  refine W.newcK G.1 G.2.1 G.2.2.2.1 (hts _ hl) (hts _ hi) (hts _ hini) rfl hd hcells hslots hKn.2.1 hR.1 fun H1 kC hkC e1 z1 o1 => ?_
  refine kk H1 _ ls (hR.push (e := .inr (ci, fs)) ?_ (by rw [hR.1]; exact z1) (by rw [hR.1]; exact o1)) ⟨Nat.le_trans hS.1 (by rw [hR.1, z1]; omega), fun x h1 h2 => (o1 x (by rw [← hR.1]; exact Nat.lt_of_lt_of_le h1 hS.1)).trans (hS.2.1 x h1 h2), hS.2.2⟩ hL
  rw [hR.1]
  exact ⟨_, hc, (u_born ty hts hin hKn hkC e1 hty).to hfs⟩
theorem r_newq (G : xCx Γ p l s m args meth c own cc nL ret) {C : String} {ix : Nat} (t : Nat) (ht : (t = 3 ∧ C = "ShadowWall$Layer") ∨ (t = 4 ∧ C = "ShadowWall$Layers")) (hl : Cond.classLink own ix C ∈ xWS) {n : Int32} {N : Nat} (hn : ¬ n < 0) (hN : n.toNatClampNeg = N) (hb : N * 4 ≤ 536870912) (hcells : cells + 1 ≤ R.cells) (hslots : slots + N ≤ R.slots) (hd : decode cc pc = .ok (.anewarray ix, 3))
    (kk : xAW Γ p l e R s m args below meth c nL Q (xpush w (.inl (t, N, .inr (.inr (.inr (.inr (fun _ => none))))))) (cells + 1) (slots + N) (pc + 3) lv (.ref w.1 :: st)) : xAW Γ p l e R s m args below meth c nL Q w cells slots pc lv (.int n :: st) := by
  intro H locs ls hR hS hL
  subst hN
  have hover : va_AO C s := by
    rcases ht with ⟨-, rfl⟩ | ⟨-, rfl⟩
    · exact G.2.2.2.2.2.1.2.2.2.2.2.2.2.1
    · exact G.2.2.2.2.2.1.2.2.2.2.2.2.2.2
  have hK := xG_K G
  obtain ⟨t0, h00⟩ := xty_in Γ t (by rcases ht with ⟨rfl, -⟩ | ⟨rfl, -⟩ <;> omega)
  have hty : xty t = .object C := by rcases ht with ⟨rfl, rfl⟩ | ⟨rfl, rfl⟩ <;> rfl
  rw [hty] at h00
  obtain ⟨-, kA0, comp0, k1, k2, k3, k4⟩ := hK.2 t0 _ h00
  refine W.anew G.1 G.2.1 G.2.2.2.1 (G.2.2.2.2.1 _ hl) (va_AO.use hover) rfl hd rfl hn hb hcells hslots fun cA kA comp f1 f2 f3 f4 => ?_
  have hcA : cA = Γ.2.1 t := Option.some.inj (f1.symm.trans k4)
  subst hcA
  generalize hH1 : H.push ({ cls := Γ.2.1 t, slots := Array.replicate n.toNatClampNeg .null, vm := .none } : Cell) = H1
  have z1 : H1.size = H.size + 1 := by rw [← hH1, Array.size_push]
  have e1 : H1[H.size]? = some (arrV (Γ.2.1 t) n.toNatClampNeg (fun _ => .null)) := by rw [← hH1, Array.getElem?_push_size, ← arrV_new]
  have o1 : ∀ q : Nat, q < H.size → H1[q]? = H[q]? := fun q hq => by rw [← hH1, Array.getElem?_push, if_neg (Nat.ne_of_lt hq)]
  have k5 := kk H1 locs ls (hR.push (e := .inl (t, n.toNatClampNeg, .inr (.inr (.inr (.inr (fun _ => none)))))) e1 z1 o1) ⟨Nat.le_trans hS.1 (by rw [z1]; omega), fun x h1 h2 => (o1 x (Nat.lt_of_lt_of_le h1 hS.1)).trans (hS.2.1 x h1 h2), hS.2.2⟩ hL
  rw [← hR.1] at k5
  exact k5
theorem r_newa (G : xCx Γ p l s m args meth c own cc nL ret) {atype : ArrayType} (t : Nat) (ht : t ≤ 5) (hty : newarray.typeOf atype = xty t) (harr : Cond.arrayClass (xty t) ∈ xWS) (hp : t = 0 ∨ t = 1 ∨ t = 2 ∨ t = 5) {x : (Nat → Int32) ⊕ (Nat → Int64) ⊕ (Nat → UInt32) ⊕ (Nat → UInt64) ⊕ (Nat → Option Nat)} (hx : ∀ (cA : ClassId) (N : Nat), vp_cell cA (N, x) = arrV cA N (fun _ => defaultValue (xty t))) {n : Int32} {N : Nat} (hn : ¬ n < 0) (hN : n.toNatClampNeg = N) (hb : N * componentBytes (xty t) ≤ 536870912) (hcells : cells + 1 ≤ R.cells) (hslots : slots + N ≤ R.slots) (hd : decode cc pc = .ok (.newarray atype, 2))
    (kk : xAW Γ p l e R s m args below meth c nL Q (xpush w (.inl (t, N, x))) (cells + 1) (slots + N) (pc + 2) lv (.ref w.1 :: st)) : xAW Γ p l e R s m args below meth c nL Q w cells slots pc lv (.int n :: st) := by
  intro H locs ls hR hS hL
  have hK := xG_K G
  obtain ⟨t0, h00⟩ := xty_in Γ t ht
  have h4 : s.vm.findClass ("[" ++ (xty t).toString) = some (Γ.2.1 t) := by
    have h5 := (hK.2 t0 _ h00).2
    rcases hp with rfl | rfl | rfl | rfl <;> exact h5
  rw [← hty] at harr h4 hx hb
  refine va_newaK G.1 G.2.1 (G.2.2.2.2.1 _ harr) rfl hd rfl hn hN hb hcells hslots hR.1 fun H1 cA e1 z1 o1 hAr hNm => ?_
  have hcA : cA = Γ.2.1 t := Option.some.inj (hNm.symm.trans h4)
  subst hcA
  refine kk H1 _ ls (hR.push (e := .inl (t, N, x)) ?_ (by rw [hR.1]; exact z1) (by rw [hR.1]; exact o1)) ⟨Nat.le_trans hS.1 (by rw [hR.1, z1]; omega), fun x h1 h2 => (o1 x (by rw [← hR.1]; exact Nat.lt_of_lt_of_le h1 hS.1)).trans (hS.2.1 x h1 h2), hS.2.2⟩ hL
  rw [hR.1]
  show H1[w.1]? = some (vp_cell _ _)
  rw [hx]
  exact e1
end XH
