/-! ===== contracts over worlds ===== -/
def xQc {ρ : Type} (Γ : xG) (ι : ρ → Option Value) (r : ρ ⊕ String) (w' : xW) : Array Value → State → Outcome → State → Prop := fun _ st o t => (∃ v : ρ, r = .inl v ∧ o = .returned (ι v) ∧ xRl Γ w' t.heap) ∧ va_F (xA Γ) st t
def xXC {ρ : Type} (Γ : xG) (r : ρ ⊕ String) (w' : xW) : String → State → State → Prop := fun E st t => r = .inr E ∧ xRl Γ w' t.heap ∧ va_F (xA Γ) st t
def xRm (d mc ms : Nat) : Room := { frames := d, cells := mc, slots := ms, locals := 30 * d + 100 }
def xPc (Γ : xG) (av : List Value) (w : xW) : Array Value → State → Prop := fun v U => v = av.toArray ∧ xSt Γ U ∧ xRl Γ w U.heap ∧ xz Γ ≤ U.heap.size
theorem xPc.blind {Γ : xG} {av : List Value} {w : xW} : FrameBlind (xPc Γ av w) := fun _ _ _ _ h => ⟨h.1, h.2.1.calling, h.2.2.1, h.2.2.2⟩
def xMet {ρ : Type} (Γ : xG) (l : Launch) (y : MethodName) (ws : List Cond) (d : Nat) (ι : ρ → Option Value) (av : List Value) (w : xW) (r : ρ ⊕ String) (w' : xW) (mc ms : Nat) : Prop :=
  vx_Met l y ws (xRm d mc ms) (xPc Γ av w) (xQc Γ ι r w') (xXC Γ r w') mc ms (xA Γ)
abbrev xQm {ρ : Type} (Γ : xG) (below : List Frame) (ι : ρ → Option Value) (r : ρ ⊕ String) (w' : xW) (args : Array Value) (s : State) (mc ms : Nat) : State → Prop := vx_MQ below (xQc Γ ι r w') (xXC Γ r w') args s mc ms (xA Γ)
def xI : Int32 → Option Value := fun v => some (.int v)
def xV : Unit → Option Value := fun _ => none
def xQ : Option Nat → Option Value := fun v => some (va_rf v)
def xDb : UInt64 → Option Value := fun v => some (.double v)
def xFl : UInt32 → Option Value := fun v => some (.float v)
def xS (Γ : xG) : Nat → Option Value := fun i => some (.ref (Γ.2.2.2.1 i))
/-- what is to be known of a method that is called -/
def xTgt (y : MethodName) (bytes : ByteArray) (maxL : Nat) (ret : Option FieldType) (n : Nat) : Prop :=
  Cond.code y bytes maxL ret ∈ xWS ∧ Cond.initialized y.cls ∈ xWS ∧ (y.cls ≠ "java/lang/invoke/MethodHandle" ∧ y.cls ≠ "java/lang/invoke/VarHandle") ∧ (parseMethodDescriptor y.desc).map (fun d => d.parameters.length) = some n ∧ plainFor y = true
abbrev xws (y : MethodName) (bytes : ByteArray) (maxL : Nat) (ret : Option FieldType) : List Cond := Cond.code y bytes maxL ret :: xWS
/-- a method's contract out of its walk, her name plain or no row for her -/
theorem xx_ofW {l : Launch} {y : MethodName} {ws ws' : List Cond} {rm : Room} {Pc : Array Value → State → Prop} {Qc : Array Value → State → Outcome → State → Prop} {XC : String → State → State → Prop} {mc ms : Nat} {free : Addr → Prop} {cc : ByteArray} {maxL : Nat} {ret : Option FieldType}
    (hy : plainFor y = true) (hw : ws = Cond.code y cc maxL ret :: ws')
    (body : ∀ p e s m args below meth c s₁, BodyLoose p l y (headSpec ws rm) cc maxL ret e s m args below meth c s₁ → c.maxLocals = maxL → (∀ x ∈ c.exceptionTable.toList, False) → Pc args s →
      W p l e (headSpec ws rm).room s m args below meth c s.heap [] 0 0 (vx_MQ below Qc XC args s mc ms free) (entryFrame m args maxL)) : vx_Met l y ws rm Pc Qc XC mc ms free := by
  refine MetFree.of_bodySF (code := cc) (maxLocals := maxL) (ret := ret) hy (fun args s m h hn => ?_) (fun p e s m args below meth c s₁ B hml hP _ => ?_)
  · obtain ⟨meth, c, h1, h2, h3, h4, h5, h6, -, -⟩ := Cond.code_spec hn (atoms_spec (ws := ws) h _ (by rw [hw]; exact List.mem_cons_self))
    exact ⟨meth, c, h1, h2, h3, h4, h5, h6⟩
  · have hh0 : s₁.heap = s.heap := by rw [B.state]; rfl
    obtain ⟨meth9, c9, h1, h2, -, -, -, -, h7, -⟩ := Cond.code_spec B.named (atoms_spec (ws := ws) B.pre _ (by rw [hw]; exact List.mem_cons_self))
    have ht : ∀ x ∈ c.exceptionTable.toList, False := by
      cases Option.some.inj (h1.symm.trans B.method)
      cases Option.some.inj (h2.symm.trans (Stand.of_body B).code)
      intro x hx
      rw [Array.isEmpty_iff.mp h7] at hx
      cases hx
    obtain ⟨t, a1, o, b1, b2, b3⟩ := body p e s m args below meth c s₁ B hml ht hP s₁ hh0 (Stand.of_body B)
    exact ⟨t, o, a1, b1, b2, b3⟩
section XC
variable {Γ : xG} {p : Program} {l : Launch} {e : Env} {R : Room} {s : State} {m : MethodId} {args : Array Value} {below : List Frame} {meth : Method} {c : Code} {nL : Nat} {Q : State → Prop} {w : xW} {cells slots pc : Nat} {lv lv' : List (Nat × Value)} {st rest : List Value}
variable {own : String} {cc : ByteArray} {ret : Option FieldType}
/-- a method's contract out of its walk -/
theorem xOfW {ρ : Type} {ι : ρ → Option Value} {y : MethodName} {cc : ByteArray} {maxL : Nat} {ret : Option FieldType} {d mc ms n : Nat} {Γ : xG} {w : xW} {av : List Value} {rF : ρ ⊕ String} {wF : xW} (hy : xTgt y cc maxL ret n) (hl : l.stackTraces = false) {lv0 : List (Nat × Value)} (hlen : (lg_sl av).length ≤ maxL) (hlv : lv_args 0 av = lv0)
    (body : ∀ (p : Program) (e : Env) (s : State) (m : MethodId) (below : List Frame) (meth : Method) (c : Code), xCx Γ p l s m av.toArray meth c y.cls cc maxL ret → (∀ x ∈ c.exceptionTable.toList, False) → meth.name = y.name →
      xAW Γ p l e (xRm d mc ms) s m av.toArray below meth c maxL (xQm Γ below ι rF wF av.toArray s mc ms) w 0 0 0 lv0 []) : xMet Γ l y (xws y cc maxL ret) d ι av w rF wF mc ms := by
  subst hlv
  refine xx_ofW (cc := cc) (maxL := maxL) (ret := ret) hy.2.2.2.2 rfl ?_
  intro p e s m args below meth c s₁ B hml hno hv
  obtain ⟨rfl, hst, hR, hz⟩ := hv
  have hts := atoms_spec (ws := xws y cc maxL ret) B.pre
  have G : xCx Γ p l s m av.toArray meth c y.cls cc maxL ret := ⟨B.exec, B.bytes, hml, findClass_of_methodNamed B.named, fun w hw => hts w (List.mem_cons_of_mem _ hw), hst, hz, B.notSynchronized, B.returns, hl⟩
  have hn := (name_of_methodNamed B.named B.method).1
  rw [lg_entry_eq]
  exact body p e s m below meth c G hno hn s.heap [] _ hR va_S.rf (lv_entry av hlen)
/-- the words of a callee, handed on -/
theorem xpay {y : MethodName} {bytes : ByteArray} {maxL : Nat} {ret' : Option FieldType} {n : Nat} (G : xCx Γ p l s m args meth c own cc nL ret) (ht : xTgt y bytes maxL ret' n) : ∀ w ∈ xws y bytes maxL ret', ∀ (a' : Array Value) (U : State), s.WarmedH U.vm → w.before a' U = true := by
  intro w hw a' U hW
  have hm : w ∈ xWS := (List.mem_cons.mp hw).elim (fun h => by rw [h]; exact ht.1) id
  exact word_at hW (good_of_word (xWS_good hm)) (G.2.2.2.2.1 _ hm)
theorem xCB {y : MethodName} {bytes : ByteArray} {maxL : Nat} {ret' : Option FieldType} {n d mc ms ix : Nat} (G : xCx Γ p l s m args meth c own cc nL ret) (ht : xTgt y bytes maxL ret' n) (hl : Cond.methodLink own ix y ∈ xWS) (hf : d + 1 ≤ R.frames) (hlo : 8 + (maxL + 11) + (30 * d + 100) ≤ R.locals) : CallB R s args own ix y bytes maxL ret' (xws y bytes maxL ret') (xRm d mc ms) mc ms n := by
  have hts := G.2.2.2.2.1
  refine ⟨rfl, rfl, hf, hlo, xpay G ht, List.mem_cons_self, hts _ ht.1, hts _ ht.2.1, ht.2.2.1, fun sig h => ?_, hts _ hl⟩
  have h2 := ht.2.2.2.1
  rw [h] at h2
  exact (Option.some.inj h2).symm
theorem xCN {y : MethodName} {bytes : ByteArray} {maxL : Nat} {ret' : Option FieldType} {n d mc ms ix : Nat} {host : String} (G : xCx Γ p l s m args meth c own cc nL ret) (ht : xTgt y bytes maxL ret' n) (hl : Cond.methodLinkNest own ix y host ∈ xNS) (hf : d + 1 ≤ R.frames) (hlo : 8 + (maxL + 11) + (30 * d + 100) ≤ R.locals) : va_CN R s args own ix y host bytes maxL ret' (xws y bytes maxL ret') (xRm d mc ms) mc ms n := by
  have hts := G.2.2.2.2.1
  refine ⟨⟨rfl, rfl, hf, hlo, xpay G ht, List.mem_cons_self⟩, hts _ ht.1, hts _ ht.2.1, ht.2.2.1, fun sig h => ?_, va_Nw.use rfl (G.2.2.2.2.2.1.2.1 _ hl)⟩
  have h2 := ht.2.2.2.1
  rw [h] at h2
  exact (Option.some.inj h2).symm
theorem xPreS {H : Heap} {locs : List Loc} (G : xCx Γ p l s m args meth c own cc nL ret) (hR : xRl Γ w H) (hS : va_S (xA Γ) s.heap H locs) (As : List Value) : PreS s H (xPc Γ As w) As :=
  ⟨xPc.blind, fun U hU hW => ⟨rfl, G.2.2.2.2.2.1.next hS hU hW, by rw [hU]; exact hR, by rw [hU]; exact Nat.le_trans G.2.2.2.2.2.2.1 hS.1⟩⟩
theorem xPreV {H : Heap} {locs : List Loc} (G : xCx Γ p l s m args meth c own cc nL ret) (hR : xRl Γ w H) (hS : va_S (xA Γ) s.heap H locs) {b ci : Nat} {C : String} {T : u_T} {N : Nat} (hc : xcl[ci]? = some (C, T, N)) (ho : x_isO w b ci = true) (As : List Value) : PreV s H C b (xPc Γ (.ref b :: As) w) As := by
  obtain ⟨fs, h1⟩ := x_isO_e ho
  exact ⟨xPc.blind, va_recv (xG_K G) (xP1 (hR.2.2 _ _ h1).2) (ci := ci) (q0 := 0) hc rfl, (xPreS G hR hS (.ref b :: As)).2⟩
theorem xFix (G : xCx Γ p l s m args meth c own cc nL ret) : CallFix p m c cc nL s args xWS own := ⟨G.1, G.2.1, G.2.2.1, G.2.2.2.1, G.2.2.2.2.1⟩
/-- behind a call: what it answers, or what it throws -/
theorem r_run {σ : Type} {ι : σ → Option Value} {r : σ ⊕ String} {w' : xW} {mc ms : Nat} {As : Array Value}
    (hrun : ∀ (H : Heap) (locs : List Loc) (ls : Array Slot), xRl Γ w H → va_S (xA Γ) s.heap H locs → lv_has ls nL lv → vx_Run p l e R s m args below meth c H locs cells slots mc ms (F0 m pc ls st) rest (xQc Γ ι r w' As) (xXC Γ r w') (xA Γ))
    (kk : ∀ v : σ, r = .inl v → xAW Γ p l e R s m args below meth c nL Q w' (cells + mc) (slots + ms) (pc + 3) lv ((ι v).toList ++ rest))
    (kx : ∀ E : String, r = .inr E → ∀ (H : Heap) (locs : List Loc) (ls : Array Slot) (q : Addr) (ce : Cell), xRl Γ w' H → va_S (xA Γ) s.heap H locs → lv_has ls nL lv → H[q]? = some ce → ce.vm = .none → s.vm.findClass E = some ce.cls → vx_W p l e R s m args below meth c H locs (cells + mc) (slots + ms) Q (F0 m pc ls rest) q) :
    xAW Γ p l e R s m args below meth c nL Q w cells slots pc lv st := by
  intro H locs ls hR hS hL T hT X
  rcases hrun H locs ls hR hS hL T hT X with ⟨v, st₀, t, T', L, h0, X', hLc, e1, e2, ⟨⟨v', hr, hv, hR'⟩, hF⟩, st1⟩ | ⟨q, st₀, t, T', L, E, ce, h0, X', hLc, e1, e2, ⟨hr, hR', hF⟩, hce, hcv, hcl, st1⟩
  · cases hv
    obtain ⟨-, -, k3⟩ := vx_keep h0 e1 hS (fun q _ h => h) (fun q h => h) hLc hF
    obtain ⟨t2, a1, b1⟩ := kk v' hr T'.heap (locs ++ L) ls (by rw [e1]; exact hR') k3 hL T' rfl X'
    exact ⟨t2, st1 t2 a1, b1⟩
  · obtain ⟨-, -, k3⟩ := vx_keep h0 e1 hS (fun q _ h => h) (fun q h => h) hLc hF
    obtain ⟨t2, a1, b1⟩ := kx E hr T'.heap (locs ++ L) ls q ce (by rw [e1]; exact hR') k3 hL (by rw [e1]; exact hce) hcv hcl T' rfl X'
    exact ⟨t2, st1.trans a1, b1⟩
/-- in a method without handlers: what is thrown goes on to the caller -/
theorem r_runM {ρ σ : Type} {ι : σ → Option Value} {ι' : ρ → Option Value} {d : Nat} {x : xO σ} {K : σ → xW → xO ρ} {rF : ρ ⊕ String} {wF : xW} {As : Array Value} (G : xCx Γ p l s m args meth c own cc nL ret) (hno : ∀ x ∈ c.exceptionTable.toList, False) (hyp : x_bind x K = some (rF, wF))
    (hrun : ∀ (r : σ ⊕ String) (w' : xW), x = some (r, w') → 0 + x_mc r ≤ x_mc rF ∧ 0 + x_ms r ≤ x_ms rF → ∀ (H : Heap) (locs : List Loc) (ls : Array Slot), xRl Γ w H → va_S (xA Γ) s.heap H locs → lv_has ls nL lv → vx_Run p l e (xRm d (x_mc rF) (x_ms rF)) s m args below meth c H locs 0 0 (x_mc r) (x_ms r) (F0 m pc ls st) rest (xQc Γ ι r w' As) (xXC Γ r w') (xA Γ))
    (kk : ∀ (v : σ) (w' : xW), x = some (.inl v, w') → K v w' = some (rF, wF) → xAW Γ p l e (xRm d (x_mc rF) (x_ms rF)) s m args below meth c nL (xQm Γ below ι' rF wF args s (x_mc rF) (x_ms rF)) w' 0 0 (pc + 3) lv ((ι v).toList ++ rest)) :
    xAW Γ p l e (xRm d (x_mc rF) (x_ms rF)) s m args below meth c nL (xQm Γ below ι' rF wF args s (x_mc rF) (x_ms rF)) w 0 0 pc lv st := by
  cases x with
  | none => cases hyp
  | some q =>
    obtain ⟨r, w'⟩ := q
    cases r with
    | inl v =>
      exact r_run (hrun _ _ rfl ⟨Nat.zero_le _, Nat.zero_le _⟩) (fun v1 h1 => by cases h1; exact kk v w' rfl hyp) (fun E h => by cases h)
    | inr E =>
      have h2 : some ((Sum.inr E : ρ ⊕ String), w') = some (rF, wF) := hyp
      cases h2
      refine r_run (hrun _ _ rfl ⟨Nat.le_refl _, Nat.le_refl _⟩) (fun v1 h1 => by cases h1) (fun E1 h1 H locs ls q ce hR hS hL hce hcv hcl => ?_)
      cases h1
      exact vx_out (fun x hx => absurd hx (hno x)) G.2.2.2.2.2.2.2.1 hce hcv hcl (fun t ht ha => ⟨rfl, by rw [ht]; exact hR, hS.F ht⟩) hS.2.2 (Nat.le_refl _) (Nat.le_refl _)
/-- a call by the receiver -/
theorem r_callV {ρ σ : Type} {ι : σ → Option Value} {ι' : ρ → Option Value} {d d' n b ix ci N maxL : Nat} {T : u_T} {x : xO σ} {K : σ → xW → xO ρ} {rF : ρ ⊕ String} {wF : xW} {As : List Value} {y : MethodName} {bytes : ByteArray} {ret' : Option FieldType} (G : xCx Γ p l s m args meth c own cc nL ret) (hno : ∀ x ∈ c.exceptionTable.toList, False)
    (ht : xTgt y bytes maxL ret' n) (hM : ∀ (r : σ ⊕ String) (w' : xW), x = some (r, w') → xMet Γ l y (xws y bytes maxL ret') d' ι (.ref b :: As) w r w' (x_mc r) (x_ms r)) (ho : x_isO w b ci = true) (hyp : x_bind x K = some (rF, wF)) (hc : xcl[ci]? = some (y.cls, T, N))
    (hl : Cond.methodLink own ix y ∈ xWS) (hi : Cond.instanceMethod y ∈ xWS) (hs : Cond.selects y.cls y y ∈ xWS) (hf : d' + 1 ≤ d) (hlo : 8 + (maxL + 11) + (30 * d' + 100) ≤ 30 * d + 100) (hst : st = As.reverse ++ .ref b :: rest) (hn : As.length = n) (hW : (rest.map fun v => v.category).sum ≤ 8) (hd : decode cc pc = .ok (.invokevirtual ix, 3))
    {push : σ → List Value} (hpu : ∀ v, (ι v).toList ++ rest = push v)
    (kk : ∀ (v : σ) (w' : xW), K v w' = some (rF, wF) → xAW Γ p l e (xRm d (x_mc rF) (x_ms rF)) s m args below meth c nL (xQm Γ below ι' rF wF args s (x_mc rF) (x_ms rF)) w' 0 0 (pc + 3) lv (push v)) :
    xAW Γ p l e (xRm d (x_mc rF) (x_ms rF)) s m args below meth c nL (xQm Γ below ι' rF wF args s (x_mc rF) (x_ms rF)) w 0 0 pc lv st := by
  have hts := G.2.2.2.2.1
  refine r_runM (As := (Value.ref b :: As).toArray) (ι := ι) (rest := rest) G hno hyp (fun r w' hx hfit H locs ls hR hS hL => ?_) (fun v w' _ h => by rw [hpu]; exact kk v w' h)
  exact vx_runV (xFix G) (hM r w' hx) ⟨xCB G ht hl hf hlo, hts _ hi, hts _ hs⟩ (xPreV G hR hS hc ho As) rfl hn hL.1 hst (lv_room hW) hd hfit
/-- .. of a private method of the nest -/
theorem r_callVN {ρ σ : Type} {ι : σ → Option Value} {ι' : ρ → Option Value} {d d' n b ix ci N maxL : Nat} {T : u_T} {host : String} {x : xO σ} {K : σ → xW → xO ρ} {rF : ρ ⊕ String} {wF : xW} {As : List Value} {y : MethodName} {bytes : ByteArray} {ret' : Option FieldType} (G : xCx Γ p l s m args meth c own cc nL ret) (hno : ∀ x ∈ c.exceptionTable.toList, False)
    (ht : xTgt y bytes maxL ret' n) (hM : ∀ (r : σ ⊕ String) (w' : xW), x = some (r, w') → xMet Γ l y (xws y bytes maxL ret') d' ι (.ref b :: As) w r w' (x_mc r) (x_ms r)) (ho : x_isO w b ci = true) (hyp : x_bind x K = some (rF, wF)) (hc : xcl[ci]? = some (y.cls, T, N))
    (hl : Cond.methodLinkNest own ix y host ∈ xNS) (hi : Cond.instanceMethod y ∈ xWS) (hs : Cond.selects y.cls y y ∈ xWS) (hf : d' + 1 ≤ d) (hlo : 8 + (maxL + 11) + (30 * d' + 100) ≤ 30 * d + 100) (hst : st = As.reverse ++ .ref b :: rest) (hn : As.length = n) (hW : (rest.map fun v => v.category).sum ≤ 8) (hd : decode cc pc = .ok (.invokevirtual ix, 3))
    {push : σ → List Value} (hpu : ∀ v, (ι v).toList ++ rest = push v)
    (kk : ∀ (v : σ) (w' : xW), K v w' = some (rF, wF) → xAW Γ p l e (xRm d (x_mc rF) (x_ms rF)) s m args below meth c nL (xQm Γ below ι' rF wF args s (x_mc rF) (x_ms rF)) w' 0 0 (pc + 3) lv (push v)) :
    xAW Γ p l e (xRm d (x_mc rF) (x_ms rF)) s m args below meth c nL (xQm Γ below ι' rF wF args s (x_mc rF) (x_ms rF)) w 0 0 pc lv st := by
  have hts := G.2.2.2.2.1
  refine r_runM (As := (Value.ref b :: As).toArray) (ι := ι) (rest := rest) G hno hyp (fun r w' hx hfit H locs ls hR hS hL => ?_) (fun v w' _ h => by rw [hpu]; exact kk v w' h)
  exact vx_runVN (xFix G) (hM r w' hx) ⟨xCN G ht hl hf hlo, hts _ hi, hts _ hs⟩ (xPreV G hR hS hc ho As) rfl hn hL.1 hst (lv_room hW) hd hfit
/-- a static call -/
theorem r_callS {ρ σ : Type} {ι : σ → Option Value} {ι' : ρ → Option Value} {d d' n ix maxL : Nat} {x : xO σ} {K : σ → xW → xO ρ} {rF : ρ ⊕ String} {wF : xW} {As : List Value} {y : MethodName} {bytes : ByteArray} {ret' : Option FieldType} (G : xCx Γ p l s m args meth c own cc nL ret) (hno : ∀ x ∈ c.exceptionTable.toList, False)
    (ht : xTgt y bytes maxL ret' n) (hM : ∀ (r : σ ⊕ String) (w' : xW), x = some (r, w') → xMet Γ l y (xws y bytes maxL ret') d' ι As w r w' (x_mc r) (x_ms r)) (hyp : x_bind x K = some (rF, wF))
    (hl : Cond.methodLink own ix y ∈ xWS) (hi : Cond.static y ∈ xWS) (hf : d' + 1 ≤ d) (hlo : 8 + (maxL + 11) + (30 * d' + 100) ≤ 30 * d + 100) (hst : st = As.reverse ++ rest) (hn : As.length = n) (hW : (rest.map fun v => v.category).sum ≤ 8) (hd : decode cc pc = .ok (.invokestatic ix, 3))
    {push : σ → List Value} (hpu : ∀ v, (ι v).toList ++ rest = push v)
    (kk : ∀ (v : σ) (w' : xW), K v w' = some (rF, wF) → xAW Γ p l e (xRm d (x_mc rF) (x_ms rF)) s m args below meth c nL (xQm Γ below ι' rF wF args s (x_mc rF) (x_ms rF)) w' 0 0 (pc + 3) lv (push v)) :
    xAW Γ p l e (xRm d (x_mc rF) (x_ms rF)) s m args below meth c nL (xQm Γ below ι' rF wF args s (x_mc rF) (x_ms rF)) w 0 0 pc lv st := by
  have hts := G.2.2.2.2.1
  refine r_runM (As := As.toArray) (ι := ι) (rest := rest) G hno hyp (fun r w' hx hfit H locs ls hR hS hL => ?_) (fun v w' _ h => by rw [hpu]; exact kk v w' h)
  exact vx_runS (xFix G) (hM r w' hx) ⟨xCB G ht hl hf hlo, hts _ hi⟩ (xPreS G hR hS As) rfl hn hL.1 hst (lv_room hW) hd hfit
theorem r_callSN {ρ σ : Type} {ι : σ → Option Value} {ι' : ρ → Option Value} {d d' n ix maxL : Nat} {host : String} {x : xO σ} {K : σ → xW → xO ρ} {rF : ρ ⊕ String} {wF : xW} {As : List Value} {y : MethodName} {bytes : ByteArray} {ret' : Option FieldType} (G : xCx Γ p l s m args meth c own cc nL ret) (hno : ∀ x ∈ c.exceptionTable.toList, False)
    (ht : xTgt y bytes maxL ret' n) (hM : ∀ (r : σ ⊕ String) (w' : xW), x = some (r, w') → xMet Γ l y (xws y bytes maxL ret') d' ι As w r w' (x_mc r) (x_ms r)) (hyp : x_bind x K = some (rF, wF))
    (hl : Cond.methodLinkNest own ix y host ∈ xNS) (hi : Cond.static y ∈ xWS) (hf : d' + 1 ≤ d) (hlo : 8 + (maxL + 11) + (30 * d' + 100) ≤ 30 * d + 100) (hst : st = As.reverse ++ rest) (hn : As.length = n) (hW : (rest.map fun v => v.category).sum ≤ 8) (hd : decode cc pc = .ok (.invokestatic ix, 3))
    {push : σ → List Value} (hpu : ∀ v, (ι v).toList ++ rest = push v)
    (kk : ∀ (v : σ) (w' : xW), K v w' = some (rF, wF) → xAW Γ p l e (xRm d (x_mc rF) (x_ms rF)) s m args below meth c nL (xQm Γ below ι' rF wF args s (x_mc rF) (x_ms rF)) w' 0 0 (pc + 3) lv (push v)) :
    xAW Γ p l e (xRm d (x_mc rF) (x_ms rF)) s m args below meth c nL (xQm Γ below ι' rF wF args s (x_mc rF) (x_ms rF)) w 0 0 pc lv st := by
  have hts := G.2.2.2.2.1
  refine r_runM (As := As.toArray) (ι := ι) (rest := rest) G hno hyp (fun r w' hx hfit H locs ls hR hS hL => ?_) (fun v w' _ h => by rw [hpu]; exact kk v w' h)
  exact vx_runSN (xFix G) (hM r w' hx) ⟨xCN G ht hl hf hlo, hts _ hi, trivial⟩ (xPreS G hR hS As) rfl hn hL.1 hst (lv_room hW) hd hfit
/-- the ends -/
theorem r_end {ρ : Type} {ι : ρ → Option Value} {rF : ρ ⊕ String} {wF : xW} {mc ms : Nat} (hc : cells ≤ mc) (hs : slots ≤ ms) {v : ρ} {H : Heap} {locs : List Loc} {ls : Array Slot} (hyp : x_ret v w = some (rF, wF)) (hR : xRl Γ w H) (hS : va_S (xA Γ) s.heap H locs)
    (k : (∀ t : State, t.heap = H → s.WarmedH t.vm → xQc Γ ι rF wF args s (.returned (ι v)) t) → (∀ q ∈ locs, xA Γ q.base) → W p l e R s m args below meth c H locs mc ms (MQ below (xQc Γ ι rF wF) args s mc ms (xA Γ)) (F0 m pc ls st)) :
    W p l e R s m args below meth c H locs cells slots (xQm Γ below ι rF wF args s mc ms) (F0 m pc ls st) := by
  have h2 : some ((Sum.inl v : ρ ⊕ String), w) = some (rF, wF) := hyp
  cases h2
  exact vx_ret (W.widen hc hs (k (fun t ht _ => ⟨⟨v, rfl, rfl, by rw [ht]; exact hR⟩, hS.F ht⟩) hS.2.2))
theorem r_iret {rF : Int32 ⊕ String} {wF : xW} {mc ms : Nat} {ty : FieldType} (G : xCx Γ p l s m args meth c own cc nL (some ty)) {v : Int32} (hyp : x_ret v w = some (rF, wF)) (hn : narrow ty (.int v) = .int v) (hc : cells ≤ mc) (hs : slots ≤ ms) (hd : decode cc pc = .ok (.ireturn, 1)) :
    xAW Γ p l e R s m args below meth c nL (xQm Γ below xI rF wF args s mc ms) w cells slots pc lv [.int v] := fun H locs ls hR hS hL => r_end hc hs hyp hR hS (fun h1 h2 => W.zret G.1 G.2.1 G.2.2.2.2.2.2.2.2.1 hn h1 h2 hd G.2.2.2.2.2.2.2.1)
theorem r_vret {rF : Unit ⊕ String} {wF : xW} {mc ms : Nat} (G : xCx Γ p l s m args meth c own cc nL none) (hyp : x_ret () w = some (rF, wF)) (hc : cells ≤ mc) (hs : slots ≤ ms) (hd : decode cc pc = .ok (.return_, 1)) :
    xAW Γ p l e R s m args below meth c nL (xQm Γ below xV rF wF args s mc ms) w cells slots pc lv [] := fun H locs ls hR hS hL => r_end hc hs hyp hR hS (fun h1 h2 => W.vret G.1 G.2.1 G.2.2.2.2.2.2.2.2.1 h1 h2 hd G.2.2.2.2.2.2.2.1)
theorem r_vretC {wF : xW} {mc ms : Nat} (G : xCx Γ p l s m args meth c own cc nL none) (hyp : some w = some wF) (hc : cells ≤ mc) (hs : slots ≤ ms) (hd : decode cc pc = .ok (.return_, 1)) :
    xAW Γ p l e R s m args below meth c nL (xQm Γ below xV (Sum.inl () : Unit ⊕ String) wF args s mc ms) w cells slots pc lv [] := by
  cases hyp
  exact r_vret G rfl hc hs hd
theorem r_dret {rF : UInt64 ⊕ String} {wF : xW} {mc ms : Nat} (G : xCx Γ p l s m args meth c own cc nL (some .double)) {v : UInt64} (hyp : x_ret v w = some (rF, wF)) (hc : cells ≤ mc) (hs : slots ≤ ms) (hd : decode cc pc = .ok (.dreturn, 1)) :
    xAW Γ p l e R s m args below meth c nL (xQm Γ below xDb rF wF args s mc ms) w cells slots pc lv [.double v] := fun H locs ls hR hS hL => r_end hc hs hyp hR hS (fun h1 h2 => W.dret G.1 G.2.1 G.2.2.2.2.2.2.2.2.1 h1 h2 hd G.2.2.2.2.2.2.2.1)
theorem r_fret {rF : UInt32 ⊕ String} {wF : xW} {mc ms : Nat} (G : xCx Γ p l s m args meth c own cc nL (some .float)) {v : UInt32} (hyp : x_ret v w = some (rF, wF)) (hc : cells ≤ mc) (hs : slots ≤ ms) (hd : decode cc pc = .ok (.freturn, 1)) :
    xAW Γ p l e R s m args below meth c nL (xQm Γ below xFl rF wF args s mc ms) w cells slots pc lv [.float v] := fun H locs ls hR hS hL => r_end hc hs hyp hR hS (fun h1 h2 => W.fret G.1 G.2.1 G.2.2.2.2.2.2.2.2.1 h1 h2 hd G.2.2.2.2.2.2.2.1)
theorem r_aret {rF : Option Nat ⊕ String} {wF : xW} {mc ms : Nat} {C : String} (G : xCx Γ p l s m args meth c own cc nL (some (.object C))) {v : Option Nat} (hyp : x_ret v w = some (rF, wF)) (hc : cells ≤ mc) (hs : slots ≤ ms) (hd : decode cc pc = .ok (.areturn, 1)) :
    xAW Γ p l e R s m args below meth c nL (xQm Γ below xQ rF wF args s mc ms) w cells slots pc lv [va_rf v] := fun H locs ls hR hS hL => r_end hc hs hyp hR hS (fun h1 h2 => W.aret G.1 G.2.1 G.2.2.2.2.2.2.2.2.1 (Or.inl ⟨C, rfl⟩) (by cases v with
    | none => exact Or.inl rfl
    | some a => exact Or.inr ⟨a, rfl⟩) h1 h2 hd G.2.2.2.2.2.2.2.1)
theorem r_sret {rF : Nat ⊕ String} {wF : xW} {mc ms : Nat} {C : String} (G : xCx Γ p l s m args meth c own cc nL (some (.object C))) {v : Nat} (hyp : x_ret v w = some (rF, wF)) (hc : cells ≤ mc) (hs : slots ≤ ms) (hd : decode cc pc = .ok (.areturn, 1)) :
    xAW Γ p l e R s m args below meth c nL (xQm Γ below (xS Γ) rF wF args s mc ms) w cells slots pc lv [.ref (Γ.2.2.2.1 v)] := fun H locs ls hR hS hL => r_end hc hs hyp hR hS (fun h1 h2 => W.aret G.1 G.2.1 G.2.2.2.2.2.2.2.2.1 (Or.inl ⟨C, rfl⟩) (Or.inr ⟨_, rfl⟩) h1 h2 hd G.2.2.2.2.2.2.2.1)
end XC
