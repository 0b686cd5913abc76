/-! ===== the law: its helpers catch what the class throws; its own body ===== -/
/-- the exceptions -/
def xex : List String := ["java/lang/IllegalArgumentException", "java/lang/IllegalStateException", "java/lang/IndexOutOfBoundsException", "java/util/NoSuchElementException", "java/lang/UnsupportedOperationException"]
/-- none of them is another -/
def xNc (U : State) : Prop := ∀ E ∈ xex, ∀ E' ∈ xex, E ≠ E' → va_Nc E E' U
theorem xNc.moved {u U : State} (hvm : u.vm.Alike U.vm) (h : xNc u) : xNc U := fun E hE E' hE' hn => va_Nc.moved hvm (h E hE E' hE' hn)
def xPcL (Γ : xG) (av : List Value) (w : xW) : Array Value → State → Prop := fun v U => xPc Γ av w v U ∧ xNc U
theorem xPcL.blind {Γ : xG} {av : List Value} {w : xW} : FrameBlind (xPcL Γ av w) := fun a b c d h => ⟨xPc.blind a b c d h.1, xNc.moved (State.WarmedH.refl _).alike h.2⟩
def xMetL {ρ : Type} (Γ : xG) (l : Launch) (y : MethodName) (ws : List Cond) (d : Nat) (ι : ρ → Option Value) (av : List Value) (w : xW) (r : ρ ⊕ String) (w' : xW) (mc ms : Nat) : Prop :=
  vx_Met l y ws (xRm d mc ms) (xPcL Γ av w) (xQc Γ ι r w') (xXC Γ r w') mc ms (xA Γ)
def xTgtH (y : MethodName) (bytes : ByteArray) (maxL : Nat) (ret : Option FieldType) (hh : List (Nat × Nat × Nat × Nat)) (n : Nat) : Prop :=
  Cond.codeWith y bytes maxL ret hh ∈ xWS ∧ Cond.initialized y.cls ∈ xWS ∧ (y.cls ≠ "java/lang/invoke/MethodHandle" ∧ y.cls ≠ "java/lang/invoke/VarHandle") ∧ (parseMethodDescriptor y.desc).map (fun d => d.parameters.length) = some n ∧ plainName y.cls = true
abbrev xwsH (y : MethodName) (bytes : ByteArray) (maxL : Nat) (ret : Option FieldType) (hh : List (Nat × Nat × Nat × Nat)) : List Cond := Cond.codeWith y bytes maxL ret hh :: xWS
/-- what the script is -/
def xSc (Γ : xG) (b L : Nat) (xs : Nat → Int32) (s : State) : Prop := va_X b L xs s s.heap ∧ b < s.heap.size ∧ xz Γ = s.heap.size
section XL
variable {Γ : xG} {p : Program} {l : Launch} {e : Env} {R : Room} {s : State} {m : MethodId} {args : Array Value} {below : List Frame} {meth : Method} {c : Code} {nL : Nat} {Q : State → Prop} {w : xW} {cells slots pc : Nat} {lv lv' : List (Nat × Value)} {st rest : List Value}
variable {own : String} {cc : ByteArray} {ret : Option FieldType}
/-- a helper's contract out of its walk -/
theorem xOfWH {ρ : Type} {ι : ρ → Option Value} {y : MethodName} {cc : ByteArray} {maxL : Nat} {ret : Option FieldType} {hh : List (Nat × Nat × Nat × Nat)} {d mc ms n : Nat} {Γ : xG} {w : xW} {av : List Value} {rF : ρ ⊕ String} {wF : xW} (hy : xTgtH y cc maxL ret hh n) (hl : l.stackTraces = false) {lv0 : List (Nat × Value)} (hlen : (lg_sl av).length ≤ maxL) (hlv : lv_args 0 av = lv0)
    (body : ∀ (p : Program) (e : Env) (s : State) (m : MethodId) (below : List Frame) (meth : Method) (c : Code), xCx Γ p l s m av.toArray meth c y.cls cc maxL ret → c.exceptionTable.toList = tableOf hh → xNc s →
      xAW Γ p l e (xRm d mc ms) s m av.toArray below meth c maxL (xQm Γ below ι rF wF av.toArray s mc ms) w 0 0 0 lv0 []) : xMetL Γ l y (xwsH y cc maxL ret hh) d ι av w rF wF mc ms := by
  subst hlv
  refine vx_ofWH (cc := cc) (maxL := maxL) (ret := ret) (hh := hh) hy.2.2.2.2 rfl ?_
  intro p e s m args below meth c s₁ B hml hv
  obtain ⟨⟨rfl, hst, hR, hz⟩, hN⟩ := hv
  have hts := atoms_spec (ws := xwsH y cc maxL ret hh) B.pre
  have G : xCx Γ p l s m av.toArray meth c y.cls cc maxL ret := ⟨B.exec, B.bytes, hml, findClass_of_methodNamed B.named, fun w hw => hts w (List.mem_cons_of_mem _ hw), hst, hz, B.notSynchronized, B.returns, hl⟩
  rw [lg_entry_eq]
  exact body p e s m below meth c G (vx_table (x := y) B (hts _ List.mem_cons_self)) hN s.heap [] _ hR va_S.rf (lv_entry av hlen)
theorem xpayH {y : MethodName} {bytes : ByteArray} {maxL : Nat} {ret' : Option FieldType} {hh : List (Nat × Nat × Nat × Nat)} {n : Nat} (G : xCx Γ p l s m args meth c own cc nL ret) (ht : xTgtH y bytes maxL ret' hh n) : ∀ w ∈ xwsH y bytes maxL ret' hh, ∀ (a' : Array Value) (U : State), s.WarmedH U.vm → w.before a' U = true := by
  intro w hw a' U hW
  have hm : w ∈ xWS := (List.mem_cons.mp hw).elim (fun h => by rw [h]; exact ht.1) id
  exact word_at hW (good_of_word (xWS_good hm)) (G.2.2.2.2.1 _ hm)
theorem xCH {y : MethodName} {bytes : ByteArray} {maxL : Nat} {ret' : Option FieldType} {hh : List (Nat × Nat × Nat × Nat)} {n d mc ms ix : Nat} (G : xCx Γ p l s m args meth c own cc nL ret) (ht : xTgtH y bytes maxL ret' hh n) (hl : Cond.methodLink own ix y ∈ xWS) (hs : Cond.static y ∈ xWS) (hf : d + 1 ≤ R.frames) (hlo : 8 + (maxL + 11) + (30 * d + 100) ≤ R.locals) : vx_CSW R s args own ix y bytes maxL ret' hh (xwsH y bytes maxL ret' hh) (xRm d mc ms) mc ms n := by
  have hts := G.2.2.2.2.1
  refine ⟨⟨rfl, rfl, hf, hlo, xpayH G ht, List.mem_cons_self⟩, hts _ ht.1, hts _ ht.2.1, ht.2.2.1, fun sig h => ?_, hts _ hl, hts _ hs⟩
  have h2 := ht.2.2.2.1
  rw [h] at h2
  exact (Option.some.inj h2).symm
theorem xPreL {H : Heap} {locs : List Loc} (G : xCx Γ p l s m args meth c own cc nL ret) (hN : xNc s) (hR : xRl Γ w H) (hS : va_S (xA Γ) s.heap H locs) (As : List Value) : PreS s H (xPcL Γ As w) As :=
  ⟨xPcL.blind, fun U hU hW => ⟨(xPreS G hR hS As).2 U hU hW, xNc.moved hW.alike hN⟩⟩
/-- a call that may throw, and the handlers of it (at most one cell of six slots is new then) -/
theorem r_callVT {ρ σ : Type} {ι : σ → Option Value} {ι' : ρ → Option Value} {d d' n b ix ci N maxL s0 e0 : Nat} {T : u_T} {x : xO σ} {K : σ → xW → xO ρ} {KX : String → xW → xO ρ} {rF : ρ ⊕ String} {wF : xW} {As : List Value} {y : MethodName} {bytes : ByteArray} {ret' : Option FieldType} (hs : List (String × Nat × Nat)) (G : xCx Γ p l s m args meth c own cc nL ret) (hN : xNc s)
    (hT : c.exceptionTable.toList = tableOf (hs.map fun h => (s0, e0, h.2.1, h.2.2))) (hpc : s0 ≤ pc ∧ pc < e0) (hnm : (hs.map Prod.fst).Nodup) (hex : ∀ h ∈ hs, h.1 ∈ xex) (hct : ∀ h ∈ hs, h.2.2 ≠ 0 ∧ Cond.classLink own h.2.2 h.1 ∈ xWS ∧ Cond.castable h.1 h.1 ∈ xNS)
    (ht : xTgt y bytes maxL ret' n) (hM : ∀ (r : σ ⊕ String) (w' : xW), x = some (r, w') → xMet Γ l y (xws y bytes maxL ret') d' ι (.ref b :: As) w r w' (x_mc r) (x_ms r)) (ho : x_isO w b ci = true) (hyp : x_try x K KX = some (rF, wF)) (hc : xcl[ci]? = some (y.cls, T, N))
    (hl : Cond.methodLink own ix y ∈ xWS) (hi : Cond.instanceMethod y ∈ xWS) (hsl : Cond.selects y.cls y y ∈ xWS) (hf : d' + 1 ≤ d) (hlo : 8 + (maxL + 11) + (30 * d' + 100) ≤ 30 * d + 100) (hst : st = As.reverse ++ .ref b :: rest) (hn : As.length = n) (hW : (rest.map fun v => v.category).sum ≤ 8) (hd : decode cc pc = .ok (.invokevirtual ix, 3))
    {push : σ → List Value} (hpu : ∀ v, (ι v).toList ++ rest = push v)
    (kk : ∀ (v : σ) (w' : xW), K v w' = some (rF, wF) → xAW Γ p l e (xRm d 1 6) s m args below meth c nL (xQm Γ below ι' rF wF args s 1 6) w' 0 0 (pc + 3) lv (push v))
    (kx : ∀ (E : String) (w' : xW), KX E w' = some (rF, wF) → ∃ h ∈ hs, h.1 = E ∧ ∀ q : Nat, xAW Γ p l e (xRm d 1 6) s m args below meth c nL (xQm Γ below ι' rF wF args s 1 6) w' 1 6 h.2.1 lv [.ref q]) :
    xAW Γ p l e (xRm d 1 6) s m args below meth c nL (xQm Γ below ι' rF wF args s 1 6) w 0 0 pc lv st := by
  have hts := G.2.2.2.2.1
  cases x with
  | none => cases hyp
  | some q =>
    obtain ⟨r, w'⟩ := q
    have hrun : ∀ (H : Heap) (locs : List Loc) (ls : Array Slot), xRl Γ w H → va_S (xA Γ) s.heap H locs → lv_has ls nL lv → vx_Run p l e (xRm d 1 6) s m args below meth c H locs 0 0 (x_mc r) (x_ms r) (F0 m pc ls st) rest (xQc Γ ι r w' (Value.ref b :: As).toArray) (xXC Γ r w') (xA Γ) := fun H locs ls hR hS hL =>
      vx_runV (xFix G) (hM r w' rfl) ⟨xCB G ht hl hf hlo, hts _ hi, hts _ hsl⟩ (xPreV G hR hS hc ho As) rfl hn hL.1 hst (lv_room hW) hd (by cases r <;> exact ⟨Nat.le_of_ble_eq_true rfl, Nat.le_of_ble_eq_true rfl⟩)
    cases r with
    | inl v => exact r_run hrun (fun v1 h1 => by cases h1; rw [hpu]; exact kk v w' hyp) (fun E h => by cases h)
    | inr E =>
      refine r_run hrun (fun v1 h1 => by cases h1) (fun E1 h1 H locs ls q ce hR hS hL hce hcv hcl => ?_)
      cases h1
      obtain ⟨h, hh, rfl, kq⟩ := kx E w' hyp
      obtain ⟨pre, suf, he⟩ := List.append_of_mem hh
      refine vx_catch (name := h.1) G.2.2.2.1 (tableOf (pre.map fun h => (s0, e0, h.2.1, h.2.2))) ⟨s0, e0, h.2.1, h.2.2⟩ (tableOf (suf.map fun h => (s0, e0, h.2.1, h.2.2))) (by rw [hT, he]; simp [tableOf]) (fun z hz => ?_) (by simp [covers, hpc.1, hpc.2]) (hct h hh).1 (hts _ (hct h hh).2.1) (va_Nw.use (xnk_ot rfl) (G.2.2.2.2.2.1.2.1 _ (hct h hh).2.2)) hce hcv hcl (kq q H locs ls hR hS hL)
      simp only [tableOf, List.map_map, List.mem_map] at hz
      obtain ⟨z0, hz0, rfl⟩ := hz
      have hz1 : z0 ∈ hs := by rw [he]; exact List.mem_append_left _ hz0
      refine Or.inr ⟨(hct z0 hz1).1, z0.1, hts _ (hct z0 hz1).2.1, hN _ (hex h hh) _ (hex z0 hz1) (fun hc => ?_)⟩
      rw [he, List.map_append, List.map_cons] at hnm
      have h3 := (List.nodup_append.mp hnm).2.2 z0.1 (List.mem_map.mpr ⟨z0, hz0, rfl⟩) h.1 List.mem_cons_self
      exact h3 hc.symm
/-- in the law's body nothing is thrown -/
theorem r_runL {ρ σ : Type} {ι : σ → Option Value} {x : xO σ} {K : σ → xW → xO ρ} {z : ρ} {wF : xW} {As : Array Value} {mc ms : Nat} (hyp : x_bind x K = some (.inl z, wF))
    (hrun : ∀ (v : σ) (w' : xW), x = some (.inl v, w') → ∀ (H : Heap) (locs : List Loc) (ls : Array Slot), xRl Γ w H → va_S (xA Γ) s.heap H locs → lv_has ls nL lv → vx_Run p l e R s m args below meth c H locs cells slots mc ms (F0 m pc ls st) rest (xQc Γ ι (.inl v) w' As) (xXC Γ (Sum.inl v : σ ⊕ String) w') (xA Γ))
    (kk : ∀ (v : σ) (w' : xW), K v w' = some (.inl z, wF) → xAW Γ p l e R s m args below meth c nL Q w' (cells + mc) (slots + ms) (pc + 3) lv ((ι v).toList ++ rest)) : xAW Γ p l e R s m args below meth c nL Q w cells slots pc lv st := by
  cases x with
  | none => cases hyp
  | some q =>
    obtain ⟨r, w'⟩ := q
    cases r with
    | inl v => exact r_run (hrun v w' rfl) (fun v1 h1 => by cases h1; exact kk v w' hyp) (fun E h => by cases h)
    | inr E => cases (show some ((Sum.inr E : ρ ⊕ String), w') = some (.inl z, wF) from hyp)
theorem r_callLV {ρ σ : Type} {ι : σ → Option Value} {d' n b ix ci N maxL : Nat} {T : u_T} {x : xO σ} {K : σ → xW → xO ρ} {z : ρ} {wF : xW} {As : List Value} {y : MethodName} {bytes : ByteArray} {ret' : Option FieldType} (G : xCx Γ p l s m args meth c own cc nL ret)
    (ht : xTgt y bytes maxL ret' n) (hM : ∀ (r : σ ⊕ String) (w' : xW), x = some (r, w') → xMet Γ l y (xws y bytes maxL ret') d' ι (.ref b :: As) w r w' (x_mc r) (x_ms r)) (ho : x_isO w b ci = true) (hyp : x_bind x K = some (.inl z, wF)) (hc : xcl[ci]? = some (y.cls, T, N))
    (hl : Cond.methodLink own ix y ∈ xWS) (hi : Cond.instanceMethod y ∈ xWS) (hs : Cond.selects y.cls y y ∈ xWS) (hf : d' + 1 ≤ R.frames) (hlo : 8 + (maxL + 11) + (30 * d' + 100) ≤ R.locals) (hcf : cells ≤ R.cells ∧ slots ≤ R.slots) (hst : st = As.reverse ++ .ref b :: rest) (hn : As.length = n) (hW : (rest.map fun v => v.category).sum ≤ 8) (hd : decode cc pc = .ok (.invokevirtual ix, 3))
    {push : σ → List Value} (hpu : ∀ v, (ι v).toList ++ rest = push v)
    (kk : ∀ (v : σ) (w' : xW), K v w' = some (.inl z, wF) → xAW Γ p l e R s m args below meth c nL Q w' cells slots (pc + 3) lv (push v)) :
    xAW Γ p l e R s m args below meth c nL Q w cells slots pc lv st := by
  have hts := G.2.2.2.2.1
  refine r_runL (As := (Value.ref b :: As).toArray) (ι := ι) (rest := rest) (mc := 0) (ms := 0) hyp (fun v w' hx H locs ls hR hS hL => ?_) (fun v w' h => by rw [hpu]; exact kk v w' h)
  exact vx_runV (xFix G) (hM _ w' hx) ⟨xCB G ht hl hf hlo, hts _ hi, hts _ hs⟩ (xPreV G hR hS hc ho As) rfl hn hL.1 hst (lv_room hW) hd hcf
theorem r_callLS {ρ σ : Type} {ι : σ → Option Value} {d' n ix maxL : Nat} {x : xO σ} {K : σ → xW → xO ρ} {z : ρ} {wF : xW} {As : List Value} {y : MethodName} {bytes : ByteArray} {ret' : Option FieldType} {hh : List (Nat × Nat × Nat × Nat)} (G : xCx Γ p l s m args meth c own cc nL ret) (hN : xNc s)
    (ht : xTgtH y bytes maxL ret' hh n) (hM : ∀ (r : σ ⊕ String) (w' : xW), x = some (r, w') → xMetL Γ l y (xwsH y bytes maxL ret' hh) d' ι As w r w' 1 6) (hyp : x_bind x K = some (.inl z, wF))
    (hl : Cond.methodLink own ix y ∈ xWS) (hi : Cond.static y ∈ xWS) (hf : d' + 1 ≤ R.frames) (hlo : 8 + (maxL + 11) + (30 * d' + 100) ≤ R.locals) (hcf : cells + 1 ≤ R.cells ∧ slots + 6 ≤ R.slots) (hst : st = As.reverse ++ rest) (hn : As.length = n) (hW : (rest.map fun v => v.category).sum ≤ 8) (hd : decode cc pc = .ok (.invokestatic ix, 3))
    {push : σ → List Value} (hpu : ∀ v, (ι v).toList ++ rest = push v)
    (kk : ∀ (v : σ) (w' : xW), K v w' = some (.inl z, wF) → xAW Γ p l e R s m args below meth c nL Q w' (cells + 1) (slots + 6) (pc + 3) lv (push v)) :
    xAW Γ p l e R s m args below meth c nL Q w cells slots pc lv st := by
  refine r_runL (As := As.toArray) (ι := ι) (rest := rest) (mc := 1) (ms := 6) hyp (fun v w' hx H locs ls hR hS hL => ?_) (fun v w' h => by rw [hpu]; exact kk v w' h)
  exact vx_runSX (xFix G) (hM _ w' hx) (xCH G ht hl hi hf hlo) (xPreL G hN hR hS As) rfl hn hL.1 hst (lv_room hW) hd hcf
/-- the script -/
theorem r_sld {b L : Nat} {xs : Nat → Int32} {i : Int32} (G : xCx Γ p l s m args meth c own cc nL ret) (hX : xSc Γ b L xs s) (h : ¬ (i < 0 ∨ L ≤ i.toNatClampNeg)) (hd : decode cc pc = .ok (.iaload, 1))
    (kk : xAW Γ p l e R s m args below meth c nL Q w cells slots (pc + 1) lv (.int (xs i.toNatClampNeg) :: st)) : xAW Γ p l e R s m args below meth c nL Q w cells slots pc lv (.int i :: .ref b :: st) :=
  fun H locs ls hR hS hL => va_sld G.1 G.2.1 hX.1 hX.2.1 (fun h : xz Γ ≤ b => absurd hX.2.1 (Nat.not_lt.mpr (hX.2.2 ▸ h))) hS h hd (kk H locs ls hR hS hL)
theorem r_slen {b L : Nat} {xs : Nat → Int32} (G : xCx Γ p l s m args meth c own cc nL ret) (hX : xSc Γ b L xs s) (hd : decode cc pc = .ok (.arraylength, 1))
    (kk : xAW Γ p l e R s m args below meth c nL Q w cells slots (pc + 1) lv (.int (Int32.ofNat L) :: st)) : xAW Γ p l e R s m args below meth c nL Q w cells slots pc lv (.ref b :: st) :=
  fun H locs ls hR hS hL => va_slen G.1 G.2.1 hX.1 hX.2.1 (fun h : xz Γ ≤ b => absurd hX.2.1 (Nat.not_lt.mpr (hX.2.2 ▸ h))) hS hd (kk H locs ls hR hS hL)
/-- the law answers false: not what is looked at -/
theorem r_lwF {wF : xW} {P : Prop} (hyp : x_ret (0 : Int32) w = some (Sum.inl (1 : Int32), wF)) : P := by
  have h : (0 : Int32) = 1 := by
    have h1 : some ((Sum.inl (0 : Int32) : Int32 ⊕ String), w) = some (Sum.inl (1 : Int32), wF) := hyp
    injection h1 with h2
    injection h2 with h3
    injection h3
  exact absurd h (by decide)
end XL
