/-! ===== throws, switches, copies, constructors ===== -/
/-- the words of 'throw new E(text)' -/
def xThW (own : String) (ik ic : Nat) (E : String) : Prop := Cond.classLink own ik E ∈ xWS ∧ Cond.initialized E ∈ xWS ∧ (∀ w ∈ vx_atS own ic E ["java/lang/RuntimeException", "java/lang/Exception"], w ∈ xWS ∨ w ∈ xNS) ∧ Bundle.fit E = true
theorem x_ot {w : Cond} (h : w ∈ xWS ∨ w ∈ xNS) : vx_ot w = true := by
  rcases h with h | h
  · simp [vx_ot, xWS_good h]
  · simp [vx_ot, xnk_ot (List.mem_filter.mp h).2]
section XT
variable {Γ : xG} {p : Program} {l : Launch} {e : Env} {R : Room} {s : State} {m : MethodId} {args : Array Value} {below : List Frame} {meth : Method} {c : Code} {nL : Nat} {Q : State → Prop} {w : xW} {cells slots pc : Nat} {lv lv' : List (Nat × Value)} {st rest : List Value}
variable {own : String} {cc : ByteArray} {ret : Option FieldType}
theorem xat (G : xCx Γ p l s m args meth c own cc nL ret) {w : Cond} (h : w ∈ xWS ∨ w ∈ xNS) : w.before args s = true := by
  rcases h with h | h
  · exact G.2.2.2.2.1 _ h
  · exact va_Nw.use (xnk_ot (List.mem_filter.mp h).2) (G.2.2.2.2.2.1.2.1 _ h)
theorem r_throw {ρ : Type} {ι : ρ → Option Value} {d ik is ic : Nat} {E tx : String} {rF : ρ ⊕ String} {wF : xW} (i : Nat) (G : xCx Γ p l s m args meth c own cc nL ret) (hno : ∀ x ∈ c.exceptionTable.toList, False) (hyp : x_thr E w = some (rF, wF)) (hT : xThW own ik ic E) (hi : xLit[i]? = some (own, is, tx)) (h6 : 6 ≤ d)
    (d0 : decode cc pc = .ok (.new ik, 3)) (d3 : decode cc (pc + 3) = .ok (.dup, 1)) (d4 : decode cc (pc + 4) = .ok (.ldc is, 2)) (d6 : decode cc (pc + 6) = .ok (.invokespecial ic, 3)) (d9 : decode cc (pc + 9) = .ok (.athrow, 1)) :
    xAW Γ p l e (xRm d (x_mc rF) (x_ms rF)) s m args below meth c nL (xQm Γ below ι rF wF args s (x_mc rF) (x_ms rF)) w 0 0 pc lv [] := by
  have h2 : some ((Sum.inr E : ρ ⊕ String), ((w.1 + 1, w.2) : xW)) = some (rF, wF) := hyp
  cases h2
  intro H locs ls hR hS hL
  obtain ⟨k1, k2, k3, k4⟩ := hT
  refine xvx_throwS (names := ["java/lang/RuntimeException", "java/lang/Exception"]) G.1 G.2.1 G.2.2.2.2.2.2.2.2.2 G.2.2.2.1 k4 (by decide) (xat G (Or.inl k1)) (xat G (Or.inl k2)) (G.2.2.2.2.2.1.2.2.2.2.2.2.1 i _ hi).1 (fun w hw => xat G (k3 w hw)) (fun w hw => ?_) G.2.2.2.2.2.1.2.2.1 G.2.2.2.2.2.1.2.2.2.1 hS (hL.1.trans G.2.2.1.symm) d0 d3 d4 d6 d9 (fun x hx => absurd hx (hno x)) ?_ ?_ (Nat.le_refl _) (Nat.le_refl _) G.2.2.2.2.2.2.2.1 (fun t ha hz hk => ⟨rfl, ?_, ?_⟩) hS.2.2 (Nat.le_refl _) (Nat.le_refl _)
  · rcases List.mem_cons.mp hw with h | h
    · rw [h]; exact x_ot (Or.inl k1)
    · rcases List.mem_cons.mp h with h | h
      · rw [h]; exact x_ot (Or.inl k2)
      · exact x_ot (k3 w h)
  · show 2 + 3 < d
    omega
  · show 0 + (13 * (2 + 1) + 43) ≤ 30 * d + 100
    omega
  · refine ⟨by rw [hz, hR.1], Nat.le_succ_of_le hR.2.1, fun a e' ha' => ?_⟩
    have h9 := hR.2.2 a e' ha'
    exact ⟨h9.1, h9.2.kept (hk a h9.2.lt)⟩
  · exact ⟨by rw [hz]; exact Nat.le_succ_of_le hS.1, fun q h1 h2 => (hk q (Nat.lt_of_lt_of_le h1 hS.1)).trans (hS.2.1 q h1 h2)⟩
theorem r_throwW {ρ : Type} {ι : ρ → Option Value} {d ik is ic : Nat} {E tx : String} {rF : ρ ⊕ String} {wF : xW} (i : Nat) (G : xCx Γ p l s m args meth c own cc nL ret) (hno : ∀ x ∈ c.exceptionTable.toList, False) (hyp : x_thr E w = some (rF, wF)) (hT : xThW own ik ic E) (hi : xLit[i]? = some (own, is, tx)) (h6 : 6 ≤ d)
    (d0 : decode cc pc = .ok (.new ik, 3)) (d3 : decode cc (pc + 3) = .ok (.dup, 1)) (d4 : decode cc (pc + 4) = .ok (.ldc_w is, 3)) (d7 : decode cc (pc + 7) = .ok (.invokespecial ic, 3)) (d10 : decode cc (pc + 10) = .ok (.athrow, 1)) :
    xAW Γ p l e (xRm d (x_mc rF) (x_ms rF)) s m args below meth c nL (xQm Γ below ι rF wF args s (x_mc rF) (x_ms rF)) w 0 0 pc lv [] := by
  have h2 : some ((Sum.inr E : ρ ⊕ String), ((w.1 + 1, w.2) : xW)) = some (rF, wF) := hyp
  cases h2
  intro H locs ls hR hS hL
  obtain ⟨k1, k2, k3, k4⟩ := hT
  refine xvx_throwSW (names := ["java/lang/RuntimeException", "java/lang/Exception"]) G.1 G.2.1 G.2.2.2.2.2.2.2.2.2 G.2.2.2.1 k4 (by decide) (xat G (Or.inl k1)) (xat G (Or.inl k2)) (G.2.2.2.2.2.1.2.2.2.2.2.2.1 i _ hi).1 (fun w hw => xat G (k3 w hw)) (fun w hw => ?_) G.2.2.2.2.2.1.2.2.1 G.2.2.2.2.2.1.2.2.2.1 hS (hL.1.trans G.2.2.1.symm) d0 d3 d4 d7 d10 (fun x hx => absurd hx (hno x)) ?_ ?_ (Nat.le_refl _) (Nat.le_refl _) G.2.2.2.2.2.2.2.1 (fun t ha hz hk => ⟨rfl, ?_, ?_⟩) hS.2.2 (Nat.le_refl _) (Nat.le_refl _)
  · rcases List.mem_cons.mp hw with h | h
    · rw [h]; exact x_ot (Or.inl k1)
    · rcases List.mem_cons.mp h with h | h
      · rw [h]; exact x_ot (Or.inl k2)
      · exact x_ot (k3 w h)
  · show 2 + 3 < d
    omega
  · show 0 + (13 * (2 + 1) + 43) ≤ 30 * d + 100
    omega
  · refine ⟨by rw [hz, hR.1], Nat.le_succ_of_le hR.2.1, fun a e' ha' => ?_⟩
    have h9 := hR.2.2 a e' ha'
    exact ⟨h9.1, h9.2.kept (hk a h9.2.lt)⟩
  · exact ⟨by rw [hz]; exact Nat.le_succ_of_le hS.1, fun q h1 h2 => (hk q (Nat.lt_of_lt_of_le h1 hS.1)).trans (hS.2.1 q h1 h2)⟩
/-- a tableswitch: one of its places, or past them -/
theorem r_table (G : xCx Γ p l s m args meth c own cc nL ret) {dflt lo hi : Int} {offs : Array Int} {len : Nat} {x : Int32} (hd : decode cc pc = .ok (.tableswitch dflt lo hi offs, len)) {α : Type} {F : Nat → Option α} {D : Option α} {r : α} (lo' n : Nat) (hlo : lo = (lo' : Int)) (hhi : hi + 1 = ((lo' + n : Nat) : Int)) (tg : Nat → Nat) (td : Nat)
    (ho : ∀ j : Nat, j < n → ∃ off : Int, offs[j]? = some off ∧ (pc : Int) + off = (tg j : Int)) (hdf : (pc : Int) + dflt = (td : Int)) (hyp : (if (lo' : Int) ≤ x.toInt ∧ x.toInt < ((lo' + n : Nat) : Int) then F (x.toInt - (lo' : Int)).toNat else D) = some r)
    (kt : ∀ j : Nat, j < n → x.toInt = ((lo' + j : Nat) : Int) → F j = some r → xAW Γ p l e R s m args below meth c nL Q w cells slots (tg j) lv st)
    (kf : (x.toInt < (lo' : Int) ∨ ((lo' + n : Nat) : Int) ≤ x.toInt) → D = some r → xAW Γ p l e R s m args below meth c nL Q w cells slots td lv st) : xAW Γ p l e R s m args below meth c nL Q w cells slots pc lv (.int x :: st) := by
  subst hlo
  by_cases h : (lo' : Int) ≤ x.toInt ∧ x.toInt < ((lo' + n : Nat) : Int)
  · rw [if_pos h] at hyp
    have hj : (x.toInt - (lo' : Int)).toNat < n := by omega
    obtain ⟨off, h1, h2⟩ := ho _ hj
    exact fun H locs ls hR hS hL => lv_tableIn G.1 G.2.1 hd (by omega) (by omega) h1 h2 (kt _ hj (by omega) hyp H locs ls hR hS hL)
  · rw [if_neg h] at hyp
    exact fun H locs ls hR hS hL => lv_tableOut G.1 G.2.1 hd (by omega) hdf (kf (by omega) hyp H locs ls hR hS hL)
/-- a lookupswitch, whose offset is known -/
theorem r_lookup (G : xCx Γ p l s m args meth c own cc nL ret) {dflt : Int} {ps : Array (Int × Int)} {len : Nat} {x : Int32} {off : Int} (tgt : Nat) (hd : decode cc pc = .ok (.lookupswitch dflt ps, len)) (hp : (ps.toList.zip (ps.toList.drop 1)).all (fun (a, next) => a.1 < next.1) = true) (ho : Op.lookupswitch.offset ps.toList dflt x.toInt = off) (ht : (pc : Int) + off = (tgt : Int))
    (k : xAW Γ p l e R s m args below meth c nL Q w cells slots tgt lv st) : xAW Γ p l e R s m args below meth c nL Q w cells slots pc lv (.int x :: st) := fun H locs ls hR hS hL => lv_lookup G.1 G.2.1 hd hp ho ht (k H locs ls hR hS hL)
theorem r_objInit (G : xCx Γ p l s m args meth c own cc nL ret) {ix a : Nat} (hl : Cond.methodLink own ix Lib.objectInit ∈ xWS) (hi : Cond.instanceMethod Lib.objectInit ∈ xWS) (hcd : Cond.code Lib.objectInit ⟨#[0xb1]⟩ 1 none ∈ xWS) (hf : 1 ≤ R.frames) (hlo : (st.map fun v => v.category).sum + 12 ≤ R.locals) (hd : decode cc pc = .ok (.invokespecial ix, 3))
    (k : xAW Γ p l e R s m args below meth c nL Q w cells slots (pc + 3) lv st) : xAW Γ p l e R s m args below meth c nL Q w cells slots pc lv (.ref a :: st) := fun H locs ls hR hS hL =>
  W.objInit G.1 G.2.1 G.2.2.2.1 (G.2.2.2.2.1 _ hl) (G.2.2.2.2.1 _ hi) (G.2.2.2.2.1 _ hcd) rfl (hL.1.trans G.2.2.1.symm) rfl hd hf (by show 2 * 0 + _ + 12 ≤ _; omega) (k H locs ls hR hS hL)
/-- a constructor of the nest, that makes mc cells of ms slots -/
theorem r_callIN {ι : Unit → Option Value} {d' n b ix maxL mc ms : Nat} {host : String} {w' : xW} {As : List Value} {y : MethodName} {bytes : ByteArray} (hι : ι = xV) (G : xCx Γ p l s m args meth c own cc nL ret) (ht : xTgt y bytes maxL none n) (hM : xMet Γ l y (xws y bytes maxL none) d' ι (.ref b :: As) w (.inl ()) w' mc ms)
    (hl : Cond.methodLinkNest own ix y host ∈ xNS) (hi : Cond.instanceMethod y ∈ xWS) (hy : y.name = "<init>") (hf : d' + 1 ≤ R.frames) (hlo : 8 + (maxL + 11) + (30 * d' + 100) ≤ R.locals) (hcf : cells + mc ≤ R.cells ∧ slots + ms ≤ R.slots) (hst : st = As.reverse ++ .ref b :: rest) (hn : As.length = n) (hW : (rest.map fun v => v.category).sum ≤ 8) (hd : decode cc pc = .ok (.invokespecial ix, 3))
    (kk : xAW Γ p l e R s m args below meth c nL Q w' (cells + mc) (slots + ms) (pc + 3) lv rest) : xAW Γ p l e R s m args below meth c nL Q w cells slots pc lv st := by
  subst hι
  have hts := G.2.2.2.2.1
  exact r_run (As := (Value.ref b :: As).toArray) (fun H locs ls hR hS hL => vx_runIN (xFix G) hM ⟨xCN G ht hl hf hlo, hy, hts _ hi⟩ (xPreS G hR hS (.ref b :: As)) rfl hn hL.1 hst (lv_room hW) hd hcf) (fun v _ => kk) (fun E h => by cases h)
theorem r_callI {ι : Unit → Option Value} {d' n b ix maxL mc ms : Nat} {w' : xW} {As : List Value} {y : MethodName} {bytes : ByteArray} (hι : ι = xV) (G : xCx Γ p l s m args meth c own cc nL ret) (ht : xTgt y bytes maxL none n) (hM : xMet Γ l y (xws y bytes maxL none) d' ι (.ref b :: As) w (.inl ()) w' mc ms)
    (hl : Cond.methodLink own ix y ∈ xWS) (hi : Cond.instanceMethod y ∈ xWS) (hy : y.name = "<init>") (hf : d' + 1 ≤ R.frames) (hlo : 8 + (maxL + 11) + (30 * d' + 100) ≤ R.locals) (hcf : cells + mc ≤ R.cells ∧ slots + ms ≤ R.slots) (hst : st = As.reverse ++ .ref b :: rest) (hn : As.length = n) (hW : (rest.map fun v => v.category).sum ≤ 8) (hd : decode cc pc = .ok (.invokespecial ix, 3))
    (kk : xAW Γ p l e R s m args below meth c nL Q w' (cells + mc) (slots + ms) (pc + 3) lv rest) : xAW Γ p l e R s m args below meth c nL Q w cells slots pc lv st := by
  subst hι
  have hts := G.2.2.2.2.1
  exact r_run (As := (Value.ref b :: As).toArray) (fun H locs ls hR hS hL => vx_runI (xFix G) hM ⟨xCB G ht hl hf hlo, hy, hts _ hi⟩ (xPreS G hR hS (.ref b :: As)) rfl hn hL.1 hst (lv_room hW) hd hcf) (fun v _ => kk) (fun E h => by cases h)
/-- a tableswitch at a known key, and past all keys -/
theorem r_tabK (G : xCx Γ p l s m args meth c own cc nL ret) {dflt lo hi : Int} {offs : Array Int} {len : Nat} {x : Int32} {off : Int} (k : Int32) (hk : x = k) (tgt : Nat) (hd : decode cc pc = .ok (.tableswitch dflt lo hi offs, len)) (h1 : ¬ k.toInt < lo) (h2 : ¬ hi < k.toInt) (ho : offs[(k.toInt - lo).toNat]? = some off) (ht : (pc : Int) + off = (tgt : Int))
    (kk : xAW Γ p l e R s m args below meth c nL Q w cells slots tgt lv st) : xAW Γ p l e R s m args below meth c nL Q w cells slots pc lv (.int x :: st) := by
  subst hk
  exact fun H locs ls hR hS hL => lv_tableIn G.1 G.2.1 hd h1 h2 ho ht (kk H locs ls hR hS hL)
theorem r_tabD (G : xCx Γ p l s m args meth c own cc nL ret) {dflt lo hi : Int} {offs : Array Int} {len : Nat} {x : Int32} (keys : List Int32) (hk : ∀ k ∈ keys, ¬ x = k) (tgt : Nat) (hd : decode cc pc = .ok (.tableswitch dflt lo hi offs, len)) (ht : (pc : Int) + dflt = (tgt : Int)) (ho : ((hi + 1 - lo).toNat = offs.size ∧ ∀ j, j < offs.size → offs[j]? = some dflt ∨ keys.any (fun k => k.toInt == lo + j) = true))
    (kk : xAW Γ p l e R s m args below meth c nL Q w cells slots tgt lv st) : xAW Γ p l e R s m args below meth c nL Q w cells slots pc lv (.int x :: st) := by
  intro H locs ls hR hS hL
  by_cases h : x.toInt < lo ∨ hi < x.toInt
  · exact lv_tableOut G.1 G.2.1 hd h ht (kk H locs ls hR hS hL)
  · have hj : (x.toInt - lo).toNat < offs.size := by omega
    rcases ho.2 _ hj with h9 | h9
    · exact lv_tableIn G.1 G.2.1 hd (by omega) (by omega) h9 ht (kk H locs ls hR hS hL)
    · obtain ⟨k, h1, h2⟩ := List.any_eq_true.mp h9
      have h3 : k.toInt = x.toInt := by
        have : k.toInt = lo + ((x.toInt - lo).toNat : Int) := by simpa using h2
        omega
      exact absurd (Int32.toInt_inj.mp h3).symm (hk k h1)
theorem r_lkK (G : xCx Γ p l s m args meth c own cc nL ret) {dflt : Int} {ps : Array (Int × Int)} {len : Nat} {x : Int32} {off : Int} (k : Int32) (hk : x = k) (tgt : Nat) (hd : decode cc pc = .ok (.lookupswitch dflt ps, len)) (hp : (ps.toList.zip (ps.toList.drop 1)).all (fun (a, next) => a.1 < next.1) = true) (ho : Op.lookupswitch.offset ps.toList dflt k.toInt = off) (ht : (pc : Int) + off = (tgt : Int))
    (kk : xAW Γ p l e R s m args below meth c nL Q w cells slots tgt lv st) : xAW Γ p l e R s m args below meth c nL Q w cells slots pc lv (.int x :: st) := by
  subst hk
  exact r_lookup G tgt hd hp ho ht kk
theorem x_lkD {dflt : Int} {x : Int32} {keys : List Int32} (hk : ∀ k ∈ keys, ¬ x = k) : ∀ ps : List (Int × Int), (∀ q ∈ ps, keys.any (fun k => k.toInt == q.1) = true) → Op.lookupswitch.offset ps dflt x.toInt = dflt
  | [], _ => by simp [Op.lookupswitch.offset]
  | q :: ps, h => by
    have h1 : ¬ q.1 = x.toInt := by
      intro he
      obtain ⟨k, h1, h2⟩ := List.any_eq_true.mp (h q List.mem_cons_self)
      have h3 : k.toInt = q.1 := by simpa using h2
      exact hk k h1 (Int32.toInt_inj.mp (h3.trans he)).symm
    have ih := x_lkD (dflt := dflt) hk ps (fun q hq => h q (List.mem_cons_of_mem _ hq))
    simp only [Op.lookupswitch.offset, List.find?_cons] at ih ⊢
    simp [h1] at ih ⊢
    exact ih
theorem r_lkD (G : xCx Γ p l s m args meth c own cc nL ret) {dflt : Int} {ps : Array (Int × Int)} {len : Nat} {x : Int32} (keys : List Int32) (hk : ∀ k ∈ keys, ¬ x = k) (tgt : Nat) (hd : decode cc pc = .ok (.lookupswitch dflt ps, len)) (hp : (ps.toList.zip (ps.toList.drop 1)).all (fun (a, next) => a.1 < next.1) = true) (ho : ∀ q ∈ ps.toList, keys.any (fun k => k.toInt == q.1) = true) (ht : (pc : Int) + dflt = (tgt : Int))
    (kk : xAW Γ p l e R s m args below meth c nL Q w cells slots tgt lv st) : xAW Γ p l e R s m args below meth c nL Q w cells slots pc lv (.int x :: st) :=
  r_lookup G tgt hd hp (x_lkD hk _ ho) ht kk
/-- making cells -/
def x_alloc (w : xW) (e : xE) : Option xW := some (xpush w e)
theorem r_newx (G : xCx Γ p l s m args meth c own cc nL ret) {C : String} {T : u_T} {N ix : Nat} (ci : Nat) (ty : Nat → FieldType) (hty : ∀ k, k < N → parseFieldDescriptor (T k).2.2.1 = some (ty k)) (hc : xcl[ci]? = some (C, T, N)) (hin : ∀ w ∈ u_ws C T N, w ∈ xWS)
    (hl : Cond.classLink own ix C ∈ xWS) (hi : Cond.instantiable C N ∈ xWS) (hini : Cond.initialized C ∈ xWS) {fs : List Value} (hfs : ∀ j, j < N → defaultValue (ty j) = vp_V fs j) {w1 : xW} (hw : x_alloc w (.inr (ci, fs)) = some w1) (hcells : cells + 1 ≤ R.cells) (hslots : slots + N ≤ R.slots) (hd : decode cc pc = .ok (.new ix, 3))
    (kk : xAW Γ p l e R s m args below meth c nL Q w1 (cells + 1) (slots + N) (pc + 3) lv (.ref w.1 :: st)) : xAW Γ p l e R s m args below meth c nL Q w cells slots pc lv st := by
  cases hw
  exact r_new G ci ty hty hc hin hl hi hini hfs hcells hslots hd kk
theorem r_newqx (G : xCx Γ p l s m args meth c own cc nL ret) {C : String} {ix : Nat} {N : Nat} {n : Int32} (t : Nat) (ht : (t = 3 ∧ C = "ShadowWall$Layer") ∨ (t = 4 ∧ C = "ShadowWall$Layers")) (hl : Cond.classLink own ix C ∈ xWS) (hn : ¬ n < 0) (hN : n.toNatClampNeg = N) (hb : N * 4 ≤ 536870912) {w1 : xW} (hw : x_alloc w (.inl (t, N, .inr (.inr (.inr (.inr (fun _ => none)))))) = some w1) (hcells : cells + 1 ≤ R.cells) (hslots : slots + N ≤ R.slots) (hd : decode cc pc = .ok (.anewarray ix, 3))
    (kk : xAW Γ p l e R s m args below meth c nL Q w1 (cells + 1) (slots + N) (pc + 3) lv (.ref w.1 :: st)) : xAW Γ p l e R s m args below meth c nL Q w cells slots pc lv (.int n :: st) := by
  cases hw
  exact r_newq G t ht hl hn hN hb hcells hslots hd kk
theorem r_newax (G : xCx Γ p l s m args meth c own cc nL ret) {atype : ArrayType} {n : Int32} {N : Nat} (t : Nat) (ht : t ≤ 5) (hty : newarray.typeOf atype = xty t) (harr : Cond.arrayClass (xty t) ∈ xWS) (hp : t = 0 ∨ t = 1 ∨ t = 2 ∨ t = 5) {x : (Nat → Int32) ⊕ (Nat → Int64) ⊕ (Nat → UInt32) ⊕ (Nat → UInt64) ⊕ (Nat → Option Nat)} (hx : ∀ (cA : ClassId) (N : Nat), vp_cell cA (N, x) = arrV cA N (fun _ => defaultValue (xty t))) (hn : ¬ n < 0) (hN : n.toNatClampNeg = N) (hb : N * componentBytes (xty t) ≤ 536870912) {w1 : xW} (hw : x_alloc w (.inl (t, N, x)) = some w1) (hcells : cells + 1 ≤ R.cells) (hslots : slots + N ≤ R.slots) (hd : decode cc pc = .ok (.newarray atype, 2))
    (kk : xAW Γ p l e R s m args below meth c nL Q w1 (cells + 1) (slots + N) (pc + 2) lv (.ref w.1 :: st)) : xAW Γ p l e R s m args below meth c nL Q w cells slots pc lv (.int n :: st) := by
  cases hw
  exact r_newa G t ht hty harr hp hx hn hN hb hcells hslots hd kk
theorem r_ldcfW (G : xCx Γ p l s m args meth c own cc nL ret) {ix : Nat} {v : UInt32} (hd : decode cc pc = .ok (.ldc_w ix, 3)) (hw : Cond.constantFloat own ix v ∈ xWS) (k : xAW Γ p l e R s m args below meth c nL Q w cells slots (pc + 3) lv (.float v :: st)) : xAW Γ p l e R s m args below meth c nL Q w cells slots pc lv st := by
  intro H locs ls hR hS hL T hT X
  obtain ⟨t, a, b⟩ := k H locs ls hR hS hL T hT X
  obtain ⟨k0, cf, hk, hcf, hcp⟩ := Cond.constantFloat_spec G.2.2.2.1 (G.2.2.2.2.1 _ hw)
  obtain ⟨k', hk', he⟩ := X.warmed.alike.2.2 _ _ hk
  have hx := G.1
  have hd' : decode c.code pc = .ok (.ldc_w ix, 3) := by rw [G.2.1]; exact hd
  refine ⟨t, ?_, b⟩
  jvm_step X.here [hx, hd', ldc_w.wp_float (s := T) (f := F0 m pc ls st) X.here.top hk' (by rw [he]; exact hcf) hcp]
  exact a
/-- System.arraycopy of ints -/
theorem r_copy (G : xCx Γ p l s m args meth c own cc nL ret) {ix a0 a : Nat} {sp dp n : Int32} {w1 : xW} (hv : x_cpy w a0 sp a dp n = some w1) (hl : Cond.methodLink own ix arraycopyName ∈ xWS) (hna : Cond.native arraycopyName ∈ xWS) (hsta : Cond.static arraycopyName ∈ xWS) (hini : Cond.initialized "java/lang/System" ∈ xWS)
    (hframes : 1 ≤ R.frames) (hlocals : (st.map fun v => v.category).sum + (nativeFrameWords "java/lang/System" "arraycopy" 5 + 11) ≤ R.locals) (hd : decode cc pc = .ok (.invokestatic ix, 3))
    (kk : xAW Γ p l e R s m args below meth c nL Q w1 cells slots (pc + 3) lv st) : xAW Γ p l e R s m args below meth c nL Q w cells slots pc lv (.int n :: .int dp :: .ref a :: .int sp :: .ref a0 :: st) := by
  obtain ⟨n0, f, n1, g, ha0, ha1, h1, h2, h3, h4, h5, rfl⟩ := x_cpy_e hv
  intro H locs ls hR hS hL
  have nn : ∀ z : Int32, ¬ z < 0 → z.toInt = (z.toNatClampNeg : Int) := by
    intro z hz
    have hz0 : (0 : Int) ≤ z.toInt := by
      have := Int32.not_lt.mp hz
      simpa using Int32.le_iff_toInt_le.mp this
    show z.toInt = ((z.toInt.toNat : Nat) : Int)
    omega
  intro T hT X
  have hK := xG_K G
  have hts := G.2.2.2.2.1
  have hc0 : H[a0]? = some (vp_cell (Γ.2.1 0) (n0, .inl f)) := (hR.2.2 _ _ ha0).2
  have hc1 : H[a]? = some (vp_cell (Γ.2.1 0) (n1, .inl g)) := (hR.2.2 _ _ ha1).2
  obtain ⟨-, k0, hk0, cm0, hkk0⟩ := (hK.2 0 _ rfl).1 n0 (fun j => .int (f j))
  obtain ⟨-, k1, hk1, cm1, hkk1⟩ := (hK.2 0 _ rfl).1 n1 (fun j => .int (g j))
  obtain ⟨vm', X', step⟩ := X.arraycopy G.1 G.2.2.2.1 (hts _ hl) (hts _ hna) (hts _ hsta) (hts _ hini) (src := a0) (dst := a) (cs := vp_cell (Γ.2.1 0) (n0, .inl f)) (cd := vp_cell (Γ.2.1 0) (n1, .inl g)) (srcPos := sp) (destPos := dp) (n := n) (by rw [hT]; exact hc0) (by rw [hT]; exact hc1)
    (fun _ h => by cases h) (fun _ h => by cases h) (fun h => by cases h) (fun h => by cases h) hk0 hk1 hkk0 hkk1 (by simp [xty, refKind]) h1 h2 h3
    (by rw [nn sp h1, nn n h3]; show ¬ _ > ((arrV _ n0 (fun j => .int (f j))).slots.size : Int); rw [arrV_size]; omega)
    (by rw [nn dp h2, nn n h3]; show ¬ _ > ((arrV _ n1 (fun j => .int (g j))).slots.size : Int); rw [arrV_size]; omega)
    (fun vm₁ _ i hi => by
      have e : (vp_cell (Γ.2.1 0) (n0, .inl f)).slots.getD (sp.toNatClampNeg + i) .null = .int (f (sp.toNatClampNeg + i)) := by
        show (arrV _ n0 (fun j => .int (f j))).slots.getD _ _ = _
        rw [Array.getD_eq_getD_getElem?, arrV_read _ _ (by omega)]
        rfl
      refine ⟨?_, ?_⟩
      · rw [e]
        rfl
      · rw [e]
        exact trivial)
    (g := F0 m pc ls (.int n :: .int dp :: .ref a :: .int sp :: .ref a0 :: st)) rfl (by rw [G.2.2.1]; exact hL.1) (rest := st) rfl (by rw [G.2.1]; exact hd) hframes (by show 2 * 0 + _ + _ ≤ _; omega)
  have e1 : copied (vp_cell (Γ.2.1 0) (n0, .inl f)) (vp_cell (Γ.2.1 0) (n1, .inl g)) sp dp n = vp_cell (Γ.2.1 0) (n1, .inl (va_cpy f g sp.toNatClampNeg dp.toNatClampNeg n.toNatClampNeg)) := va_copied (fun z => .int z) _ _ f g h4
  rw [e1] at X' step
  have hla : a < H.size := (Array.getElem?_eq_some_iff.mp hc1).1
  have hza : xA Γ a := (hR.2.2 _ _ ha1).1
  generalize hH1 : H.setIfInBounds a (vp_cell (Γ.2.1 0) (n1, .inl (va_cpy f g sp.toNatClampNeg dp.toNatClampNeg n.toNatClampNeg))) = H1
  have hheap : ((T.setVm vm').setCell a (vp_cell (Γ.2.1 0) (n1, .inl (va_cpy f g sp.toNatClampNeg dp.toNatClampNeg n.toNatClampNeg)))).heap = H1 := by rw [← hH1, ← hT]; rfl
  have oq : ∀ q : Nat, q ≠ a → H1[q]? = H[q]? := fun q hq => by rw [← hH1]; simp [Array.getElem?_setIfInBounds, Ne.symm hq]
  have z1 : H1.size = H.size := by rw [← hH1]; simp
  have e2 : H1[a]? = some (vp_cell (Γ.2.1 0) (n1, .inl (va_cpy f g sp.toNatClampNeg dp.toNatClampNeg n.toNatClampNeg))) := by rw [← hH1]; simp [Array.getElem?_setIfInBounds, hla]
  obtain ⟨t, a1, b1⟩ := kk H1 _ ls (hR.set ha1 e2 z1 oq) ⟨by rw [z1]; exact hS.1, fun q g1 g2 => by
      rw [oq q (fun e => g2 (by rw [e]; exact hza))]
      exact hS.2.1 q g1 g2, fun q hq => by
      rcases List.mem_append.mp hq with h | h
      · exact hS.2.2 q h
      · obtain ⟨z, -, hz⟩ := List.mem_map.mp h
        rw [← hz]
        exact hza⟩ hL _ hheap X'
  exact ⟨t, step t a1, b1⟩
end XT
theorem xuw {ws : List Cond} (ps : List Nat) (h : ws = ps.filterMap (fun i => lw_tbl[i]?)) (hg : ws.all goodWord = true) : ∀ w ∈ ws, w ∈ xWS := by
  intro w hw
  have h1 := List.all_eq_true.mp hg w hw
  rw [h] at hw
  obtain ⟨i, -, hi⟩ := List.mem_filterMap.mp hw
  exact xw i hi h1
theorem xthw {L : List Cond} (h : L.all (fun w => (goodWord w && decide (w ∈ lw_tbl)) || (xnk w && decide (w ∈ tables_1))) = true) : ∀ w ∈ L, w ∈ xWS ∨ w ∈ xNS := by
  intro w hw
  have h1 := List.all_eq_true.mp h w hw
  simp only [Bool.or_eq_true, Bool.and_eq_true, decide_eq_true_eq] at h1
  rcases h1 with ⟨a, b⟩ | ⟨a, b⟩
  · exact Or.inl (List.mem_filter.mpr ⟨b, a⟩)
  · exact Or.inr (List.mem_filter.mpr ⟨b, a⟩)
