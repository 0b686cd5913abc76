/-! ===== the start: all that holds at the law's entry, and the law out of the function of worlds ===== -/
theorem in_0 : Cond.instantiable RX0 6 ∈ xWS := xw 183 (by decide +kernel) (by decide +kernel)
theorem in_1 : Cond.instantiable RX1 6 ∈ xWS := xw 157 (by decide +kernel) (by decide +kernel)
theorem in_2 : Cond.instantiable RX2 3 ∈ xWS := xw 137 (by decide +kernel) (by decide +kernel)
theorem in_3 : Cond.instantiable RX3 3 ∈ xWS := xw 101 (by decide +kernel) (by decide +kernel)
theorem in_4 : Cond.instantiable RX4 4 ∈ xWS := xw 94 (by decide +kernel) (by decide +kernel)
theorem in_5 : Cond.instantiable RX5 2 ∈ xWS := xw 211 (by decide +kernel) (by decide +kernel)
theorem in_6 : Cond.instantiable RX6 9 ∈ xWS := xw 86 (by decide +kernel) (by decide +kernel)
theorem in_7 : Cond.instantiable RX7 22 ∈ xWS := xw 1163 (by decide +kernel) (by decide +kernel)
theorem ia_0 : Cond.arrayClass (xty 0) ∈ xWS := xw 119 (by decide +kernel) (by decide +kernel)
theorem ia_1 : Cond.arrayClass (xty 1) ∈ xWS := xw 209 (by decide +kernel) (by decide +kernel)
theorem ia_2 : Cond.arrayClass (xty 2) ∈ xWS := xw 181 (by decide +kernel) (by decide +kernel)
theorem ia_5 : Cond.arrayClass (xty 5) ∈ xWS := xw 1607 (by decide +kernel) (by decide +kernel)
theorem it_3 : Cond.arrayOver (.object "ShadowWall$Layer") ∈ lw_tbl := List.mem_append_right _ (List.mem_of_getElem? (i := 39) (by decide +kernel))
theorem it_4 : Cond.arrayOver (.object "ShadowWall$Layers") ∈ lw_tbl := List.mem_append_right _ (List.mem_of_getElem? (i := 82) (by decide +kernel))
theorem is_0 : Cond.laysStatic "java/lang/Throwable" "UNASSIGNED_STACK" "[Ljava/lang/StackTraceElement;" ∈ lw_tbl := List.mem_append_right _ (List.mem_of_getElem? (i := 488) (by decide +kernel))
theorem ii_0 : Cond.initialized "java/lang/Throwable" ∈ lw_tbl := List.mem_append_right _ (List.mem_of_getElem? (i := 11) (by decide +kernel))
theorem is_1 : Cond.laysStatic "java/lang/Throwable" "SUPPRESSED_SENTINEL" "Ljava/util/List;" ∈ lw_tbl := List.mem_append_right _ (List.mem_of_getElem? (i := 490) (by decide +kernel))
theorem ii_1 : Cond.initialized "java/lang/Throwable" ∈ lw_tbl := List.mem_append_right _ (List.mem_of_getElem? (i := 11) (by decide +kernel))
theorem is_2 : Cond.laysStatic "java/lang/String" "COMPACT_STRINGS" "Z" ∈ lw_tbl := List.mem_append_right _ (List.mem_of_getElem? (i := 953) (by decide +kernel))
theorem ii_2 : Cond.initialized "java/lang/String" ∈ lw_tbl := List.mem_append_right _ (List.mem_of_getElem? (i := 20) (by decide +kernel))
theorem is_3 : Cond.laysStatic "jdk/internal/util/Preconditions" "SIOOBE_FORMATTER" "Ljava/util/function/BiFunction;" ∈ lw_tbl := List.mem_append_right _ (List.mem_of_getElem? (i := 969) (by decide +kernel))
theorem ii_3 : Cond.initialized "jdk/internal/util/Preconditions" ∈ lw_tbl := List.mem_append_right _ (List.mem_of_getElem? (i := 22) (by decide +kernel))
/-- what the Statement gives of the start, one by one -/
def xGv : List Cond := flatC (Jvm.Cond.and given_1 narrow_1)
def xStrC (q : String × Nat × String) : List Cond :=
  .exactly (.string q.1 q.2.1) "java/lang/String" :: .eq (.field (.string q.1 q.2.1) "java/lang/String" "coder" "B") (.int 0) :: .arrayOf (.field (.string q.1 q.2.1) "java/lang/String" "value" "[B") .byte ::
    .eq (.length (.field (.string q.1 q.2.1) "java/lang/String" "value" "[B")) (.int (Int32.ofNat (q.2.2.toList.map fun ch => Int32.ofNat ch.toNat).length)) ::
      (List.range (q.2.2.toList.map fun ch => Int32.ofNat ch.toNat).length).map fun j => .eq (.elem (.field (.string q.1 q.2.1) "java/lang/String" "value" "[B") (.int (Int32.ofNat j))) (.int ((q.2.2.toList.map fun ch => Int32.ofNat ch.toNat).getD j 0))
set_option maxRecDepth 1000000 in
theorem xStr_in : xGv.drop 99 = xLit.flatMap xStrC := by decide +kernel
theorem xLit_sz : (xLit.all fun q => decide (q.2.2.toList.length < 2147483648)) = true := by decide +kernel
theorem xGv_4 : xGv[4]? = some (.isRef (.static "java/lang/Throwable" "UNASSIGNED_STACK" "[Ljava/lang/StackTraceElement;")) := by decide +kernel
theorem xGv_5 : xGv[5]? = some (.isRef (.static "java/lang/Throwable" "SUPPRESSED_SENTINEL" "Ljava/util/List;")) := by decide +kernel
theorem xGv_6 : xGv[6]? = some (.eq (.static "java/lang/String" "COMPACT_STRINGS" "Z") (.int 1)) := by decide +kernel
theorem xGv_7 : xGv[7]? = some (.isRef (.static "jdk/internal/util/Preconditions" "SIOOBE_FORMATTER" "Ljava/util/function/BiFunction;")) := by decide +kernel
theorem xGv_nc : (xex.all fun E => xex.all fun E' => decide (E = E') || decide (Cond.not (.castable E E') ∈ xGv)) = true := by decide +kernel
theorem st_arr {args : Array Value} {s : State} {ty : FieldType} (hp : ∀ C, ty ≠ .object C) (h : (Cond.arrayClass ty).before args s = true) : ∃ cA, ArrOfT s cA ty ∧ va_RA s cA ty := by
  obtain ⟨cA, k, comp, h1, h2, h3⟩ := Cond.arrayClass_spec h
  refine ⟨cA, fun n z => ⟨fun k h => (by cases h), k, h2, comp, h3⟩, ?_⟩
  cases ty <;> first | exact h1 | exact absurd rfl (hp _)
theorem st_arrO {args : Array Value} {s : State} {C : String} (h : (Cond.arrayOver (.object C)).before args s = true) : ∃ cA, ArrOfT s cA (.object C) ∧ va_RA s cA (.object C) := by
  obtain ⟨comp, cA, k, h1, h2, h3, h4, h5⟩ := Cond.arrayOver_spec h
  exact ⟨cA, fun n z => ⟨fun k h => (by cases h), k, h3, comp, h4⟩, k, comp, h3, h4, h1, h5⟩
theorem xBy_of {i : Nat} {q : String × Nat × String} (h : xLit[i]? = some q) : xBy i = q.2.2.toList.map fun ch => Int32.ofNat ch.toNat := by
  unfold xBy
  rw [h]
/-- a literal, its bytes -/
theorem st_lit {args : Array Value} {s : State} {A : Nat → Prop} (hfl : ∀ w ∈ xGv, w.before args s = true) (htb : ∀ w ∈ tables_1, w.before args s = true) (hA : ∀ a : Nat, a < s.heap.size → ¬ A a) (i : Nat) (q : String × Nat × String) (hq : xLit[i]? = some q) :
    ∃ a v : Nat, vk_R q.1 q.2.1 q.2.2 a s ∧ va_O "java/lang/String" a A s s.heap ∧ va_OF "java/lang/String" "coder" "B" (.int 0) a A s s.heap ∧ va_OF "java/lang/String" "value" "[B" (.ref v) a A s s.heap ∧ va_T .byte v (xBy i).length (fun j => .int ((xBy i).getD j 0)) A s s.heap := by
  have hm : q ∈ xLit := List.mem_of_getElem? hq
  have hc : ∀ w ∈ xStrC q, w.before args s = true := fun w hw => hfl w (List.mem_of_mem_drop (i := 99) (by rw [xStr_in]; exact List.mem_flatMap.mpr ⟨q, hm, hw⟩))
  have hlen : (xBy i).length < 2 ^ 31 := by
    rw [xBy_of hq, List.length_map]
    have := List.all_eq_true.mp xLit_sz q hm
    simpa using this
  have hst : (Cond.stringRef q.1 q.2.1 q.2.2).before args s = true := by
    simp only [xLit, List.mem_filterMap] at hm
    obtain ⟨w, hw, he⟩ := hm
    cases w <;> simp at he
    subst he
    exact htb _ hw
  have hb := xBy_of hq
  obtain ⟨a, c, cA, kA, q1, q2, q3, q4, q5, q6, -⟩ := Cond.exactly_spec (args := args) (first := s) (o := none) (s := s) (idx := []) (t := .string q.1 q.2.1) (cls := "java/lang/String") (hc _ List.mem_cons_self)
  obtain ⟨t, ht, hT⟩ := va_Tof (f := fun j => .int ((xBy i).getD j 0)) (A := A) (N := (xBy i).length) hlen (hc _ (List.mem_cons_of_mem _ (List.mem_cons_of_mem _ List.mem_cons_self))) (by rw [hb]; exact va_eqt (hc _ (List.mem_cons_of_mem _ (List.mem_cons_of_mem _ (List.mem_cons_of_mem _ List.mem_cons_self))))) (fun j hj => by
    rw [hb] at hj ⊢
    exact va_eqt (hc _ (List.mem_cons_of_mem _ (List.mem_cons_of_mem _ (List.mem_cons_of_mem _ (List.mem_cons_of_mem _ (List.mem_map.mpr ⟨j, List.mem_range.mpr hj, rfl⟩))))))) hA
  exact ⟨a, t, vk_R.of hst q1, ⟨cA, q3, q5, by rw [q6]; exact q2, hA a (Array.getElem?_eq_some_iff.mp q3).1⟩, vk_OFof q1 (va_eqt (hc _ (List.mem_cons_of_mem _ List.mem_cons_self))) hA, vk_OFof q1 ht hA, hT⟩
/-- all that holds at the entry -/
theorem st_all {args : Array Value} {s : State} (hfl : ∀ w ∈ xGv, w.before args s = true) (hts : ∀ w ∈ lw_tbl, w.before args s = true) : ∃ Γ : xG, xz Γ = s.heap.size ∧ xSt Γ s := by
  have hws : ∀ w ∈ xWS, w.before args s = true := fun w hw => hts w (List.mem_filter.mp hw).1
  have htb : ∀ w ∈ tables_1, w.before args s = true := fun w hw => hts w (List.mem_append_right _ hw)
  have hA : ∀ a : Nat, a < s.heap.size → ¬ (fun q : Nat => s.heap.size ≤ q) a := fun a h => Nat.not_le.mpr h
  have hK : ∀ c : Nat, ∃ q : ClassId × (Nat → Nat), ∀ r, xcl[c]? = some r → u_Kn s r.1 r.2.1 r.2.2 q.1 q.2 := by
    intro c
    match c with
    | 0 => obtain ⟨cC, iS, h⟩ := u_known (C := RX0) (T := TX0) (N := 6) (n := 6) hws uw_0 (hws _ in_0); exact ⟨(cC, iS), fun r hr => by cases hr; exact h⟩
    | 1 => obtain ⟨cC, iS, h⟩ := u_known (C := RX1) (T := TX1) (N := 6) (n := 6) hws uw_1 (hws _ in_1); exact ⟨(cC, iS), fun r hr => by cases hr; exact h⟩
    | 2 => obtain ⟨cC, iS, h⟩ := u_known (C := RX2) (T := TX2) (N := 3) (n := 3) hws uw_2 (hws _ in_2); exact ⟨(cC, iS), fun r hr => by cases hr; exact h⟩
    | 3 => obtain ⟨cC, iS, h⟩ := u_known (C := RX3) (T := TX3) (N := 3) (n := 3) hws uw_3 (hws _ in_3); exact ⟨(cC, iS), fun r hr => by cases hr; exact h⟩
    | 4 => obtain ⟨cC, iS, h⟩ := u_known (C := RX4) (T := TX4) (N := 4) (n := 4) hws uw_4 (hws _ in_4); exact ⟨(cC, iS), fun r hr => by cases hr; exact h⟩
    | 5 => obtain ⟨cC, iS, h⟩ := u_known (C := RX5) (T := TX5) (N := 2) (n := 2) hws uw_5 (hws _ in_5); exact ⟨(cC, iS), fun r hr => by cases hr; exact h⟩
    | 6 => obtain ⟨cC, iS, h⟩ := u_known (C := RX6) (T := TX6) (N := 9) (n := 9) hws uw_6 (hws _ in_6); exact ⟨(cC, iS), fun r hr => by cases hr; exact h⟩
    | 7 => obtain ⟨cC, iS, h⟩ := u_known (C := RX7) (T := TX7) (N := 22) (n := 22) hws uw_7 (hws _ in_7); exact ⟨(cC, iS), fun r hr => by cases hr; exact h⟩
    | k + 8 => exact ⟨(0, fun _ => 0), fun r hr => by simp [xcl] at hr⟩
  have hT : ∀ k : Nat, ∃ cA : ClassId, ArrOfT s cA (xty k) ∧ va_RA s cA (xty k) := by
    intro k
    match k with
    | 0 => exact st_arr (fun C h => by cases h) (hws _ ia_0)
    | 1 => exact st_arr (fun C h => by cases h) (hws _ ia_1)
    | 2 => exact st_arr (fun C h => by cases h) (hws _ ia_2)
    | 3 => exact st_arrO (hts _ it_3)
    | 4 => exact st_arrO (hts _ it_4)
    | k + 5 => exact st_arr (fun C h => by cases h) (hws _ ia_5)
  have hL : ∀ i : Nat, ∃ q : Nat × Nat, ∀ r, xLit[i]? = some r → vk_R r.1 r.2.1 r.2.2 q.1 s ∧ va_O "java/lang/String" q.1 (fun q : Nat => s.heap.size ≤ q) s s.heap ∧ va_OF "java/lang/String" "coder" "B" (.int 0) q.1 (fun q : Nat => s.heap.size ≤ q) s s.heap ∧ va_OF "java/lang/String" "value" "[B" (.ref q.2) q.1 (fun q : Nat => s.heap.size ≤ q) s s.heap ∧ va_T .byte q.2 (xBy i).length (fun j => .int ((xBy i).getD j 0)) (fun q : Nat => s.heap.size ≤ q) s s.heap := by
    intro i
    cases hi : xLit[i]? with
    | none => exact ⟨(0, 0), fun r hr => by cases hr⟩
    | some r0 =>
      obtain ⟨a, v, h⟩ := st_lit hfl htb hA i r0 hi
      exact ⟨(a, v), fun r hr => by cases hr; exact h⟩
  obtain ⟨dK, hdK⟩ := Classical.axiomOfChoice hK
  obtain ⟨dT, hdT⟩ := Classical.axiomOfChoice hT
  obtain ⟨ad, had⟩ := Classical.axiomOfChoice hL
  refine ⟨((fun k => (dK k).1, fun k => (dK k).2), dT, s.heap.size, fun i => (ad i).1, fun i => (ad i).2), rfl, ⟨fun c q hq => hdK c q hq, fun k q hk => ?_⟩, fun w hw => va_Nw.of (xnk_ot (List.mem_filter.mp hw).2) (htb w (List.mem_filter.mp hw).1), ?_, ?_, ?_, ?_, fun i q hq => had i q hq, va_AO.of (hts _ it_3), va_AO.of (hts _ it_4)⟩
  · match k, hk with
    | 0, hk => cases hk; exact hdT 0
    | 1, hk => cases hk; exact hdT 1
    | 2, hk => cases hk; exact hdT 2
    | 3, hk => cases hk; exact hdT 3
    | 4, hk => cases hk; exact hdT 4
    | 5, hk => cases hk; exact hdT 5
    | k + 6, hk => simp [xtys] at hk
  · exact vx_Zqof (hts _ is_0) (hts _ ii_0) (hfl _ (List.mem_of_getElem? xGv_4)) hA
  · exact vx_Zqof (hts _ is_1) (hts _ ii_1) (hfl _ (List.mem_of_getElem? xGv_5)) hA
  · exact va_Zof (hts _ is_2) (hts _ ii_2) (va_eqi (hfl _ (List.mem_of_getElem? xGv_6))) hA
  · exact va_Zqof (hts _ is_3) (hts _ ii_3) (hfl _ (List.mem_of_getElem? xGv_7)) hA
theorem st_nc {args : Array Value} {s : State} (hfl : ∀ w ∈ xGv, w.before args s = true) : xNc s := by
  intro E hE E' hE' hn
  have h1 := List.all_eq_true.mp (List.all_eq_true.mp xGv_nc E hE) E' hE'
  simp only [Bool.or_eq_true, decide_eq_true_eq] at h1
  exact va_Nc.of (hfl _ (h1.resolve_left hn))
/-- the law's walk, if its function of worlds answers 1 -/
theorem whole_open (hlaw : ∀ (L : Nat) (xs : Nat → Int32) (z : Nat), L ≤ 3584 → ∃ wF, f_L_law xs L (z, fun _ => none) = some (Sum.inl (1 : Int32), wF))
    {p : Program} {e : Env} {s : State} {m : MethodId} {below : List Frame} {meth : Method} {c : Code} (l : Launch) (hflags : l.flags = flags0) {b L : Nat} {xs : Nat → Int32} (hL : L ≤ 3584) (C0 : lw_At p s m meth c b L xs) : W p l e room_1 s m #[Value.ref b] below meth c s.heap [] 0 0 (lw_Z below #[Value.ref b] s) (entryFrame m ([Value.ref b] : List Value).toArray 9) := by
  obtain ⟨hx, hb, hr, hml, hown, hts, hX, hbl, hlocks, hgv⟩ := id C0
  have hfl : ∀ w ∈ xGv, w.before #[Value.ref b] s = true := flat_of_before _ hgv
  obtain ⟨Γ, hz, hst⟩ := st_all hfl hts
  obtain ⟨wF, hyp⟩ := hlaw L xs s.heap.size hL
  have hl : l.stackTraces = false := by
    first
      | (unfold Launch.stackTraces; rw [hflags]; decide)
      | (simp [Launch.stackTraces, hflags, flags0])
  have G : xCx Γ p l s m #[Value.ref b] meth c RL cL_law 9 (some .boolean) := ⟨hx, hb, hml, hown, fun w hw => hts w (List.mem_filter.mp hw).1, hst, Nat.le_of_eq hz, hlocks, hr, hl⟩
  rw [lg_entry_eq]
  exact ct_L_law G (st_nc hfl) ⟨hX, hbl, hz⟩ (s.heap.size, fun _ => none) hyp s.heap [] _ ⟨rfl, Nat.le_of_eq hz, fun a e h => by cases h⟩ va_S.rf (lv_entry ([.ref b]) (n := 9) (Nat.le_of_ble_eq_true rfl))
