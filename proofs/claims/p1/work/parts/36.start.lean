/-! THE START: what lies there -/
noncomputable def mz_fl0 : List Jvm.Cond := flatC (Jvm.Cond.and given_1 narrow_1)
section MZS0
variable {args : Array Value} {s : State} {A : Nat → Prop}
theorem mz_OFof {t : Term} {a : Nat} {o n d : String} {v : Value} (ht : t.eval args s none [] s = some (.ref a)) (hv : (Term.field t o n d).eval args s none [] s = some v) (hA : ∀ a : Nat, a < s.heap.size → ¬ A a) : va_OF o n d v a A s s.heap := by
  cases hfo : s.fieldFound? o n d with
  | none =>
    rw [va_fe ht] at hv
    simp [State.fieldOf?, State.fieldNamed?, hfo] at hv
  | some x =>
    obtain ⟨cf, k, fi, f⟩ := x
    obtain ⟨g1, cell, g2, g3, -, -, g6⟩ := Term.field_spec hfo ht hv
    exact ⟨cf, k, fi, f, cell, hfo, g1, g2, g3, g6, hA _ (Array.getElem?_eq_some_iff.mp g2).1⟩
theorem mz_strOf {own tx : String} {k : Nat} {bs : List Int32} (hA : ∀ a : Nat, a < s.heap.size → ¬ A a) (hN : bs.length < 2 ^ 31) (h1 : (Jvm.Cond.stringRef own k tx).before args s = true) (h2 : (Jvm.Cond.exactly (.string own k) "java/lang/String").before args s = true)
    (h3 : (Jvm.Cond.eq (.field (.string own k) "java/lang/String" "coder" "B") (.int 0)).before args s = true) (h4 : (Jvm.Cond.arrayOf (.field (.string own k) "java/lang/String" "value" "[B") .byte).before args s = true)
    (h5 : (Jvm.Cond.eq (.length (.field (.string own k) "java/lang/String" "value" "[B")) (.int (Int32.ofNat bs.length))).before args s = true) (h6 : ∀ j, j < bs.length → (Jvm.Cond.eq (.elem (.field (.string own k) "java/lang/String" "value" "[B") (.int (Int32.ofNat j))) (.int (bs.getD j 0))).before args s = true) :
    ∃ a b : Nat, vk_R own k tx a s ∧ va_O "java/lang/String" a A s s.heap ∧ va_OF "java/lang/String" "coder" "B" (.int 0) a A s s.heap ∧ va_OF "java/lang/String" "value" "[B" (.ref b) a A s s.heap ∧ va_T .byte b bs.length (fun i => .int (bs.getD i 0)) A s s.heap := by
  obtain ⟨a, c, cell, k0, q1, q2, q3, q4, q5, q6, -⟩ := Cond.exactly_spec h2
  obtain ⟨b, e1, e2⟩ := va_Tof (f := fun i => .int (bs.getD i 0)) (A := A) hN h4 (va_eqt h5) (fun j hj => va_eqt (h6 j hj)) hA
  exact ⟨a, b, vk_R.of h1 q1, ⟨cell, q3, q5, by rw [q6]; exact q2, hA a (Array.getElem?_eq_some_iff.mp q3).1⟩, mz_OFof q1 (va_eqt h3) hA, mz_OFof q1 e1 hA, e2⟩
theorem mz_refOf {own tx : String} {k : Nat} (h1 : (Jvm.Cond.stringRef own k tx).before args s = true) (h2 : (Jvm.Cond.exactly (.string own k) "java/lang/String").before args s = true) : ∃ a : Nat, vk_R own k tx a s := by
  obtain ⟨a, c, cell, k0, q1, -⟩ := Cond.exactly_spec h2
  exact ⟨a, vk_R.of h1 q1⟩
theorem mz_msgs_in : ∀ q ∈ mz_msgs, Jvm.Cond.stringRef q.1 q.2.1 q.2.2 ∈ lw_tbl ∧ Jvm.Cond.exactly (.string q.1 q.2.1) "java/lang/String" ∈ mz_fl0 := by decide +kernel
noncomputable def mz_sin (q : String × Nat × String × List Int32) : Prop := (Jvm.Cond.stringRef q.1 q.2.1 q.2.2.1 ∈ lw_tbl ∧ Jvm.Cond.exactly (.string q.1 q.2.1) "java/lang/String" ∈ mz_fl0) ∧ (Jvm.Cond.eq (.field (.string q.1 q.2.1) "java/lang/String" "coder" "B") (.int 0)) ∈ mz_fl0 ∧ (Jvm.Cond.arrayOf (.field (.string q.1 q.2.1) "java/lang/String" "value" "[B") .byte) ∈ mz_fl0 ∧
  (Jvm.Cond.eq (.length (.field (.string q.1 q.2.1) "java/lang/String" "value" "[B")) (.int (Int32.ofNat q.2.2.2.length))) ∈ mz_fl0 ∧ ∀ j, j < q.2.2.2.length → (Jvm.Cond.eq (.elem (.field (.string q.1 q.2.1) "java/lang/String" "value" "[B") (.int (Int32.ofNat j))) (.int (q.2.2.2.getD j 0))) ∈ mz_fl0
theorem mz_sin0 : mz_sin ("Hundredward$Permits", 17, "rhsfw", [114, 104, 115, 102, 119]) := by unfold mz_sin; decide +kernel
theorem mz_sin1 : mz_sin ("HundredwardModel", 43, "rhsfw", [114, 104, 115, 102, 119]) := by unfold mz_sin; decide +kernel
theorem mz_sin2 : mz_sin ("HundredwardModel", 226, "isrt", [105, 115, 114, 116]) := by unfold mz_sin; decide +kernel
theorem mz_sin3 : mz_sin ("HundredwardModel", 305, "hsf", [104, 115, 102]) := by unfold mz_sin; decide +kernel
theorem mz_strs_in (hts : ∀ w ∈ lw_tbl, w.before args s = true) (hfl : ∀ w ∈ mz_fl0, w.before args s = true) (hA : ∀ a : Nat, a < s.heap.size → ¬ A a) {q : String × Nat × String × List Int32} (h : mz_sin q) (hl : q.2.2.2.length < 2 ^ 31) :
    ∃ a b : Nat, vk_R q.1 q.2.1 q.2.2.1 a s ∧ va_O "java/lang/String" a A s s.heap ∧ va_OF "java/lang/String" "coder" "B" (.int 0) a A s s.heap ∧ va_OF "java/lang/String" "value" "[B" (.ref b) a A s s.heap ∧ va_T .byte b q.2.2.2.length (fun i => .int (q.2.2.2.getD i 0)) A s s.heap := by
  obtain ⟨⟨h1, h2⟩, h3, h4, h5, h6⟩ := h
  exact mz_strOf hA hl (hts _ h1) (hfl _ h2) (hfl _ h3) (hfl _ h4) (hfl _ h5) (fun j hj => hfl _ (h6 j hj))
theorem mz_nc_in : ∀ E ∈ mz_xs, ∀ T ∈ mz_xs, E ≠ T → Jvm.Cond.not (.castable E T) ∈ mz_fl0 := by decide +kernel
theorem mz_start_O (hts : ∀ w ∈ lw_tbl, w.before args s = true) (hfl : ∀ w ∈ mz_fl0, w.before args s = true) (hA : ∀ a : Nat, a < s.heap.size → ¬ A a) (b : Nat) : ∃ ao : Nat → Nat, ao 99 = b ∧ mz_O ao A s s.heap := by
  obtain ⟨a0, e1, e2⟩ := va_Tof (tm := .static "java/util/ArrayList" "DEFAULTCAPACITY_EMPTY_ELEMENTDATA" "[Ljava/lang/Object;") (ty := .object "java/lang/Object") (N := 0) (f := fun _ => .null) (A := A) (by decide) (hfl _ (by decide +kernel)) (va_eqt (z := Int32.ofNat 0) (hfl _ (by decide +kernel))) (fun j hj => absurd hj (Nat.not_lt_zero _)) hA
  obtain ⟨a1, b1, s1⟩ := mz_strs_in hts hfl hA mz_sin0 (by decide)
  obtain ⟨a2, b2, s2⟩ := mz_strs_in hts hfl hA mz_sin1 (by decide)
  obtain ⟨a3, b3, s3⟩ := mz_strs_in hts hfl hA mz_sin2 (by decide)
  obtain ⟨a4, b4, s4⟩ := mz_strs_in hts hfl hA mz_sin3 (by decide)
  refine ⟨fun i => if i = 99 then b else ([a0, a1, b1, a2, b2, a3, b3, a4, b4] : List Nat).getD i 0, rfl, ⟨vx_Zqof (hts _ (by decide +kernel)) (hts _ (by decide +kernel)) (hfl _ (by decide +kernel)) hA, vx_Zqof (hts _ (by decide +kernel)) (hts _ (by decide +kernel)) (hfl _ (by decide +kernel)) hA⟩, ⟨va_Zof (hts _ (by decide +kernel)) (hts _ (by decide +kernel)) e1 hA, e2⟩,
    va_Zof (hts _ (by decide +kernel)) (hts _ (by decide +kernel)) (va_eqt (hfl _ (by decide +kernel))) hA, fun q hq => mz_refOf (hts _ (mz_msgs_in q hq).1) (hfl _ (mz_msgs_in q hq).2), fun j q hj => ?_, fun w hw hn => ?_, fun C0 h => va_AO.of (hts _ h),
    va_Fw.of (hts _ (by decide +kernel)) (hts _ (by decide +kernel)) (hts _ (by decide +kernel)) (hts _ (by decide +kernel)) (hts _ (by decide +kernel)), va_Fw.of (hts _ (by decide +kernel)) (hts _ (by decide +kernel)) (hts _ (by decide +kernel)) (hts _ (by decide +kernel)) (hts _ (by decide +kernel)), fun E hE T hT hne => va_Nc.of (hfl _ (mz_nc_in E hE T hT hne))⟩
  · match j, hj with
    | 0, hj => cases hj; exact s1
    | 1, hj => cases hj; exact s2
    | 2, hj => cases hj; exact s3
    | 3, hj => cases hj; exact s4
    | k + 4, hj =>
      rw [List.getElem?_eq_none (by simp [mz_strs])] at hj
      cases hj
  · refine va_Nw.of ?_ (hts w hw)
    cases w <;> first | rfl | cases hn
theorem mz_arrP {ty : FieldType} (h : (Jvm.Cond.arrayClass ty).before args s = true) (hp : ∀ cA, s.vm.findClass ("[" ++ ty.toString) = some cA → va_RA s cA ty) : ∃ cA : ClassId, ArrOfT s cA ty ∧ va_RA s cA ty := by
  obtain ⟨c, k, comp, h1, h2, h3⟩ := Cond.arrayClass_spec h
  exact ⟨c, fun n z => ⟨fun k h => (by cases h), k, h2, comp, h3⟩, hp c h1⟩
theorem mz_arrO {n : String} (h : (Jvm.Cond.arrayOver (.object n)).before args s = true) : ∃ cA : ClassId, ArrOfT s cA (.object n) ∧ va_RA s cA (.object n) := by
  obtain ⟨comp, c, k, h1, -, h3, h4, h5⟩ := Cond.arrayOver_spec h
  exact ⟨c, fun n z => ⟨fun k h => (by cases h), k, h3, comp, h4⟩, k, comp, h3, h4, h1, h5⟩
theorem mz_start_K (hts : ∀ w ∈ lw_tbl, w.before args s = true) : ∃ (D : va_G) (cA : Nat → ClassId), va_K D vwCl (mz_tys cA) s := by
  have h0 : ∀ ci : Nat, ∃ z : ClassId × (Nat → Nat), ∀ q, vwCl[ci]? = some q → u_Kn s q.1 q.2.1 q.2.2 z.1 z.2 := fun ci => by
    match ci with
    | 0 =>
      obtain ⟨c, i, h⟩ := u_known (n := 4) hts (fun w hw => (mz_cw0 w hw).1) (hts _ (List.mem_of_getElem? (i := 661) (by decide +kernel)))
      exact ⟨(c, i), fun q hq => by cases hq; exact h⟩
    | 1 =>
      obtain ⟨c, i, h⟩ := u_known (n := 1) hts (fun w hw => (mz_cw1 w hw).1) (hts _ (List.mem_of_getElem? (i := 1740) (by decide +kernel)))
      exact ⟨(c, i), fun q hq => by cases hq; exact h⟩
    | 2 =>
      obtain ⟨c, i, h⟩ := u_known (n := 6) hts (fun w hw => (mz_cw2 w hw).1) (hts _ (List.mem_of_getElem? (i := 589) (by decide +kernel)))
      exact ⟨(c, i), fun q hq => by cases hq; exact h⟩
    | 3 =>
      obtain ⟨c, i, h⟩ := u_known (n := 4) hts (fun w hw => (mz_cw3 w hw).1) (hts _ (List.mem_of_getElem? (i := 1601) (by decide +kernel)))
      exact ⟨(c, i), fun q hq => by cases hq; exact h⟩
    | 4 =>
      obtain ⟨c, i, h⟩ := u_known (n := 3) hts (fun w hw => (mz_cw4 w hw).1) (hts _ (List.mem_of_getElem? (i := 1399) (by decide +kernel)))
      exact ⟨(c, i), fun q hq => by cases hq; exact h⟩
    | 5 =>
      obtain ⟨c, i, h⟩ := u_known (n := 4) hts (fun w hw => (mz_cw5 w hw).1) (hts _ (List.mem_of_getElem? (i := 215) (by decide +kernel)))
      exact ⟨(c, i), fun q hq => by cases hq; exact h⟩
    | 6 =>
      obtain ⟨c, i, h⟩ := u_known (n := 10) hts (fun w hw => (mz_cw6 w hw).1) (hts _ (List.mem_of_getElem? (i := 358) (by decide +kernel)))
      exact ⟨(c, i), fun q hq => by cases hq; exact h⟩
    | 7 =>
      obtain ⟨c, i, h⟩ := u_known (n := 11) hts (fun w hw => (mz_cw7 w hw).1) (hts _ (List.mem_of_getElem? (i := 288) (by decide +kernel)))
      exact ⟨(c, i), fun q hq => by cases hq; exact h⟩
    | 8 =>
      obtain ⟨c, i, h⟩ := u_known (n := 3) hts (fun w hw => (mz_cw8 w hw).1) (hts _ (List.mem_of_getElem? (i := 109) (by decide +kernel)))
      exact ⟨(c, i), fun q hq => by cases hq; exact h⟩
    | 9 =>
      obtain ⟨c, i, h⟩ := u_known (n := 3) hts (fun w hw => (mz_cw9 w hw).1) (hts _ (List.mem_of_getElem? (i := 265) (by decide +kernel)))
      exact ⟨(c, i), fun q hq => by cases hq; exact h⟩
    | 10 =>
      obtain ⟨c, i, h⟩ := u_known (n := 2) hts (fun w hw => (mz_cw10 w hw).1) (hts _ (List.mem_of_getElem? (i := 251) (by decide +kernel)))
      exact ⟨(c, i), fun q hq => by cases hq; exact h⟩
    | 11 =>
      obtain ⟨c, i, h⟩ := u_known (n := 15) hts (fun w hw => (mz_cw11 w hw).1) (hts _ (List.mem_of_getElem? (i := 116) (by decide +kernel)))
      exact ⟨(c, i), fun q hq => by cases hq; exact h⟩
    | 12 =>
      obtain ⟨c, i, h⟩ := u_known (n := 14) hts (fun w hw => (mz_cw12 w hw).1) (hts _ (List.mem_of_getElem? (i := 103) (by decide +kernel)))
      exact ⟨(c, i), fun q hq => by cases hq; exact h⟩
    | 13 =>
      obtain ⟨c, i, h⟩ := u_known (n := 1) hts (fun w hw => (mz_cw13 w hw).1) (hts _ (List.mem_of_getElem? (i := 95) (by decide +kernel)))
      exact ⟨(c, i), fun q hq => by cases hq; exact h⟩
    | 14 =>
      obtain ⟨c, i, h⟩ := u_known (n := 3) hts (fun w hw => (mz_cw14 w hw).1) (hts _ (List.mem_of_getElem? (i := 1434) (by decide +kernel)))
      exact ⟨(c, i), fun q hq => by cases hq; exact h⟩
    | 15 =>
      obtain ⟨c, i, h⟩ := u_known (n := 8) hts (fun w hw => (mz_cw15 w hw).1) (hts _ (List.mem_of_getElem? (i := 1886) (by decide +kernel)))
      exact ⟨(c, i), fun q hq => by cases hq; exact h⟩
    | 16 =>
      obtain ⟨c, i, h⟩ := u_known (n := 8) hts (fun w hw => (mz_cw16 w hw).1) (hts _ (List.mem_of_getElem? (i := 1830) (by decide +kernel)))
      exact ⟨(c, i), fun q hq => by cases hq; exact h⟩
    | 17 =>
      obtain ⟨c, i, h⟩ := u_known (n := 19) hts (fun w hw => (mz_cw17 w hw).1) (hts _ (List.mem_of_getElem? (i := 1391) (by decide +kernel)))
      exact ⟨(c, i), fun q hq => by cases hq; exact h⟩
    | k + 18 => exact ⟨(0, fun _ => 0), fun q hq => by
        rw [List.getElem?_eq_none (by simp [vwCl])] at hq
        cases hq⟩
  have h1 : ∀ k : Nat, ∃ cA : ClassId, k < 9 → ArrOfT s cA (mz_ty.getD k .int) ∧ va_RA s cA (mz_ty.getD k .int) := fun k => by
    match k with
    | 0 =>
      obtain ⟨c, h⟩ := mz_arrP (ty := .int) (hts _ (by decide +kernel)) (fun cA h => h)
      exact ⟨c, fun _ => h⟩
    | 1 =>
      obtain ⟨c, h⟩ := mz_arrP (ty := .long) (hts _ (by decide +kernel)) (fun cA h => h)
      exact ⟨c, fun _ => h⟩
    | 2 =>
      obtain ⟨c, h⟩ := mz_arrP (ty := .char) (hts _ (by decide +kernel)) (fun cA h => h)
      exact ⟨c, fun _ => h⟩
    | 3 =>
      obtain ⟨c, h⟩ := mz_arrP (ty := .boolean) (hts _ (by decide +kernel)) (fun cA h => h)
      exact ⟨c, fun _ => h⟩
    | 4 =>
      obtain ⟨c, h⟩ := mz_arrP (ty := .double) (hts _ (by decide +kernel)) (fun cA h => h)
      exact ⟨c, fun _ => h⟩
    | 5 =>
      obtain ⟨c, h⟩ := mz_arrO (n := "Hundredward$Plot") (hts _ (by decide +kernel))
      exact ⟨c, fun _ => h⟩
    | 6 =>
      obtain ⟨c, h⟩ := mz_arrO (n := "Hundredward$Household") (hts _ (by decide +kernel))
      exact ⟨c, fun _ => h⟩
    | 7 =>
      obtain ⟨c, h⟩ := mz_arrO (n := "Hundredward$Firm") (hts _ (by decide +kernel))
      exact ⟨c, fun _ => h⟩
    | 8 =>
      obtain ⟨c, h⟩ := mz_arrO (n := "java/lang/Object") (hts _ (by decide +kernel))
      exact ⟨c, fun _ => h⟩
    | k + 9 => exact ⟨0, fun h => absurd h (by omega)⟩
  obtain ⟨f, hf⟩ := Classical.axiomOfChoice h0
  obtain ⟨cA, hcA⟩ := Classical.axiomOfChoice h1
  refine ⟨(fun c => (f c).1, fun c => (f c).2), cA, fun c q hq => hf c q hq, fun k q hq => ?_⟩
  have hk : k < 9 := by
    have := (List.getElem?_eq_some_iff.mp hq).1
    rwa [mz_tys_len] at this
  rw [mz_tys_at hk] at hq
  cases hq
  exact hcA k hk
end MZS0
