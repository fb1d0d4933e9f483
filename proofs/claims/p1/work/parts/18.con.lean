/-! CONTRACTS. What a method does from a small start: the small end -/
/-- a run's end: how (0: it returns; k + 1: it throws the k-th), the answer's word, the memory, the cells' table, how many cells, where free memory begins, cells and slots made -/
abbrev mz_Rt : Type := Nat × Option Nat × Nat × Nat × Nat × Nat × Nat × Nat
/-- a body: name, bytes, locals, what it returns, whether it has a table, the table -/
abbrev mz_Mt : Type := MethodName × ByteArray × Nat × Option FieldType × Bool × List (Nat × Nat × Nat × Nat)
noncomputable def mz_cw (t : mz_Mt) : Jvm.Cond := (mz_ci (t.2.2.2.2.1) (.codeWith t.1 t.2.1 t.2.2.1 t.2.2.2.1 t.2.2.2.2.2) (.code t.1 t.2.1 t.2.2.1 t.2.2.2.1))
noncomputable def mz_gG : List Jvm.Cond := lw_tbl.filter goodWord
noncomputable def mz_ws (t : mz_Mt) : List Jvm.Cond := mz_cw t :: mz_gG
noncomputable def mz_rr (d nc ns : Nat) : Room := { frames := d + 8, locals := 60 * d + 200, cells := nc, slots := ns }
/-- a start: classes, arrays' classes, addresses, variables, memory, cells, their number, free memory, the heap's size -/
abbrev mz_St : Type := va_G × (Nat → ClassId) × (Nat → Nat) × (Nat → Nat) × (Nat → Int32) × Nat × Nat × Nat × Nat × Nat
noncomputable def mz_Av : mz_St → Nat → Prop
  | (D, cA, ad, ao, ρ, M, K, n, top, sz) => va_A (mz_w cA ad ao ρ M K n) sz
noncomputable def mz_B0 : mz_St → State → Prop
  | (D, cA, ad, ao, ρ, M, K, n, top, sz) => fun U => U.heap.size = sz ∧ va_P D vwCl (mz_w cA ad ao ρ M K n) U.heap ∧ va_D (va_A (mz_w cA ad ao ρ M K n) sz) (mz_w cA ad ao ρ M K n) ∧ va_K D vwCl (mz_tys cA) U ∧
    mz_O ao (va_A (mz_w cA ad ao ρ M K n) sz) U U.heap ∧ mz_K n K top ∧ ∀ i, mz_cl n (mz_g M i) = true
noncomputable def mz_Wd : mz_St → mz_Rt → Heap → (Nat → Nat) → Prop
  | (D, cA, ad, ao, ρ, M, K, n, top, sz), (_, _, M', K', n', top', _, _) => fun H ad' => (∀ k, k < n → ad' k = ad k) ∧ n ≤ n' ∧ va_P D vwCl (mz_w cA ad' ao ρ M' K' n') H ∧ va_D (va_A (mz_w cA ad ao ρ M K n) sz) (mz_w cA ad' ao ρ M' K' n') ∧ mz_K n' K' top' ∧ ∀ i, mz_cl n' (mz_g M' i) = true
noncomputable def mz_rc : mz_St → (Nat → Nat) → Nat → Value
  | (_, _, _, ao, ρ, _, _, _, _, _), ad' => mz_c ad' ao ρ
noncomputable def mz_Qc (S : mz_St) (r : mz_Rt) : Array Value → State → Outcome → State → Prop := fun _ st o t =>
  (r.1 = 0 ∧ ∃ ad' : Nat → Nat, mz_Wd S r t.heap ad' ∧ o = .returned (r.2.1.map (mz_rc S ad')) ∧ ∀ w, r.2.1 = some w → mz_cl r.2.2.2.2.1 w = true) ∧ va_F (mz_Av S) st t
noncomputable def mz_XC (S : mz_St) (r : mz_Rt) : String → State → State → Prop := fun E st t => (∃ k, r.1 = k + 1 ∧ mz_xs[k]? = some E ∧ ∃ ad' : Nat → Nat, mz_Wd S r t.heap ad') ∧ va_F (mz_Av S) st t
noncomputable def mz_Sp (l : Launch) (ρ : Nat → Int32) (t : mz_Mt) (d : Nat) (ws : List Nat) (M K n top : Nat) (r : mz_Rt) : Prop :=
  ∀ (D : va_G) (cA : Nat → ClassId) (ad ao : Nat → Nat) (sz : Nat), vx_Met l t.1 (mz_ws t) (mz_rr d r.2.2.2.2.2.2.1 r.2.2.2.2.2.2.2) (va_Pc (ws.map (mz_c ad ao ρ)) (mz_B0 (D, cA, ad, ao, ρ, M, K, n, top, sz)))
    (mz_Qc (D, cA, ad, ao, ρ, M, K, n, top, sz) r) (mz_XC (D, cA, ad, ao, ρ, M, K, n, top, sz) r) r.2.2.2.2.2.2.1 r.2.2.2.2.2.2.2 (mz_Av (D, cA, ad, ao, ρ, M, K, n, top, sz))
theorem mz_blind (S : mz_St) (vs : List Value) : FrameBlind (va_Pc vs (mz_B0 S)) := by
  obtain ⟨D, cA, ad, ao, ρ, M, K, n, top, sz⟩ := S
  intro a U g mk ⟨h1, h2, h3, h4, h5, h6, h7⟩
  have hW : U.WarmedH (U.calling g mk a).vm := State.WarmedH.refl U
  exact ⟨h1, h2, h3, h4, va_K.moved hW.alike h5, mz_O_call (locs := []) h6 ⟨Nat.le_refl _, fun _ _ _ => rfl, fun _ h => nomatch h⟩ rfl hW (fun _ h => h), h7⟩
/-- it returns: the plain contract -/
theorem mz_Met {l : Launch} {y : MethodName} {ws : List Jvm.Cond} {rm : Room} {Pc : Array Value → State → Prop} {S : mz_St} {r : mz_Rt} {mc ms : Nat} {free : Addr → Prop} (h : vx_Met l y ws rm Pc (mz_Qc S r) (mz_XC S r) mc ms free) (h0 : r.1 = 0) : Met l y ws rm Pc (mz_Qc S r) mc ms free := by
  refine MetFree.mono h (fun _ _ h => h) (fun _ _ _ _ _ h => h) fun a s o t _ hq => ?_
  rcases hq with hq | ⟨q, -, E, ce, L, ⟨⟨k, hk, -⟩, -⟩, -⟩
  · exact hq
  · rw [h0] at hk; cases hk
