/-! CALLS: what a call gives, whoever makes it -/
section MZC
variable {p : Program} {l : Launch} {e : Env} {R : Room} {s : State} {m : MethodId} {args : Array Value} {below : List Frame} {meth : Method} {c : Code}
/-- a call of an instruction of ln bytes has returned or thrown -/
noncomputable def mz_Run (p : Program) (l : Launch) (e : Env) (R : Room) (s : State) (m : MethodId) (args : Array Value) (below : List Frame) (meth : Method) (c : Code) (H : Heap) (locs : List Loc) (cells slots mc ms ln : Nat) (g : JFrame) (rest : List Value) (Qa : State → Outcome → State → Prop) (XC : String → State → State → Prop) (free : Addr → Prop) : Prop :=
  ∀ T : State, T.heap = H → Stand p l e R s m args below meth c T locs cells slots →
    (∃ (v : Option Value) (st₀ t T' : State) (L : List Loc), st₀.heap = H ∧ Stand p l e R s m args below meth c T' (locs ++ L) (cells + mc) (slots + ms) ∧ (∀ q ∈ L, free q.base) ∧ T'.heap = t.heap ∧ Qa st₀ (.returned v) t ∧
      Goes p e below T g T' { g with pc := g.pc + ln, stack := v.toList ++ rest }) ∨
    (∃ (q : Addr) (st₀ t T' : State) (L : List Loc) (E : String) (ce : Cell), st₀.heap = H ∧ Stand p l e R s m args below meth c T' (locs ++ L) (cells + mc) (slots + ms) ∧ (∀ z ∈ L, free z.base) ∧ T'.heap = t.heap ∧ XC E st₀ t ∧ t.heap[q]? = some ce ∧ ce.vm = .none ∧ s.vm.findClass E = some ce.cls ∧
      Steps p.tables e below (T.setTop g) ((T'.setTop { g with stack := rest }).pushFrame (.throwing q)))
variable {H : Heap} {locs : List Loc} {cells slots mc ms ln : Nat} {g : JFrame} {rest : List Value} {Qa : State → Outcome → State → Prop} {XC : String → State → State → Prop} {free : Addr → Prop}
theorem mz_Run.x (h : vx_Run p l e R s m args below meth c H locs cells slots mc ms g rest Qa XC free) : mz_Run p l e R s m args below meth c H locs cells slots mc ms 3 g rest Qa XC free := by
  intro T hT X
  rcases h T hT X with ⟨v, st₀, t, T', L, a1, a2, a3, a4, -, a6, a7⟩ | ⟨q, st₀, t, T', L, E, ce, a1, a2, a3, a4, -, a6, a7, a8, a9, a10⟩
  · exact Or.inl ⟨v, st₀, t, T', L, a1, a2, a3, a4, a6, a7⟩
  · exact Or.inr ⟨q, st₀, t, T', L, E, ce, a1, a2, a3, a4, a6, a7, a8, a9, a10⟩
theorem mz_Run.a (h : va_Run p l e R s m args below meth c H locs cells slots mc ms g rest Qa free) : mz_Run p l e R s m args below meth c H locs cells slots mc ms 3 g rest Qa XC free := by
  intro T hT X
  obtain ⟨v, st₀, t, T', L, a1, a2, a3, a4, -, a6, a7⟩ := h T hT X
  exact Or.inl ⟨v, st₀, t, T', L, a1, a2, a3, a4, a6, a7⟩
theorem mz_Run.f (h : va_Run5 p l e R s m args below meth c H locs cells slots mc ms g rest Qa free) : mz_Run p l e R s m args below meth c H locs cells slots mc ms 5 g rest Qa XC free := by
  intro T hT X
  obtain ⟨v, st₀, t, T', L, a1, a2, a3, a4, -, a6, a7⟩ := h T hT X
  exact Or.inl ⟨v, st₀, t, T', L, a1, a2, a3, a4, a6, a7⟩
end MZC
/-- the k-th exception is thrown over this small state -/
noncomputable def mz_GX : mz_Xt → Nat → Nat → List Nat → Nat → Nat → Nat → Nat → Nat → Nat → Nat → Prop
  | (p, l, e, R, s, m, args, below, meth, c, nL, D, cA, ao, ρ, A, n0, ad0, Q), pc, L, st, M, K, n, top, nc, ns, k =>
    ∀ (ad : Nat → Nat) (ls : Array Slot) (H : Heap) (locs : List Loc), n0 ≤ n → (∀ k, k < n0 → ad k = ad0 k) → mz_Z D cA ad ao ρ A s.heap H locs M K n top → mz_ls ad ao ρ n nL ls L → (∀ w ∈ st, mz_cl n w = true) →
      ∀ (q : Addr) (ce : Cell) (E : String), mz_xs[k]? = some E → H[q]? = some ce → ce.vm = .none → s.vm.findClass E = some ce.cls → vx_W p l e R s m args below meth c H locs nc ns Q (F0 m pc ls (st.map (mz_c ad ao ρ))) q
theorem mz_ls_ext {ad ad' ao : Nat → Nat} {ρ : Nat → Int32} {n n' nL L : Nat} {ls : Array Slot} (h : mz_ls ad ao ρ n nL ls L) (hn : n ≤ n') (ha : ∀ k, k < n → ad' k = ad k) : mz_ls ad' ao ρ n' nL ls L :=
  ⟨h.1, h.2.1, fun i hi => by rw [mz_c_ad (h.2.2.2 i) ha]; exact h.2.2.1 i hi, fun i => mz_cl_mono hn (h.2.2.2 i)⟩
section MZD
variable {X : mz_Xt} {cc : ByteArray} {own : String} {Ts : List Jvm.Cond} {F : Nat → Nat × Nat} {pc L M K n top nc ns : Nat} {st : List Nat}
/-- a call is owed its run -/
noncomputable def mz_CR : mz_Xt → Nat → Nat → List Nat → List Nat → Nat → Nat → Nat → Nat → Nat → Nat → Nat → mz_Rt → Prop
  | (p, l, e, R, s, m, args, below, meth, c, nL, D, cA, ao, ρ, A, n0, ad0, Q), pc, L, st, rest, M, K, n, top, nc, ns, ln, r =>
    ∀ (ad : Nat → Nat) (ls : Array Slot) (H : Heap) (locs : List Loc), n0 ≤ n → (∀ k, k < n0 → ad k = ad0 k) → mz_Z D cA ad ao ρ A s.heap H locs M K n top → mz_ls ad ao ρ n nL ls L → (∀ w ∈ st, mz_cl n w = true) →
      ∃ va : Array Value, mz_Run p l e R s m args below meth c H locs nc ns r.2.2.2.2.2.2.1 r.2.2.2.2.2.2.2 ln (F0 m pc ls (st.map (mz_c ad ao ρ))) (rest.map (mz_c ad ao ρ)) (mz_Qc (D, cA, ad, ao, ρ, M, K, n, top, H.size) r va) (mz_XC (D, cA, ad, ao, ρ, M, K, n, top, H.size) r) (mz_Av (D, cA, ad, ao, ρ, M, K, n, top, H.size))
theorem mz_called {ln : Nat} {rest : List Nat} {rx : Nat} {rv : Option Nat} {M' K' n' top' c' s' : Nat} (C : mz_Cx X cc own Ts F) (hsub : ∀ w ∈ rest, w ∈ st) (hr : mz_CR X pc L st rest M K n top nc ns ln (rx, rv, M', K', n', top', c', s'))
    (kR : rx = 0 → mz_G X (pc + ln) L (rv.toList ++ rest) M' K' n' top' (nc + c') (ns + s')) (kX : ∀ k, rx = k + 1 → mz_GX X pc L rest M' K' n' top' (nc + c') (ns + s') k) : mz_G X pc L st M K n top nc ns := by
  obtain ⟨p, l, e, R, s, m, args, below, meth, c, nL, D, cA, ao, ρ, A, n0, ad0, Q⟩ := X
  obtain ⟨hex, hb, hml, hown, hts, hK, hA, hF, hV⟩ := C
  intro ad ls H locs hn had hZ hls hst
  obtain ⟨hP, hD, hS, hKK, hC⟩ := hZ
  have hAA : ∀ q, va_A (mz_w cA ad ao ρ M K n) H.size q → A q := fun q hq => by
    rcases hq with ⟨k, e, hk⟩ | hq
    · exact hD.2 k _ hk
    · exact hA q (Nat.le_trans hS.1 hq)
  have hrest : ∀ w ∈ rest, mz_cl n w = true := fun w hw => hst w (hsub w hw)
  obtain ⟨va, hrun⟩ := hr ad ls H locs hn had ⟨hP, hD, hS, hKK, hC⟩ hls hst
  intro T hT X
  rcases hrun T hT X with ⟨v, st₀, t, T', L', h0, X', hL, e1, ⟨⟨hx, ad', ⟨w1, w2, w3, w4, w5, w6⟩, hv, hcv⟩, hFF⟩, st'⟩ | ⟨q, st₀, t, T', L', E, ce, h0, X', hL, e1, ⟨⟨k, hk, hE, ad', w1, w2, w3, w4, w5, w6⟩, hFF⟩, hce, hcv, hcl, st'⟩
  · obtain ⟨-, -, k3⟩ := vx_keep h0 e1 hS (fun q _ h => hAA q h) (fun q h => hAA q h) hL hFF
    have hv2 : v = rv.map (mz_c ad' ao ρ) := by injection hv
    subst hv2
    have q := kR hx ad' ls T'.heap (locs ++ L') (Nat.le_trans hn w2) (fun k hk => (w1 k (by omega)).trans (had k hk)) ⟨by rw [e1]; exact w3, ⟨w4.1, fun k q hq => hAA _ (w4.2 k q hq)⟩, k3, w5, w6⟩ (mz_ls_ext hls w2 w1)
      (fun w hw => by
        rcases List.mem_append.mp hw with z | z
        · exact hcv w (Option.mem_toList.mp z)
        · exact mz_cl_mono w2 (hrest w z))
    have e2 : (rv.toList ++ rest).map (mz_c ad' ao ρ) = (rv.map (mz_c ad' ao ρ)).toList ++ rest.map (mz_c ad ao ρ) := by
      rw [List.map_append, mz_st_ad hrest w1]
      cases rv <;> rfl
    rw [e2] at q
    obtain ⟨t2, a1, b1⟩ := q T' rfl X'
    exact ⟨t2, st' t2 a1, b1⟩
  · obtain ⟨-, -, k3⟩ := vx_keep h0 e1 hS (fun q _ h => hAA q h) (fun q h => hAA q h) hL hFF
    have y := kX k hk ad' ls T'.heap (locs ++ L') (Nat.le_trans hn w2) (fun k hk => (w1 k (by omega)).trans (had k hk)) ⟨by rw [e1]; exact w3, ⟨w4.1, fun k q hq => hAA _ (w4.2 k q hq)⟩, k3, w5, w6⟩ (mz_ls_ext hls w2 w1)
      (fun w hw => mz_cl_mono w2 (hrest w hw)) q ce E hE (by rw [e1]; exact hce) hcv hcl
    rw [mz_st_ad hrest w1] at y
    obtain ⟨t2, a1, b1⟩ := y T' rfl X'
    exact ⟨t2, st'.trans a1, b1⟩
/-- what the callee's start wants, of the caller's heap -/
theorem mz_start {p : Program} {l : Launch} {e : Env} {R : Room} {s : State} {m : MethodId} {args : Array Value} {below : List Frame} {meth : Method} {c : Code} {nL : Nat} {D : va_G} {cA : Nat → ClassId} {ao : Nat → Nat} {ρ : Nat → Int32} {A : Nat → Prop} {n0 : Nat} {ad0 : Nat → Nat} {Q : State → Prop}
    (C : mz_Cx (p, l, e, R, s, m, args, below, meth, c, nL, D, cA, ao, ρ, A, n0, ad0, Q) cc own Ts F) (O : mz_OX (p, l, e, R, s, m, args, below, meth, c, nL, D, cA, ao, ρ, A, n0, ad0, Q)) {ad : Nat → Nat} {H : Heap} {locs : List Loc} (hZ : mz_Z D cA ad ao ρ A s.heap H locs M K n top) (as : List Nat) :
    PreS s H (va_Pc (as.map (mz_c ad ao ρ)) (mz_B0 (D, cA, ad, ao, ρ, M, K, n, top, H.size))) (as.map (mz_c ad ao ρ)) := by
  obtain ⟨hex, hb, hml, hown, hts, hK, hA, hF, hV⟩ := C
  obtain ⟨hP, hD, hS, hKK, hC⟩ := hZ
  refine ⟨mz_blind _ _, fun U hU hW => ⟨rfl, by rw [hU], by rw [hU]; exact hP, ⟨hD.1, fun k q hq => Or.inl ⟨k, q.2, hq⟩⟩, va_K.moved hW.alike hK, mz_O_call O hS hU hW (fun q hq => ?_), hKK, hC⟩⟩
  rcases hq with ⟨k, e, hk⟩ | hq
  · exact hD.2 k _ hk
  · exact hA q (Nat.le_trans hS.1 hq)
end MZD
