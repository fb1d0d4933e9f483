/-! THE KINDS OF CALLS -/
noncomputable def mz_lz : mz_Xt → Launch
  | (p, l, e, R, s, m, args, below, meth, c, nL, D, cA, ao, ρ, A, n0, ad0, Q) => l
section MZK
variable {X : mz_Xt} {cc : ByteArray} {own : String} {F : Nat → Nat × Nat} {pc L M K n top nc ns : Nat} {st : List Nat}
/-- what is called: an object of the class C0 -/
noncomputable def mz_Rc : mz_Xt → Nat → Nat → Nat → Nat → Nat → String → Prop
  | (p, l, e, R, s, m, args, below, meth, c, nL, D, cA, ao, ρ, A, n0, ad0, Q), M, K, n, top, x, C0 =>
    ∀ (ad : Nat → Nat) (H : Heap) (locs : List Loc), mz_Z D cA ad ao ρ A s.heap H locs M K n top → ∃ b : Nat, mz_c ad ao ρ x = .ref b ∧ ∃ cell : Cell, H[b]? = some cell ∧ cell.vm.isStatics = false ∧ s.vm.findClass C0 = some cell.cls
theorem mz_Rc_new {x ci N : Nat} {C0 : String} {T : u_T} {Ts : List Jvm.Cond} (C : mz_Cx X cc own Ts F) (hx : mz_ref n x = true) (ht : mz_ct K (mz_k x) = ci) (hci : ci < 64) (hc : vwCl[ci]? = some (C0, T, N)) : mz_Rc X M K n top x C0 := by
  obtain ⟨p, l, e, R, s, m, args, below, meth, c, nL, D, cA, ao, ρ, A, n0, ad0, Q⟩ := X
  obtain ⟨hex, hb, hml, hown, hts, hK, hA, hF, hV⟩ := C
  intro ad H locs hZ
  obtain ⟨h1, h2⟩ := mz_ref_c (ad := ad) (ao := ao) (ρ := ρ) hx
  refine ⟨_, h1, ?_⟩
  exact va_recv hK hZ.1 hc (by rw [mz_w_at h2, mz_E_obj ht hci])
theorem mz_Rc_str {j : Nat} {q : String × Nat × String × List Int32} (O : mz_OX X) (hj : mz_strs[j]? = some q) : mz_Rc X M K n top (mz_ow (1 + 2 * j)) "java/lang/String" := by
  obtain ⟨p, l, e, R, s, m, args, below, meth, c, nL, D, cA, ao, ρ, A, n0, ad0, Q⟩ := X
  intro ad H locs hZ
  refine ⟨_, (mz_ow_ok (n := n) (ad := ad) (ao := ao) (ρ := ρ) (1 + 2 * j)).1, ?_⟩
  obtain ⟨cell, h1, h2, h3, -⟩ := va_O.kept (O.2.2.2.2.1 j _ hj).2.1 hZ.2.2.1.2.1
  exact ⟨cell, h1, h2, h3⟩
/-- room for a call of a body with maxL locals, d below -/
noncomputable def mz_Rf (X : mz_Xt) (d maxL nc ns : Nat) (r : mz_Rt) : Prop := (d + 8) + 1 ≤ (mz_rm X).frames ∧ 8 + (maxL + 11) + (60 * d + 200) ≤ (mz_rm X).locals ∧ nc + r.2.2.2.2.2.2.1 ≤ (mz_rm X).cells ∧ ns + r.2.2.2.2.2.2.2 ≤ (mz_rm X).slots
theorem mz_goods {t : mz_Mt} (h : mz_cw t ∈ mz_gG) : GoodIn mz_gG (mz_ws t) := by
  intro w hw
  have h1 : w ∈ mz_gG := by
    rcases List.mem_cons.mp hw with rfl | z
    · exact h
    · exact z
  exact ⟨h1, good_of_word (List.mem_filter.mp h1).2⟩
theorem mz_cats {vs : List Value} (h : vs.length ≤ 4) : (vs.map fun v => v.category).sum ≤ 8 := by
  have h1 : ∀ vs : List Value, (vs.map fun v => v.category).sum ≤ 2 * vs.length := by
    intro vs
    induction vs with
    | nil => simp
    | cons v t ih =>
      have : v.category ≤ 2 := by cases v <;> simp [Value.category]
      simp only [List.map_cons, List.sum_cons, List.length_cons]
      omega
  have := h1 vs
  omega
noncomputable def mz_na (y : MethodName) (k : Nat) : Prop := (parseMethodDescriptor y.desc).map (fun d => d.parameters.length) = some k
theorem mz_na_of {y : MethodName} {k : Nat} (h : mz_na y k) : ∀ sig, parseMethodDescriptor y.desc = some sig → k = sig.parameters.length := fun sig h2 => by
  unfold mz_na at h
  rw [h2] at h
  exact (Option.some.inj h).symm
abbrev mz_nh (y : MethodName) : Prop := y.cls ≠ "java/lang/invoke/MethodHandle" ∧ y.cls ≠ "java/lang/invoke/VarHandle"
theorem mz_crS {y : MethodName} {by_ : ByteArray} {maxL : Nat} {ret : Option FieldType} {hh : List (Nat × Nat × Nat × Nat)} {d idx : Nat} {as rest : List Nat} {r : mz_Rt} (C : mz_Cx X cc own mz_gG F) (O : mz_OX X) (hd : decode cc pc = .ok (.invokestatic idx, 3))
    (hSp : mz_Sp (mz_lz X) (mz_rho X) (y, by_, maxL, ret, false, hh) d as M K n top r) (hst : st = as.reverse ++ rest) (h4 : rest.length ≤ 4) (hn : mz_na y as.length) (hh2 : mz_nh y)
    (hin : mz_cw (y, by_, maxL, ret, false, hh) ∈ mz_gG) (hl : Jvm.Cond.methodLink own idx y ∈ mz_gG) (hs : Jvm.Cond.static y ∈ mz_gG) (hi : Jvm.Cond.initialized y.cls ∈ mz_gG) (hF : mz_Rf X d maxL nc ns r) : mz_CR X pc L st rest M K n top nc ns 3 r := by
  obtain ⟨p, l, e, R, s, m, args, below, meth, c, nL, D, cA, ao, ρ, A, n0, ad0, Q⟩ := X
  intro ad ls H locs hn0 had hZ hls hst2
  have hp := mz_start C O hZ as
  obtain ⟨hex, hb, hml, hown, hts, hK, hA, hFF, hV⟩ := C
  have hG := mz_goods hin
  refine ⟨_, mz_Run.x (vx_runS (Ts := mz_gG) (bytes := by_) (maxL := maxL) (ret := ret) (n := as.length) ⟨hex, hb, hml, hown, hts⟩ (hSp D cA ad ao H.size)
    ⟨⟨rfl, rfl, hF.1, hF.2.1, pay_in hts hG, List.mem_cons_self, hts _ hin, hts _ hi, hh2, mz_na_of hn, hts _ hl⟩, hts _ hs⟩ hp rfl (by simp) hls.1 ?_ ?_ hd ⟨hF.2.2.1, hF.2.2.2⟩)⟩
  · show st.map _ = _
    rw [hst, List.map_append, List.map_reverse]
  · show 2 * 0 + _ ≤ 8
    have := mz_cats (vs := rest.map (mz_c ad ao ρ)) (by simpa using h4)
    omega
theorem mz_crSW {y : MethodName} {by_ : ByteArray} {maxL : Nat} {ret : Option FieldType} {hh : List (Nat × Nat × Nat × Nat)} {d idx : Nat} {as rest : List Nat} {r : mz_Rt} (C : mz_Cx X cc own mz_gG F) (O : mz_OX X) (hd : decode cc pc = .ok (.invokestatic idx, 3))
    (hSp : mz_Sp (mz_lz X) (mz_rho X) (y, by_, maxL, ret, true, hh) d as M K n top r) (hst : st = as.reverse ++ rest) (h4 : rest.length ≤ 4) (hn : mz_na y as.length) (hh2 : mz_nh y)
    (hin : mz_cw (y, by_, maxL, ret, true, hh) ∈ mz_gG) (hl : Jvm.Cond.methodLink own idx y ∈ mz_gG) (hs : Jvm.Cond.static y ∈ mz_gG) (hi : Jvm.Cond.initialized y.cls ∈ mz_gG) (hF : mz_Rf X d maxL nc ns r) : mz_CR X pc L st rest M K n top nc ns 3 r := by
  obtain ⟨p, l, e, R, s, m, args, below, meth, c, nL, D, cA, ao, ρ, A, n0, ad0, Q⟩ := X
  intro ad ls H locs hn0 had hZ hls hst2
  have hp := mz_start C O hZ as
  obtain ⟨hex, hb, hml, hown, hts, hK, hA, hFF, hV⟩ := C
  have hG := mz_goods hin
  refine ⟨_, mz_Run.x (vx_runSX (Ts := mz_gG) (hh := hh) (bytes := by_) (maxL := maxL) (ret := ret) (n := as.length) ⟨hex, hb, hml, hown, hts⟩ (hSp D cA ad ao H.size)
    ⟨⟨rfl, rfl, hF.1, hF.2.1, pay_in hts hG, List.mem_cons_self⟩, hts _ hin, hts _ hi, hh2, mz_na_of hn, hts _ hl, hts _ hs⟩ hp rfl (by simp) hls.1 ?_ ?_ hd ⟨hF.2.2.1, hF.2.2.2⟩)⟩
  · show st.map _ = _
    rw [hst, List.map_append, List.map_reverse]
  · show 2 * 0 + _ ≤ 8
    have := mz_cats (vs := rest.map (mz_c ad ao ρ)) (by simpa using h4)
    omega
/-- the start of a call upon an object -/
theorem mz_crO {x : Nat} {as rest : List Nat} {ad ao : Nat → Nat} {ρ : Nat → Int32} {b : Nat} (hst : st = as.reverse ++ x :: rest) (hb : mz_c ad ao ρ x = .ref b) : st.map (mz_c ad ao ρ) = (as.map (mz_c ad ao ρ)).reverse ++ .ref b :: rest.map (mz_c ad ao ρ) := by
  rw [hst, List.map_append, List.map_reverse, List.map_cons, hb]
theorem mz_crV {y : MethodName} {by_ : ByteArray} {maxL : Nat} {ret : Option FieldType} {hh : List (Nat × Nat × Nat × Nat)} {d idx x : Nat} {as rest : List Nat} {r : mz_Rt} (C : mz_Cx X cc own mz_gG F) (O : mz_OX X) (hd : decode cc pc = .ok (.invokevirtual idx, 3))
    (hSp : mz_Sp (mz_lz X) (mz_rho X) (y, by_, maxL, ret, false, hh) d (x :: as) M K n top r) (hst : st = as.reverse ++ x :: rest) (h4 : rest.length ≤ 4) (hn : mz_na y as.length) (hh2 : mz_nh y) (hrc : mz_Rc X M K n top x y.cls)
    (hin : mz_cw (y, by_, maxL, ret, false, hh) ∈ mz_gG) (hl : Jvm.Cond.methodLink own idx y ∈ mz_gG) (hs : Jvm.Cond.instanceMethod y ∈ mz_gG) (hs2 : Jvm.Cond.selects y.cls y y ∈ mz_gG) (hi : Jvm.Cond.initialized y.cls ∈ mz_gG) (hF : mz_Rf X d maxL nc ns r) : mz_CR X pc L st rest M K n top nc ns 3 r := by
  obtain ⟨p, l, e, R, s, m, args, below, meth, c, nL, D, cA, ao, ρ, A, n0, ad0, Q⟩ := X
  change mz_Sp l ρ _ d _ M K n top r at hSp
  intro ad ls H locs hn0 had hZ hls hst2
  have hp := mz_start C O hZ (x :: as)
  obtain ⟨hex, hb, hml, hown, hts, hK, hA, hFF, hV⟩ := C
  have hG := mz_goods hin
  obtain ⟨b, hxb, cell, hc1, hc2, hc3⟩ := hrc ad H locs hZ
  rw [List.map_cons, hxb] at hp
  have hSp2 := hSp D cA ad ao H.size
  rw [List.map_cons, hxb] at hSp2
  refine ⟨_, mz_Run.x (vx_runV (Ts := mz_gG) (C := y.cls) (b := b) (As := as.map (mz_c ad ao ρ)) (bytes := by_) (maxL := maxL) (ret := ret) (n := as.length) ⟨hex, hb, hml, hown, hts⟩ hSp2
    ⟨⟨rfl, rfl, hF.1, hF.2.1, pay_in hts hG, List.mem_cons_self, hts _ hin, hts _ hi, hh2, mz_na_of hn, hts _ hl⟩, hts _ hs, hts _ hs2⟩ ⟨hp.1, ⟨cell, hc1, hc2, hc3⟩, hp.2⟩ rfl (by simp) hls.1 (mz_crO hst hxb) ?_ hd ⟨hF.2.2.1, hF.2.2.2⟩)⟩
  show 2 * 0 + _ ≤ 8
  have := mz_cats (vs := rest.map (mz_c ad ao ρ)) (by simpa using h4)
  omega
theorem mz_crI {y : MethodName} {by_ : ByteArray} {maxL : Nat} {hh : List (Nat × Nat × Nat × Nat)} {d idx x : Nat} {as rest : List Nat} {r : mz_Rt} (C : mz_Cx X cc own mz_gG F) (O : mz_OX X) (hd : decode cc pc = .ok (.invokespecial idx, 3)) (hr0 : r.1 = 0)
    (hSp : mz_Sp (mz_lz X) (mz_rho X) (y, by_, maxL, none, false, hh) d (x :: as) M K n top r) (hst : st = as.reverse ++ x :: rest) (h4 : rest.length ≤ 4) (hn : mz_na y as.length) (hh2 : mz_nh y) (hx : mz_ref n x = true) (hy : y.name = "<init>")
    (hin : mz_cw (y, by_, maxL, none, false, hh) ∈ mz_gG) (hl : Jvm.Cond.methodLink own idx y ∈ mz_gG) (hs : Jvm.Cond.instanceMethod y ∈ mz_gG) (hi : Jvm.Cond.initialized y.cls ∈ mz_gG) (hF : mz_Rf X d maxL nc ns r) : mz_CR X pc L st rest M K n top nc ns 3 r := by
  obtain ⟨p, l, e, R, s, m, args, below, meth, c, nL, D, cA, ao, ρ, A, n0, ad0, Q⟩ := X
  change mz_Sp l ρ _ d _ M K n top r at hSp
  intro ad ls H locs hn0 had hZ hls hst2
  have hp := mz_start C O hZ (x :: as)
  obtain ⟨hex, hb, hml, hown, hts, hK, hA, hFF, hV⟩ := C
  have hG := mz_goods hin
  obtain ⟨b, hxb⟩ : ∃ b, mz_c ad ao ρ x = .ref b := ⟨_, (mz_ref_c (ad := ad) (ao := ao) (ρ := ρ) hx).1⟩
  rw [List.map_cons, hxb] at hp
  have hSp2 := hSp D cA ad ao H.size
  rw [List.map_cons, hxb] at hSp2
  refine ⟨_, mz_Run.a (va_runI (Ts := mz_gG) (b := b) (As := as.map (mz_c ad ao ρ)) (bytes := by_) (maxL := maxL) (n := as.length) ⟨hex, hb, hml, hown, hts⟩ (mz_Met hSp2 hr0)
    ⟨⟨rfl, rfl, hF.1, hF.2.1, pay_in hts hG, List.mem_cons_self, hts _ hin, hts _ hi, hh2, mz_na_of hn, hts _ hl⟩, hy, hts _ hs⟩ hp rfl (by simp) hls.1 (mz_crO hst hxb) ?_ hd ⟨hF.2.2.1, hF.2.2.2⟩)⟩
  show 2 * 0 + _ ≤ 8
  have := mz_cats (vs := rest.map (mz_c ad ao ρ)) (by simpa using h4)
  omega
theorem mz_crIN {y : MethodName} {host : String} {by_ : ByteArray} {maxL : Nat} {hh : List (Nat × Nat × Nat × Nat)} {d idx x : Nat} {as rest : List Nat} {r : mz_Rt} (C : mz_Cx X cc own mz_gG F) (O : mz_OX X) (hd : decode cc pc = .ok (.invokespecial idx, 3)) (hr0 : r.1 = 0)
    (hSp : mz_Sp (mz_lz X) (mz_rho X) (y, by_, maxL, none, false, hh) d (x :: as) M K n top r) (hst : st = as.reverse ++ x :: rest) (h4 : rest.length ≤ 4) (hn : mz_na y as.length) (hh2 : mz_nh y) (hx : mz_ref n x = true) (hy : y.name = "<init>")
    (hin : mz_cw (y, by_, maxL, none, false, hh) ∈ mz_gG) (hl : Jvm.Cond.methodLinkNest own idx y host ∈ lw_tbl) (hs : Jvm.Cond.instanceMethod y ∈ mz_gG) (hi : Jvm.Cond.initialized y.cls ∈ mz_gG) (hF : mz_Rf X d maxL nc ns r) : mz_CR X pc L st rest M K n top nc ns 3 r := by
  obtain ⟨p, l, e, R, s, m, args, below, meth, c, nL, D, cA, ao, ρ, A, n0, ad0, Q⟩ := X
  change mz_Sp l ρ _ d _ M K n top r at hSp
  intro ad ls H locs hn0 had hZ hls hst2
  have hp := mz_start C O hZ (x :: as)
  obtain ⟨hex, hb, hml, hown, hts, hK, hA, hFF, hV⟩ := C
  have hG := mz_goods hin
  obtain ⟨b, hxb⟩ : ∃ b, mz_c ad ao ρ x = .ref b := ⟨_, (mz_ref_c (ad := ad) (ao := ao) (ρ := ρ) hx).1⟩
  rw [List.map_cons, hxb] at hp
  have hSp2 := hSp D cA ad ao H.size
  rw [List.map_cons, hxb] at hSp2
  refine ⟨_, mz_Run.a (va_runIN (Ts := mz_gG) (host := host) (b := b) (As := as.map (mz_c ad ao ρ)) (bytes := by_) (maxL := maxL) (n := as.length) ⟨hex, hb, hml, hown, hts⟩ (mz_Met hSp2 hr0)
    ⟨⟨⟨rfl, rfl, hF.1, hF.2.1, pay_in hts hG, List.mem_cons_self⟩, hts _ hin, hts _ hi, hh2, mz_na_of hn, va_Nw.use rfl (O.2.2.2.2.2.1 _ hl rfl)⟩, hy, hts _ hs⟩ hp rfl (by simp) hls.1 (mz_crO hst hxb) ?_ hd ⟨hF.2.2.1, hF.2.2.2⟩)⟩
  show 2 * 0 + _ ≤ 8
  have := mz_cats (vs := rest.map (mz_c ad ao ρ)) (by simpa using h4)
  omega
end MZK
