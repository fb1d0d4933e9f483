/-! A METHOD'S END: returns, throws, what is caught -/
/-- a method's own context: what it returns, its table, its start, its end -/
noncomputable def mz_MX : mz_Xt → Option FieldType → Bool → List (Nat × Nat × Nat × Nat) → Nat → Nat → Nat → mz_Rt → Prop
  | (p, l, e, R, s, m, args, below, meth, c, nL, D, cA, ao, ρ, A, n0, ad0, Q), ret, tb, hh, M0, K0, top0, r =>
    meth.sig.returnType = ret ∧ meth.locks = false ∧ l.stackTraces = false ∧ (tb = false → ∀ x ∈ c.exceptionTable.toList, False) ∧ (tb = true → c.exceptionTable.toList = tableOf hh) ∧
    A = mz_Av (D, cA, ad0, ao, ρ, M0, K0, n0, top0, s.heap.size) ∧
    Q = vx_MQ below (mz_Qc (D, cA, ad0, ao, ρ, M0, K0, n0, top0, s.heap.size) r) (mz_XC (D, cA, ad0, ao, ρ, M0, K0, n0, top0, s.heap.size) r) args s r.2.2.2.2.2.2.1 r.2.2.2.2.2.2.2 (mz_Av (D, cA, ad0, ao, ρ, M0, K0, n0, top0, s.heap.size))
section MZE
variable {X : mz_Xt} {cc : ByteArray} {own : String} {Ts : List Jvm.Cond} {F : Nat → Nat × Nat} {pc L M K n top nc ns M0 K0 top0 : Nat} {st : List Nat} {ret : Option FieldType} {tb : Bool} {hh : List (Nat × Nat × Nat × Nat)}
theorem mz_endF {A : Nat → Prop} {s t : State} {H : Heap} {locs : List Loc} (hS : va_S A s.heap H locs) (ht : t.heap = H) : va_F A s t := by
  unfold va_F
  rw [ht]
  exact ⟨hS.1, hS.2.1⟩
theorem mz_vret (C : mz_Cx X cc own Ts F) (E : mz_MX X ret tb hh M0 K0 top0 (0, none, M, K, n, top, nc, ns)) (hd : decode cc pc = .ok (.return_, 1)) (hr : ret = none) : mz_G X pc L [] M K n top nc ns := by
  obtain ⟨p, l, e, R, s, m, args, below, meth, c, nL, D, cA, ao, ρ, A, n0, ad0, Q⟩ := X
  obtain ⟨hex, hb, hml, hown, hts, hK, hA, hFF, hV⟩ := C
  obtain ⟨e1, e2, -, -, -, rfl, rfl⟩ := E
  intro ad ls H locs hn0 had hZ hls hst
  refine vx_ret (W.vret hex hb (e1.trans hr) (fun t ht hW => ⟨⟨rfl, ad, ⟨had, hn0, by rw [ht]; exact hZ.1, hZ.2.1, hZ.2.2.2.1, hZ.2.2.2.2⟩, rfl, fun w h => nomatch h⟩, mz_endF hZ.2.2.1 ht⟩) hZ.2.2.1.2.2 hd e2)
noncomputable def mz_rfit (ty : FieldType) (w : Nat) : Bool := match ty with
  | .byte => Nat.beq w 1
  | _ => mz_fit ty w
theorem mz_rfit_ok {ty : FieldType} {w : Nat} (h : mz_rfit ty w = true) (hI : mz_I w = true) (ρ : Nat → Int32) : narrow ty (.int (mz_i ρ w)) = .int (mz_i ρ w) := by
  have g : ∀ h : mz_fit ty w = true, narrow ty (.int (mz_i ρ w)) = .int (mz_i ρ w) := fun h => by
    have q := (mz_fit_ok h (fun _ => 0) (fun _ => 0) ρ).1
    rwa [mz_cI hI] at q
  cases ty with
  | byte =>
    have h1 : w = 1 := mz_bq h
    subst h1
    rfl
  | int => exact g h
  | _ => exact g h
theorem mz_iret {w : Nat} {ty : FieldType} (C : mz_Cx X cc own Ts F) (E : mz_MX X ret tb hh M0 K0 top0 (0, some w, M, K, n, top, nc, ns)) (hd : decode cc pc = .ok (.ireturn, 1)) (hr : ret = some ty) (hw : mz_I w = true) (hf : mz_rfit ty w = true) : mz_G X pc L [w] M K n top nc ns := by
  obtain ⟨p, l, e, R, s, m, args, below, meth, c, nL, D, cA, ao, ρ, A, n0, ad0, Q⟩ := X
  obtain ⟨hex, hb, hml, hown, hts, hK, hA, hFF, hV⟩ := C
  obtain ⟨e1, e2, -, -, -, rfl, rfl⟩ := E
  intro ad ls H locs hn0 had hZ hls hst
  rw [List.map_cons, mz_cI hw]
  exact vx_ret (XC := mz_XC (D, cA, ad0, ao, ρ, M0, K0, n0, top0, s.heap.size) (0, some w, M, K, n, top, nc, ns)) (W.zret (Qc := mz_Qc (D, cA, ad0, ao, ρ, M0, K0, n0, top0, s.heap.size) (0, some w, M, K, n, top, nc, ns)) (v := mz_i ρ w) (free := mz_Av (D, cA, ad0, ao, ρ, M0, K0, n0, top0, s.heap.size)) (ls := ls) (cells := nc) (slots := ns) (H := H) (locs := locs) hex hb (e1.trans hr) (mz_rfit_ok hf hw ρ)
    (fun t ht hW => ⟨⟨rfl, ad, ⟨had, hn0, by rw [ht]; exact hZ.1, hZ.2.1, hZ.2.2.2.1, hZ.2.2.2.2⟩, by show _ = Outcome.returned (some (mz_c ad ao ρ w)); rw [mz_cI hw], fun v h => by cases h; exact mz_cl_I hw⟩, mz_endF hZ.2.2.1 ht⟩) hZ.2.2.1.2.2 hd e2)
theorem mz_lret {w : Nat} (C : mz_Cx X cc own Ts F) (E : mz_MX X ret tb hh M0 K0 top0 (0, some w, M, K, n, top, nc, ns)) (hd : decode cc pc = .ok (.lreturn, 1)) (hr : ret = some .long) (hw : mz_L w = true) : mz_G X pc L [w] M K n top nc ns := by
  obtain ⟨p, l, e, R, s, m, args, below, meth, c, nL, D, cA, ao, ρ, A, n0, ad0, Q⟩ := X
  obtain ⟨hex, hb, hml, hown, hts, hK, hA, hFF, hV⟩ := C
  obtain ⟨e1, e2, -, -, -, rfl, rfl⟩ := E
  intro ad ls H locs hn0 had hZ hls hst
  rw [List.map_cons, mz_cL hw]
  exact vx_ret (XC := mz_XC (D, cA, ad0, ao, ρ, M0, K0, n0, top0, s.heap.size) (0, some w, M, K, n, top, nc, ns)) (W.lret (Qc := mz_Qc (D, cA, ad0, ao, ρ, M0, K0, n0, top0, s.heap.size) (0, some w, M, K, n, top, nc, ns)) (v := mz_l ρ w) (free := mz_Av (D, cA, ad0, ao, ρ, M0, K0, n0, top0, s.heap.size)) (ls := ls) (cells := nc) (slots := ns) (H := H) (locs := locs) hex hb (e1.trans hr)
    (fun t ht hW => ⟨⟨rfl, ad, ⟨had, hn0, by rw [ht]; exact hZ.1, hZ.2.1, hZ.2.2.2.1, hZ.2.2.2.2⟩, by show _ = Outcome.returned (some (mz_c ad ao ρ w)); rw [mz_cL hw], fun v h => by cases h; exact mz_cl_L hw⟩, mz_endF hZ.2.2.1 ht⟩) hZ.2.2.1.2.2 hd e2)
theorem mz_fret (C : mz_Cx X cc own Ts F) (E : mz_MX X ret tb hh M0 K0 top0 (0, some 7, M, K, n, top, nc, ns)) (hd : decode cc pc = .ok (.freturn, 1)) (hr : ret = some .float) : mz_G X pc L [7] M K n top nc ns := by
  obtain ⟨p, l, e, R, s, m, args, below, meth, c, nL, D, cA, ao, ρ, A, n0, ad0, Q⟩ := X
  obtain ⟨hex, hb, hml, hown, hts, hK, hA, hFF, hV⟩ := C
  obtain ⟨e1, e2, -, -, -, rfl, rfl⟩ := E
  intro ad ls H locs hn0 had hZ hls hst
  exact vx_ret (XC := mz_XC (D, cA, ad0, ao, ρ, M0, K0, n0, top0, s.heap.size) (0, some 7, M, K, n, top, nc, ns)) (W.fret (Qc := mz_Qc (D, cA, ad0, ao, ρ, M0, K0, n0, top0, s.heap.size) (0, some 7, M, K, n, top, nc, ns)) (v := 0) (free := mz_Av (D, cA, ad0, ao, ρ, M0, K0, n0, top0, s.heap.size)) (ls := ls) (cells := nc) (slots := ns) (H := H) (locs := locs) hex hb (e1.trans hr)
    (fun t ht hW => ⟨⟨rfl, ad, ⟨had, hn0, by rw [ht]; exact hZ.1, hZ.2.1, hZ.2.2.2.1, hZ.2.2.2.2⟩, rfl, fun v h => by cases h; exact mz_cl_t (by decide)⟩, mz_endF hZ.2.2.1 ht⟩) hZ.2.2.1.2.2 hd e2)
theorem mz_dret (C : mz_Cx X cc own Ts F) (E : mz_MX X ret tb hh M0 K0 top0 (0, some 8, M, K, n, top, nc, ns)) (hd : decode cc pc = .ok (.dreturn, 1)) (hr : ret = some .double) : mz_G X pc L [8] M K n top nc ns := by
  obtain ⟨p, l, e, R, s, m, args, below, meth, c, nL, D, cA, ao, ρ, A, n0, ad0, Q⟩ := X
  obtain ⟨hex, hb, hml, hown, hts, hK, hA, hFF, hV⟩ := C
  obtain ⟨e1, e2, -, -, -, rfl, rfl⟩ := E
  intro ad ls H locs hn0 had hZ hls hst
  exact vx_ret (XC := mz_XC (D, cA, ad0, ao, ρ, M0, K0, n0, top0, s.heap.size) (0, some 8, M, K, n, top, nc, ns)) (W.dret (Qc := mz_Qc (D, cA, ad0, ao, ρ, M0, K0, n0, top0, s.heap.size) (0, some 8, M, K, n, top, nc, ns)) (v := 0) (free := mz_Av (D, cA, ad0, ao, ρ, M0, K0, n0, top0, s.heap.size)) (ls := ls) (cells := nc) (slots := ns) (H := H) (locs := locs) hex hb (e1.trans hr)
    (fun t ht hW => ⟨⟨rfl, ad, ⟨had, hn0, by rw [ht]; exact hZ.1, hZ.2.1, hZ.2.2.2.1, hZ.2.2.2.2⟩, rfl, fun v h => by cases h; exact mz_cl_t (by decide)⟩, mz_endF hZ.2.2.1 ht⟩) hZ.2.2.1.2.2 hd e2)
noncomputable def mz_oty (ty : FieldType) : Bool := match ty with
  | .object _ => true
  | .array _ => true
  | _ => false
theorem mz_oty_ok {ty : FieldType} (h : mz_oty ty = true) : (∃ n, ty = .object n) ∨ ∃ t, ty = .array t := by
  cases ty with
  | object n => exact Or.inl ⟨n, rfl⟩
  | array t => exact Or.inr ⟨t, rfl⟩
  | _ => cases h
theorem mz_aret {w : Nat} {ty : FieldType} (C : mz_Cx X cc own Ts F) (E : mz_MX X ret tb hh M0 K0 top0 (0, some w, M, K, n, top, nc, ns)) (hd : decode cc pc = .ok (.areturn, 1)) (hr : ret = some ty) (hw : mz_R w = true) (hf : mz_oty ty = true) : mz_G X pc L [w] M K n top nc ns := by
  obtain ⟨p, l, e, R, s, m, args, below, meth, c, nL, D, cA, ao, ρ, A, n0, ad0, Q⟩ := X
  obtain ⟨hex, hb, hml, hown, hts, hK, hA, hFF, hV⟩ := C
  obtain ⟨e1, e2, -, -, -, rfl, rfl⟩ := E
  intro ad ls H locs hn0 had hZ hls hst
  exact vx_ret (XC := mz_XC (D, cA, ad0, ao, ρ, M0, K0, n0, top0, s.heap.size) (0, some w, M, K, n, top, nc, ns)) (W.aret (Qc := mz_Qc (D, cA, ad0, ao, ρ, M0, K0, n0, top0, s.heap.size) (0, some w, M, K, n, top, nc, ns)) (v := mz_c ad ao ρ w) (free := mz_Av (D, cA, ad0, ao, ρ, M0, K0, n0, top0, s.heap.size)) (ls := ls) (cells := nc) (slots := ns) (H := H) (locs := locs) hex hb (e1.trans hr) (mz_oty_ok hf)
    (by rw [mz_cR hw]; exact mz_r_or _) (fun t ht hW => ⟨⟨rfl, ad, ⟨had, hn0, by rw [ht]; exact hZ.1, hZ.2.1, hZ.2.2.2.1, hZ.2.2.2.2⟩, rfl, fun v h => by cases h; exact hst _ List.mem_cons_self⟩, mz_endF hZ.2.2.1 ht⟩) hZ.2.2.1.2.2 hd e2)
/-- thrown past a method without a table -/
theorem mz_out {k : Nat} (C : mz_Cx X cc own Ts F) (E : mz_MX X ret false hh M0 K0 top0 (k + 1, none, M, K, n, top, nc, ns)) : mz_GX X pc L st M K n top nc ns k := by
  obtain ⟨p, l, e, R, s, m, args, below, meth, c, nL, D, cA, ao, ρ, A, n0, ad0, Q⟩ := X
  obtain ⟨hex, hb, hml, hown, hts, hK, hA, hFF, hV⟩ := C
  obtain ⟨-, e2, -, e3, -, rfl, rfl⟩ := E
  intro ad ls H locs hn0 had hZ hls hst q ce E hE hq hcv hcl
  exact vx_out (fun x hx => (e3 rfl x hx).elim) e2 hq hcv hcl (fun t ht _ => ⟨⟨k, rfl, hE, ad, had, hn0, by rw [ht]; exact hZ.1, hZ.2.1, hZ.2.2.2.1, hZ.2.2.2.2⟩, mz_endF hZ.2.2.1 ht⟩) hZ.2.2.1.2.2 (Nat.le_refl _) (Nat.le_refl _)
noncomputable def mz_nms : List String := ["java/lang/RuntimeException", "java/lang/Exception"]
/-- thrown here: 'new', 'dup', the text, the constructor, 'athrow' -/
theorem mz_throw {k ik is ic ln : Nat} {cls text : String} (C : mz_Cx X cc own mz_gG F) (O : mz_OX X) (E : mz_MX X ret false hh M0 K0 top0 (k + 1, none, M, K, n, top, nc + 1, ns + 6)) (hk : mz_xs[k]? = some cls) (hf1 : Bundle.fit cls = true)
    (hg : ∀ w ∈ Jvm.Cond.classLink own ik cls :: Jvm.Cond.initialized cls :: vx_atS own ic cls mz_nms, (w ∈ mz_gG ∨ (w ∈ lw_tbl ∧ mz_nk w = true)) ∧ vx_ot w = true) (hm : (own, is, text) ∈ mz_msgs) (h4 : st.length ≤ 4)
    (d0 : decode cc pc = .ok (.new ik, 3)) (d3 : decode cc (pc + 3) = .ok (.dup, 1)) (dd : (ln = 2 ∧ decode cc (pc + 4) = .ok (.ldc is, 2)) ∨ (ln = 3 ∧ decode cc (pc + 4) = .ok (.ldc_w is, 3))) (d6 : decode cc (pc + 4 + ln) = .ok (.invokespecial ic, 3)) (d9 : decode cc (pc + 7 + ln) = .ok (.athrow, 1))
    (hR : 6 ≤ (mz_rm X).frames ∧ 100 ≤ (mz_rm X).locals ∧ nc + 1 ≤ (mz_rm X).cells ∧ ns + 6 ≤ (mz_rm X).slots) : mz_G X pc L st M K n top nc ns := by
  obtain ⟨p, l, e, R, s, m, args, below, meth, c, nL, D, cA, ao, ρ, A, n0, ad0, Q⟩ := X
  obtain ⟨hex, hb, hml, hown, hts, hK, hA, hFF, hV⟩ := C
  obtain ⟨-, e2, hl, e3, -, rfl, rfl⟩ := E
  intro ad ls H locs hn0 had hZ hls hst
  have at_ : ∀ w ∈ Jvm.Cond.classLink own ik cls :: Jvm.Cond.initialized cls :: vx_atS own ic cls mz_nms, w.before args s = true := fun w hw => by
    rcases (hg w hw).1 with z | ⟨z, z2⟩
    · exact hts w z
    · refine va_Nw.use ?_ (O.2.2.2.2.2.1 w z z2)
      cases w <;> first | rfl | cases z2
  obtain ⟨sa, hsa⟩ := O.2.2.2.1 _ hm
  have hx : ∀ t : State, s.vm.Alike t.vm → H.size ≤ t.heap.size → (∀ q : Nat, q < H.size → t.heap[q]? = H[q]?) → mz_XC (D, cA, ad0, ao, ρ, M0, K0, n0, top0, s.heap.size) (k + 1, none, M, K, n, top, nc + 1, ns + 6) cls s t := fun t _ h1 h2 =>
    ⟨⟨k, rfl, hk, ad, had, hn0, hZ.1.kept fun j q hq => h2 _ (va_at.lt (hZ.1 j q hq)), hZ.2.1, hZ.2.2.2.1, hZ.2.2.2.2⟩, Nat.le_trans hZ.2.2.1.1 h1, fun q q1 q2 => (h2 q (Nat.lt_of_lt_of_le q1 hZ.2.2.1.1)).trans (hZ.2.2.1.2.1 q q1 q2)⟩
  have hcat := mz_cats (vs := st.map (mz_c ad ao ρ)) (by simpa using h4)
  obtain ⟨r1, r2, r3, r4⟩ := hR
  change 6 ≤ R.frames at r1
  change 100 ≤ R.locals at r2
  have hnm : ∀ n ∈ mz_nms, Bundle.fit n = true := by decide +kernel
  have hl2 : mz_nms.length = 2 := rfl
  rcases dd with ⟨rfl, dd⟩ | ⟨rfl, dd⟩
  · exact vx_throwS hex hb hl hown hf1 hnm (at_ _ List.mem_cons_self) (at_ _ (List.mem_cons_of_mem _ List.mem_cons_self)) hsa (fun w hw => at_ w (List.mem_cons_of_mem _ (List.mem_cons_of_mem _ hw))) (fun w hw => (hg w hw).2) O.1.1 O.1.2 hZ.2.2.1 (hls.1.trans hml.symm)
      d0 d3 dd d6 d9 (fun x hx => (e3 rfl x hx).elim) (by omega) (by omega) r3 r4 e2 hx hZ.2.2.1.2.2 (Nat.le_refl _) (Nat.le_refl _)
  · exact vx_throwSW hex hb hl hown hf1 hnm (at_ _ List.mem_cons_self) (at_ _ (List.mem_cons_of_mem _ List.mem_cons_self)) hsa (fun w hw => at_ w (List.mem_cons_of_mem _ (List.mem_cons_of_mem _ hw))) (fun w hw => (hg w hw).2) O.1.1 O.1.2 hZ.2.2.1 (hls.1.trans hml.symm)
      d0 d3 dd d6 d9 (fun x hx => (e3 rfl x hx).elim) (by omega) (by omega) r3 r4 e2 hx hZ.2.2.1.2.2 (Nat.le_refl _) (Nat.le_refl _)
end MZE
