/-! CALLS THROUGH AN INTERFACE, Object's constructor, System.arraycopy -/
section MZI
variable {X : mz_Xt} {cc : ByteArray} {own : String} {F : Nat → Nat × Nat} {pc L M K n top nc ns : Nat} {st : List Nat}
theorem mz_crF {xm y : MethodName} {by_ : ByteArray} {maxL : Nat} {ret : Option FieldType} {hh : List (Nat × Nat × Nat × Nat)} {d idx cnt x ci N : Nat} {T : u_T} {as rest : List Nat} {r : mz_Rt} (C : mz_Cx X cc own mz_gG F) (O : mz_OX X) (hd : decode cc pc = .ok (.invokeinterface idx cnt, 5)) (hr0 : r.1 = 0)
    (hSp : mz_Sp (mz_lz X) (mz_rho X) (y, by_, maxL, ret, false, hh) d (x :: as) M K n top r) (hst : st = as.reverse ++ x :: rest) (h4 : rest.length ≤ 4) (hn : mz_na xm as.length) (hh2 : mz_nh xm) (hxy : (xm = mz_hasN ∧ y = ⟨mz_itr, "hasNext", "()Z"⟩) ∨ (xm = mz_nextN ∧ y = ⟨mz_itr, "next", "()Ljava/lang/Object;"⟩))
    (hx : mz_ref n x = true) (ht : mz_ct K (mz_k x) = ci) (hci : ci < 64) (hc : vwCl[ci]? = some (mz_itr, T, N))
    (hin : mz_cw (y, by_, maxL, ret, false, hh) ∈ mz_gG) (hl : Jvm.Cond.methodLink own idx xm ∈ mz_gG) (hs : Jvm.Cond.instanceMethod y ∈ mz_gG) (hs2 : Jvm.Cond.selects mz_itr xm y ∈ mz_gG) (hi : Jvm.Cond.initialized y.cls ∈ mz_gG) (hF : mz_Rf X d maxL nc ns r) : mz_CR X pc L st rest M K n top nc ns 5 r := by
  have hrc := mz_Rc_new (M := M) (top := top) C hx ht hci hc
  obtain ⟨p, l, e, R, s, m, args, below, meth, c, nL, D, cA, ao, ρ, A, n0, ad0, Q⟩ := X
  change mz_Sp l ρ _ d _ M K n top r at hSp
  intro ad ls H locs hn0 had hZ hls hst2
  have hp := mz_start C O hZ (x :: as)
  obtain ⟨hex, hb, hml, hown, hts, hK, hA, hFF, hV⟩ := C
  have hG := mz_goods hin
  obtain ⟨b, hxb, cell, hc1, hc2, hc3⟩ := hrc ad H locs hZ
  rw [List.map_cons, hxb] at hp
  have hSp2 := hSp D cA ad ao H.size
  rw [List.map_cons, hxb] at hSp2
  have hFw : va_Fw mz_itr xm y s := by
    rcases hxy with ⟨rfl, rfl⟩ | ⟨rfl, rfl⟩
    · exact O.2.2.2.2.2.2.2.1
    · exact O.2.2.2.2.2.2.2.2.1
  refine ⟨_, mz_Run.f (va_runF (Ts := mz_gG) (C := mz_itr) (b := b) (As := as.map (mz_c ad ao ρ)) (bytes := by_) (maxL := maxL) (ret := ret) (n := as.length) (hK.1 ci _ hc).2 ⟨hex, hb, hml, hown, hts⟩ (mz_Met hSp2 hr0)
    (va_cwF as.length hts (fun w hw => ?_) rfl rfl rfl hFw ⟨hh2.1, hh2.2, hn⟩ ⟨hF.1, hF.2.1⟩) ⟨hp.1, ⟨cell, hc1, hc2, hc3⟩, hp.2⟩ rfl (by simp) hls.1 (mz_crO hst hxb) ?_ hd ⟨hF.2.2.1, hF.2.2.2⟩)⟩
  · have g : ∀ w, w ∈ mz_gG → w ∈ mz_gG ∧ ((w.onTables && w.keeps) = true ∨ ∃ ty, w = .arrayClass ty) := fun w h => ⟨h, good_of_word (List.mem_filter.mp h).2⟩
    unfold va_wsF at hw
    rcases List.mem_append.mp hw with z | z
    · simp only [List.mem_cons, List.not_mem_nil, or_false] at z
      rcases z with rfl | rfl | rfl | rfl
      · exact g _ hl
      · exact g _ hs2
      · exact g _ hs
      · exact g _ hi
    · exact hG w z
  · show 2 * 0 + _ ≤ 8
    have := mz_cats (vs := rest.map (mz_c ad ao ρ)) (by simpa using h4)
    omega
theorem mz_objinit {idx x : Nat} (C : mz_Cx X cc own mz_gG F) (hd : decode cc pc = .ok (.invokespecial idx, 3)) (hx : mz_ref n x = true) (h4 : st.length ≤ 4)
    (hl : Jvm.Cond.methodLink own idx Lib.objectInit ∈ mz_gG) (hs : Jvm.Cond.instanceMethod Lib.objectInit ∈ mz_gG) (hc : Jvm.Cond.code Lib.objectInit ⟨#[0xb1]⟩ 1 none ∈ mz_gG) (hF : 1 ≤ (mz_rm X).frames ∧ 20 ≤ (mz_rm X).locals)
    (k : mz_G X (pc + 3) L st M K n top nc ns) : mz_G X pc L (x :: st) M K n top nc ns := by
  obtain ⟨p, l, e, R, s, m, args, below, meth, c, nL, D, cA, ao, ρ, A, n0, ad0, Q⟩ := X
  obtain ⟨hex, hb, hml, hown, hts, hK, hA, hFF, hV⟩ := C
  intro ad ls H locs hn0 had hZ hls hst
  rw [List.map_cons, (mz_ref_c (ad := ad) (ao := ao) (ρ := ρ) hx).1]
  refine W.objInit hex hb hown (hts _ hl) (hts _ hs) (hts _ hc) rfl (hls.1.trans hml.symm) rfl hd hF.1 ?_ (k ad ls H locs hn0 had hZ hls (List.forall_mem_cons.mp hst).2)
  show 2 * 0 + _ + 12 ≤ _
  have := mz_cats (vs := st.map (mz_c ad ao ρ)) (by simpa using h4)
  have h2 : 20 ≤ R.locals := hF.2
  omega
/-- the words from b on -/
noncomputable def mz_rd (M n : Nat) : Nat → List Nat := Nat.rec (motive := fun _ => Nat → List Nat) (fun _ => []) (fun _ ih b => mz_g M b :: ih (Nat.succ b)) n
theorem mz_rd_len (M : Nat) : ∀ n b : Nat, (mz_rd M n b).length = n
  | 0, b => rfl
  | n + 1, b => congrArg Nat.succ (mz_rd_len M n (b + 1))
theorem mz_rd_at (M : Nat) : ∀ (n b j : Nat), j < n → (mz_rd M n b).getD j 0 = mz_g M (b + j)
  | 0, b, j, h => absurd h (Nat.not_lt_zero _)
  | n + 1, b, 0, h => rfl
  | n + 1, b, j + 1, h => by
    have q := mz_rd_at M n (b + 1) j (by omega)
    rw [show b + (j + 1) = b + 1 + j by omega]
    exact q
theorem mz_rd_all (M : Nat) : ∀ (n b : Nat), ∀ w ∈ mz_rd M n b, ∃ i, w = mz_g M i
  | 0, b, w, h => nomatch h
  | n + 1, b, w, h => by
    rcases List.mem_cons.mp (show w ∈ mz_g M b :: mz_rd M n (b + 1) from h) with rfl | z
    · exact ⟨b, rfl⟩
    · exact mz_rd_all M n (b + 1) w z
theorem mz_w_upd {cA : Nat → ClassId} {ad ao : Nat → Nat} {ρ : Nat → Int32} {M' k : Nat} {e : va_E} (h : mz_K n K top) (hk : k < n) (ho : ∀ j, (j < mz_cb K k ∨ mz_cb K k + mz_cn K k ≤ j) → mz_g M' j = mz_g M j) (he : e = mz_E cA ad ao ρ M' K k) :
    (mz_w cA ad ao ρ M K n).set k (ad k, e) = mz_w cA ad ao ρ M' K n := by
  subst he
  refine List.ext_getElem? fun i => ?_
  rw [List.getElem?_set]
  by_cases hik : k = i
  · subst hik
    rw [if_pos rfl, if_pos (by rw [mz_w_len]; exact hk), mz_w_at hk]
  · rw [if_neg hik]
    by_cases hi : i < n
    · rw [mz_w_at hi, mz_w_at hi]
      congr 2
      refine mz_e_congr fun q hq => ?_
      rw [ho _ (by
        rcases Nat.lt_or_gt_of_ne hik with z | z
        · have := h.1 k i z hi; omega
        · have := h.1 i k z hk; omega)]
    · rw [List.getElem?_eq_none (by rw [mz_w_len]; omega), List.getElem?_eq_none (by rw [mz_w_len]; omega)]
theorem mz_sm_n {ρ : Nat → Int32} {w : Nat} (h : mz_sm w = true) : mz_I w = true ∧ ¬ mz_i ρ w < 0 ∧ (mz_i ρ w).toNatClampNeg = mz_q w := by
  obtain ⟨h1, h2, h3⟩ := mz_ix (ρ := ρ) (N := mz_q w + 1) h (Nat.lt_succ_self _)
  exact ⟨h1, fun z => h2 (Or.inl z), h3⟩
theorem mz_copy {idx x0 x1 i0 i1 w : Nat} (C : mz_Cx X cc own mz_gG F) (hd : decode cc pc = .ok (.invokestatic idx, 3)) (hl : Jvm.Cond.methodLink own idx arraycopyName ∈ mz_gG) (hnat : Jvm.Cond.native arraycopyName ∈ mz_gG) (hst : Jvm.Cond.static arraycopyName ∈ mz_gG) (hini : Jvm.Cond.initialized "java/lang/System" ∈ mz_gG)
    (hx0 : mz_ref n x0 = true) (hx1 : mz_ref n x1 = true) (ht0 : mz_ct K (mz_k x0) = 64 + 0) (ht1 : mz_ct K (mz_k x1) = 64 + 0) (hi0 : mz_sm i0 = true) (hi1 : mz_sm i1 = true) (hw : mz_sm w = true) (h0 : mz_q i0 + mz_q w ≤ mz_cn K (mz_k x0)) (h1 : mz_q i1 + mz_q w ≤ mz_cn K (mz_k x1)) (h4 : st.length ≤ 4)
    (hF : 1 ≤ (mz_rm X).frames ∧ 8 + (nativeFrameWords "java/lang/System" "arraycopy" 5 + 11) ≤ (mz_rm X).locals)
    (k : mz_G X (pc + 3) L st (mz_fl (mz_rd M (mz_q w) (mz_cb K (mz_k x0) + mz_q i0)) M (mz_cb K (mz_k x1) + mz_q i1)) K n top nc ns) : mz_G X pc L (w :: i1 :: x1 :: i0 :: x0 :: st) M K n top nc ns := by
  obtain ⟨p, l, e, R, s, m, args, below, meth, c, nL, D, cA, ao, ρ, A, n0, ad0, Q⟩ := X
  obtain ⟨hex, hb, hml, hown, hts, hK, hA, hFF, hV⟩ := C
  intro ad ls H locs hn0 had hZ hls hst3
  obtain ⟨hP, hD, hS, hKK, hC⟩ := hZ
  obtain ⟨a1, a2⟩ := mz_ref_c (ad := ad) (ao := ao) (ρ := ρ) hx0
  obtain ⟨b1, b2⟩ := mz_ref_c (ad := ad) (ao := ao) (ρ := ρ) hx1
  obtain ⟨u1, u2, u3⟩ := mz_sm_n (ρ := ρ) hi0
  obtain ⟨v1, v2, v3⟩ := mz_sm_n (ρ := ρ) hi1
  obtain ⟨w1, w2, w3⟩ := mz_sm_n (ρ := ρ) hw
  have hst2 : ∀ v ∈ st, mz_cl n v = true := fun v hv => hst3 v (by simp [hv])
  have hall : ∀ v ∈ mz_rd M (mz_q w) (mz_cb K (mz_k x0) + mz_q i0), v < mz_B := fun v hv => by
    obtain ⟨i, rfl⟩ := mz_rd_all _ _ _ v hv
    exact mz_g_lt _ _
  have hget : ∀ j, mz_g (mz_fl (mz_rd M (mz_q w) (mz_cb K (mz_k x0) + mz_q i0)) M (mz_cb K (mz_k x1) + mz_q i1)) j = if mz_cb K (mz_k x1) + mz_q i1 ≤ j ∧ j < mz_cb K (mz_k x1) + mz_q i1 + mz_q w then mz_g M (mz_cb K (mz_k x0) + mz_q i0 + (j - (mz_cb K (mz_k x1) + mz_q i1))) else mz_g M j := fun j => by
    rw [mz_fl_g _ _ _ _ hall, mz_rd_len]
    by_cases q : mz_cb K (mz_k x1) + mz_q i1 ≤ j ∧ j < mz_cb K (mz_k x1) + mz_q i1 + mz_q w
    · rw [if_pos q, if_pos q, mz_rd_at _ _ _ _ (by omega)]
    · rw [if_neg q, if_neg q]
  rw [List.map_cons, List.map_cons, List.map_cons, List.map_cons, List.map_cons, a1, b1, mz_cI u1, mz_cI v1, mz_cI w1]
  have e0 : (mz_w cA ad ao ρ M K n)[mz_k x0]? = some (ad (mz_k x0), .inl (cA 0, mz_cn K (mz_k x0), .inl fun j => if j < mz_cn K (mz_k x0) then mz_toI (mz_c ad ao ρ (mz_g M (mz_cb K (mz_k x0) + j))) else 0)) := by
    rw [mz_w_at a2, mz_E_arr ht0, mz_pic_i (Or.inl rfl)]
  have e1 : (mz_w cA ad ao ρ M K n)[mz_k x1]? = some (ad (mz_k x1), .inl (cA 0, mz_cn K (mz_k x1), .inl fun j => if j < mz_cn K (mz_k x1) then mz_toI (mz_c ad ao ρ (mz_g M (mz_cb K (mz_k x1) + j))) else 0)) := by
    rw [mz_w_at b2, mz_E_arr ht1, mz_pic_i (Or.inl rfl)]
  refine va_copyi hex hb (hml.trans hls.1.symm) hown (hts _ hl) (hts _ hnat) (hts _ hst) (hts _ hini) hK hP hD hS (mz_k x0) (mz_k x1) 0 0 e0 e1 (mz_tys_at (by decide)) (mz_tys_at (by decide)) rfl u2 v2 w2 (by rw [u3, w3]; exact h0) (by rw [v3, w3]; exact h1) (fun _ _ => rfl) hF.1 ?_ hd ?_
  · have := mz_cats (vs := st.map (mz_c ad ao ρ)) (by simpa using h4)
    have h2 : 8 + (nativeFrameWords "java/lang/System" "arraycopy" 5 + 11) ≤ R.locals := hF.2
    omega
  · intro H1 locs1 g1 g2 g3
    rw [u3, v3, w3, mz_w_upd (M' := mz_fl (mz_rd M (mz_q w) (mz_cb K (mz_k x0) + mz_q i0)) M (mz_cb K (mz_k x1) + mz_q i1)) hKK b2 (fun j hj => by rw [hget, if_neg (by omega)]) (by
      rw [mz_E_arr ht1, mz_pic_i (Or.inl rfl)]
      congr 4
      funext j
      simp only [va_cpy, hget]
      by_cases q : mz_q i1 ≤ j ∧ j < mz_q i1 + mz_q w
      · rw [if_pos q, if_pos (by omega), if_pos (by omega), if_pos (by omega), show mz_cb K (mz_k x0) + mz_q i0 + (mz_cb K (mz_k x1) + j - (mz_cb K (mz_k x1) + mz_q i1)) = mz_cb K (mz_k x0) + (mz_q i0 + (j - mz_q i1)) by omega]
      · rw [if_neg q]
        by_cases q2 : j < mz_cn K (mz_k x1)
        · rw [if_pos q2, if_pos q2, if_neg (by omega)]
        · rw [if_neg q2, if_neg q2])] at g1 g2
    refine k ad ls H1 locs1 hn0 had ⟨g1, g2, g3, hKK, fun i => ?_⟩ hls hst2
    rw [hget]
    split
    · exact hC _
    · exact hC _
theorem mz_castS {x ci idx N : Nat} {C0 : String} {T : u_T} {Ts : List Jvm.Cond} (C : mz_Cx X cc own Ts F) (hd : decode cc pc = .ok (.checkcast idx, 3)) (hc : vwCl[ci]? = some (C0, T, N)) (hci : ci < 64) (hlink : mz_bf X (Jvm.Cond.classLink own idx C0))
    (hx : mz_ref n x = true) (ht : mz_ct K (mz_k x) = ci) (k : mz_G X (pc + 3) L (x :: st) M K n top nc ns) : mz_G X pc L (x :: st) M K n top nc ns := by
  have hrc := mz_Rc_new (M := M) (top := top) C hx ht hci hc
  obtain ⟨p, l, e, R, s, m, args, below, meth, c, nL, D, cA, ao, ρ, A, n0, ad0, Q⟩ := X
  obtain ⟨hex, hb, hml, hown, hts, hK, hA, hFF, hV⟩ := C
  intro ad ls H locs hn0 had hZ hls hst
  obtain ⟨b, hxb, hcell⟩ := hrc ad H locs hZ
  have q := k ad ls H locs hn0 had hZ hls hst
  rw [List.map_cons, hxb] at q ⊢
  exact va_castS hex hb hown hlink (hK.1 ci _ hc).2 hcell hd q
end MZI
