theorem mz_RA_one {s : State} {c1 c2 : ClassId} {ty : FieldType} (h1 : va_RA s c1 ty) (h2 : va_RA s c2 ty) : c1 = c2 := by
  cases ty with
  | object C =>
    obtain ⟨_, _, _, _, _, a⟩ := h1
    obtain ⟨_, _, _, _, _, b⟩ := h2
    exact Option.some.inj (a.symm.trans b)
  | _ => exact Option.some.inj (Eq.trans (Eq.symm h1) h2)
theorem mz_tys_len {cA : Nat → ClassId} : (mz_tys cA).length = 9 := by unfold mz_tys; simp
section MZ9
variable {X : mz_Xt} {cc : ByteArray} {own : String} {Ts : List Jvm.Cond} {F : Nat → Nat × Nat} {pc L M K n top nc ns : Nat} {st : List Nat}
theorem mz_alen {x t : Nat} (C : mz_Cx X cc own Ts F) (hd : decode cc pc = .ok (.arraylength, 1)) (hx : mz_ref n x = true) (ht : mz_ct K (mz_k x) = 64 + t) (h9 : t < 9) (k : mz_G X (pc + 1) L (mz_n (mz_cn K (mz_k x)) :: st) M K n top nc ns) : mz_G X pc L (x :: st) M K n top nc ns := by
  obtain ⟨p, l, e, R, s, m, args, below, meth, c, nL, D, cA, ao, ρ, A, n0, ad0, Q⟩ := X
  obtain ⟨hex, hb, hml, hown, hts, hK, hA, hF, hV⟩ := C
  intro ad ls H locs hn had hZ hls hst
  obtain ⟨hP, hD, hS, hW, hC⟩ := hZ
  obtain ⟨e1, hk⟩ := mz_ref_c (ad := ad) (ao := ao) (ρ := ρ) hx
  have q := k ad ls H locs hn had ⟨hP, hD, hS, hW, hC⟩ hls (mz_hd (mz_cl_I (mz_nw (ρ := ρ) _).1) (List.forall_mem_cons.mp hst).2)
  rw [List.map_cons, mz_cI (mz_nw (ρ := ρ) _).1, (mz_nw (ρ := ρ) _).2] at q
  rw [List.map_cons, e1]
  have he := mz_w_at (cA := cA) (ad := ad) (ao := ao) (ρ := ρ) (M := M) (K := K) hk
  rw [mz_E_arr ht] at he
  exact va_alen hex hb hK hP (mz_k x) t he (mz_tys_at h9) rfl hd q
/-- the words of a new array -/
theorem mz_arr_done {t N q w : Nat} {p : Program} {l : Launch} {e : Env} {R : Room} {s : State} {m : MethodId} {args : Array Value} {below : List Frame} {meth : Method} {c : Code} {nL : Nat} {D : va_G} {cA : Nat → ClassId} {ao : Nat → Nat} {ρ : Nat → Int32} {A : Nat → Prop} {n0 : Nat} {ad0 : Nat → Nat} {Q : State → Prop}
    {ad : Nat → Nat} {ls : Array Slot} {H1 : Heap} {locs : List Loc} {pc2 : Nat}
    (hr : mz_roomy n N top = true) (ht : t < 9) (hw1 : w < mz_B) (hw2 : mz_cl 0 w = true) (hn : n0 ≤ n) (had : ∀ k, k < n0 → ad k = ad0 k) (hW : mz_K n K top) (hC : ∀ i, mz_cl n (mz_g M i) = true) (hls : mz_ls ad ao ρ n nL ls L) (hst : ∀ v ∈ st, mz_cl n v = true) (hS1 : va_S A s.heap H1 locs)
    {z : (Nat → Int32) ⊕ (Nat → Int64) ⊕ (Nat → UInt32) ⊕ (Nat → UInt64) ⊕ (Nat → Option Nat)} (hz : mz_pic t N (fun j => mz_c (mz_ad ad n q) ao ρ ((List.replicate N w).getD j 0)) = z)
    (hP1 : va_P D vwCl (mz_w cA ad ao ρ M K n ++ [(q, .inl (cA t, N, z))]) H1) (hD1 : va_D A (mz_w cA ad ao ρ M K n ++ [(q, .inl (cA t, N, z))]))
    (k : mz_G (p, l, e, R, s, m, args, below, meth, c, nL, D, cA, ao, ρ, A, n0, ad0, Q) pc2 L (mz_nr n :: st) (mz_fl (List.replicate N w) M top) (mz_p K n (mz_mt (64 + t) N top)) (n + 1) (top + N) nc ns) :
    W p l e R s m args below meth c H1 locs nc ns Q (F0 m pc2 ls (.ref q :: st.map (mz_c ad ao ρ))) := by
  have hnlt := (mz_roomy_ok hr).2.2
  have hl1 : ∀ v ∈ List.replicate N w, v < mz_B := fun v hv => by rw [List.eq_of_mem_replicate hv]; exact hw1
  have hl2 : ∀ v ∈ List.replicate N w, mz_cl 0 v = true := fun v hv => by rw [List.eq_of_mem_replicate hv]; exact hw2
  have hlen : (List.replicate N w).length = N := List.length_replicate
  have ew := mz_w_push (cA := cA) (ad := ad) (ao := ao) (ρ := ρ) (M := M) (K := K) (tag := 64 + t) (q := q) (l := List.replicate N w) hW (by omega) (by rw [hlen]; exact hr) hl1 hC
  rw [hlen] at ew
  have ee : mz_e cA (64 + t) N (fun j => mz_c (mz_ad ad n q) ao ρ ((List.replicate N w).getD j 0)) = .inl (cA t, N, z) := by
    unfold mz_e
    rw [if_neg (by omega), show 64 + t - 64 = t by omega, hz]
  rw [ee] at ew
  rw [← ew] at hP1 hD1
  obtain ⟨r1, r2, r3⟩ := mz_nr_ok (ad := ad) (ao := ao) (ρ := ρ) (q := q) hnlt
  have y := k (mz_ad ad n q) ls H1 locs (by omega) (fun i hi => (mz_ad_lt i (by omega)).trans (had i hi)) ⟨hP1, hD1, hS1, mz_K_push hW (by omega) hr, fun i => mz_fl_cl hl1 hl2 hC i⟩ (mz_ls_ad hls) (mz_hd r2 fun v hv => mz_cl_mono (Nat.le_succ _) (hst v hv))
  rw [List.map_cons, r1, mz_st_ad hst mz_ad_lt] at y
  exact y
theorem mz_rep_at {N w j : Nat} (h : j < N) : (List.replicate N w).getD j 0 = w := by
  rw [List.getD_eq_getElem?_getD, List.getElem?_replicate, if_pos h]; rfl
theorem mz_newarr {i t : Nat} {aty : ArrayType} (C : mz_Cx X cc own Ts F) (hd : decode cc pc = .ok (.newarray aty, 2)) (ht : t = 0 ∨ t = 1 ∨ t = 2 ∨ t = 3 ∨ t = 4) (hty : newarray.typeOf aty = mz_ty.getD t .int) (ha : mz_bf X (Jvm.Cond.arrayClass (newarray.typeOf aty)))
    (hi : mz_sm i = true) (hr : mz_roomy n (mz_q i) top = true) (hcells : nc + 1 ≤ (mz_rm X).cells) (hslots : ns + mz_q i ≤ (mz_rm X).slots)
    (k : mz_G X (pc + 2) L (mz_nr n :: st) (mz_fl (List.replicate (mz_q i) (mz_dw (mz_ty.getD t .int))) M top) (mz_p K n (mz_mt (64 + t) (mz_q i) top)) (n + 1) (top + mz_q i) (nc + 1) (ns + mz_q i)) : mz_G X pc L (i :: st) M K n top nc ns := by
  obtain ⟨p, l, e, R, s, m, args, below, meth, c, nL, D, cA, ao, ρ, A, n0, ad0, Q⟩ := X
  obtain ⟨hex, hb, hml, hown, hts, hK, hA, hF, hV⟩ := C
  intro ad ls H locs hn had hZ hls hst
  obtain ⟨hP, hD, hS, hW, hC⟩ := hZ
  obtain ⟨h1, h2⟩ := mz_sm_ok hi
  obtain ⟨g1, g2⟩ := mz_s1 (ρ := ρ) h1
  have hst2 := (List.forall_mem_cons.mp hst).2
  rw [List.map_cons, mz_cI g1, g2]
  have hN := (mz_roomy_ok hr).1
  have t9 : t < 9 := by omega
  have fin : ∀ (q : Nat) (c1 : ClassId) (H1 : Heap) (a0 : vp_A) (ty : FieldType), ty = mz_ty.getD t .int → (∀ qq, a0 = (mz_q i, mz_pic t (mz_q i) (fun j => mz_c (mz_ad ad n qq) ao ρ ((List.replicate (mz_q i) (mz_dw (mz_ty.getD t .int))).getD j 0)))) → va_K D vwCl (mz_tys cA ++ [(c1, ty)]) s → va_P D vwCl (mz_w cA ad ao ρ M K n ++ [(q, .inl (c1, a0))]) H1 → va_D A (mz_w cA ad ao ρ M K n ++ [(q, .inl (c1, a0))]) → va_S A s.heap H1 locs →
      W p l e R s m args below meth c H1 locs (nc + 1) (ns + mz_q i) Q (F0 m (pc + 2) ls (.ref q :: st.map (mz_c ad ao ρ))) := fun q c1 H1 a0 ty ety ea hK1 hP1 hD1 hS1 => by
    have c2 : c1 = cA t := by
      refine mz_RA_one (s := s) (ty := mz_ty.getD t .int) ?_ (hK.2 t _ (mz_tys_at t9)).2
      rw [← ety]
      exact (hK1.2 9 (c1, ty) (by rw [List.getElem?_append_right (by rw [mz_tys_len]; exact Nat.le_refl _), mz_tys_len]; rfl)).2
    subst c2
    have ea := ea q
    rw [ea] at hP1 hD1
    exact mz_arr_done hr t9 (mz_dw_ok _ ad ao ρ).2.1 (mz_dw_ok _ ad ao ρ).2.2 hn had hW hC hls hst2 hS1 rfl hP1 hD1 k
  have hclamp : (nI (mz_q i)).toNatClampNeg = mz_q i := nI_clamp h2
  have hng : ¬ nI (mz_q i) < 0 := nI_pos h2
  have ev : ∀ {β : Type} (u : Value → β) (d : β) (qq : Nat), u (defaultValue (mz_ty.getD t .int)) = d → (fun j => if j < mz_q i then u (mz_c (mz_ad ad n qq) ao ρ ((List.replicate (mz_q i) (mz_dw (mz_ty.getD t .int))).getD j 0)) else d) = fun _ => d := fun u d qq hu => by
    funext j
    by_cases hj : j < mz_q i
    · rw [if_pos hj, mz_rep_at hj, (mz_dw_ok _ _ ao ρ).1, hu]
    · rw [if_neg hj]
  rcases ht with rfl | rfl | rfl | rfl | rfl
  · refine va_newa (a0 := (mz_q i, .inl fun _ => 0)) hex hb ha hty hK hP hD hS hA (fun _ => rfl) hng hclamp (by show mz_q i * 4 ≤ _; omega) hcells hslots hd fun q c1 H1 => fin q c1 H1 _ _ rfl fun qq => ?_
    rw [mz_pic_i (Or.inl rfl), ev mz_toI 0 qq rfl]
  · refine va_newa (a0 := (mz_q i, .inr (.inl fun _ => 0))) hex hb ha hty hK hP hD hS hA (fun _ => rfl) hng hclamp (by show mz_q i * 8 ≤ _; omega) hcells hslots hd fun q c1 H1 => fin q c1 H1 _ _ rfl fun qq => ?_
    rw [mz_pic_l, ev mz_toL 0 qq rfl]
  · refine va_newa (a0 := (mz_q i, .inl fun _ => 0)) hex hb ha hty hK hP hD hS hA (fun _ => rfl) hng hclamp (by show mz_q i * 2 ≤ _; omega) hcells hslots hd fun q c1 H1 => fin q c1 H1 _ _ rfl fun qq => ?_
    rw [mz_pic_i (Or.inr (Or.inl rfl)), ev mz_toI 0 qq rfl]
  · refine va_newa (a0 := (mz_q i, .inl fun _ => 0)) hex hb ha hty hK hP hD hS hA (fun _ => rfl) hng hclamp (by show mz_q i * 1 ≤ _; omega) hcells hslots hd fun q c1 H1 => fin q c1 H1 _ _ rfl fun qq => ?_
    rw [mz_pic_i (Or.inr (Or.inr rfl)), ev mz_toI 0 qq rfl]
  · refine va_newa (a0 := (mz_q i, .inr (.inr (.inr (.inl fun _ => 0))))) hex hb ha hty hK hP hD hS hA (fun _ => rfl) hng hclamp (by show mz_q i * 8 ≤ _; omega) hcells hslots hd fun q c1 H1 => fin q c1 H1 _ _ rfl fun qq => ?_
    have e4 : ∀ f : Nat → Value, mz_pic 4 (mz_q i) f = .inr (.inr (.inr (.inl fun j => if j < mz_q i then mz_toD (f j) else 0))) := fun f => rfl
    rw [e4, ev mz_toD 0 qq rfl]
theorem mz_anewarr {i t idx : Nat} {C0 : String} (C : mz_Cx X cc own Ts F) (hd : decode cc pc = .ok (.anewarray idx, 3)) (h5 : 5 ≤ t) (h9 : t < 9) (hty : mz_ty.getD t .int = .object C0) (h1 : mz_bf X (Jvm.Cond.classLink own idx C0)) (h2 : mz_bf X (Jvm.Cond.arrayOver (.object C0)))
    (hi : mz_sm i = true) (hr : mz_roomy n (mz_q i) top = true) (hcells : nc + 1 ≤ (mz_rm X).cells) (hslots : ns + mz_q i ≤ (mz_rm X).slots)
    (k : mz_G X (pc + 3) L (mz_nr n :: st) (mz_fl (List.replicate (mz_q i) 2) M top) (mz_p K n (mz_mt (64 + t) (mz_q i) top)) (n + 1) (top + mz_q i) (nc + 1) (ns + mz_q i)) : mz_G X pc L (i :: st) M K n top nc ns := by
  obtain ⟨p, l, e, R, s, m, args, below, meth, c, nL, D, cA, ao, ρ, A, n0, ad0, Q⟩ := X
  obtain ⟨hex, hb, hml, hown, hts, hK, hA, hF, hV⟩ := C
  intro ad ls H locs hn had hZ hls hst
  obtain ⟨hP, hD, hS, hW, hC⟩ := hZ
  obtain ⟨i1, i2⟩ := mz_sm_ok hi
  obtain ⟨g1, g2⟩ := mz_s1 (ρ := ρ) i1
  have hst2 := (List.forall_mem_cons.mp hst).2
  rw [List.map_cons, mz_cI g1, g2]
  have hN := (mz_roomy_ok hr).1
  refine va_newq hex hb hown h1 (va_AO.of h2) hK hP hD hS hA (nI_pos i2) (nI_clamp i2) (by omega) hcells hslots hd fun q c1 H1 hK1 hP1 hD1 hS1 => ?_
  have c2 : c1 = cA t := by
    refine mz_RA_one (s := s) (ty := .object C0) ?_ (by have z := (hK.2 t _ (mz_tys_at h9)).2; rw [hty] at z; exact z)
    exact (hK1.2 9 (c1, .object C0) (by rw [List.getElem?_append_right (by rw [mz_tys_len]; exact Nat.le_refl _), mz_tys_len]; rfl)).2
  subst c2
  refine mz_arr_done (z := .inr (.inr (.inr (.inr fun _ => none)))) hr h9 (by decide) (by decide) hn had hW hC hls hst2 hS1 ?_ hP1 hD1 k
  rw [mz_pic_q h5]
  congr 4
  funext j
  by_cases hj : j < mz_q i
  · rw [if_pos hj, mz_rep_at hj]
    rfl
  · rw [if_neg hj]
end MZ9
