/-! A METHOD'S WALK, SEEN FROM THE SMALL MACHINE. X: the machine's own things; C: what holds of them all along; mz_G: from this small state the walk comes to its end. -/
abbrev mz_Xt : Type := Program × Launch × Env × Room × State × MethodId × Array Value × List Frame × Method × Code × Nat × va_G × (Nat → ClassId) × (Nat → Nat) × (Nat → Int32) × (Nat → Prop) × Nat × (Nat → Nat) × (State → Prop)
noncomputable def mz_Cx : mz_Xt → ByteArray → String → List Jvm.Cond → (Nat → Nat × Nat) → Prop
  | (p, l, e, R, s, m, args, below, meth, c, nL, D, cA, ao, ρ, A, n0, ad0, Q), cc, own, Ts, F =>
    p.tables.exec = Jvm.exec ∧ c.code = cc ∧ c.maxLocals = nL ∧ s.vm.findClass own = some m.cls ∧ (∀ w ∈ Ts, w.before args s = true) ∧ va_K D vwCl (mz_tys cA) s ∧ (∀ q : Nat, s.heap.size ≤ q → A q) ∧ mz_F F ρ ∧ mz_V ρ
noncomputable def mz_Z (D : va_G) (cA : Nat → ClassId) (ad ao : Nat → Nat) (ρ : Nat → Int32) (A : Nat → Prop) (H0 H : Heap) (locs : List Loc) (M K n top : Nat) : Prop :=
  va_P D vwCl (mz_w cA ad ao ρ M K n) H ∧ va_D A (mz_w cA ad ao ρ M K n) ∧ va_S A H0 H locs ∧ mz_K n K top ∧ ∀ i, mz_cl n (mz_g M i) = true
noncomputable def mz_df (w : Nat) : Bool := (mz_ci (Nat.beq (Nat.mod w 16) 0) (false) (true))
/-- two words of locals -/
noncomputable def mz_c2 (w : Nat) : Bool := (mz_ci (Nat.beq (Nat.mod w 16) 3) (true) ((mz_ci (Nat.beq (Nat.mod w 16) 5) (true) (Nat.beq (Nat.mod w 16) 8))))
noncomputable def mz_ls (ad ao : Nat → Nat) (ρ : Nat → Int32) (n nL : Nat) (ls : Array Slot) (L : Nat) : Prop :=
  ls.size = nL ∧ lv_wf ls ∧ (∀ i, mz_df (mz_g L i) = true → ls[i]? = some (.val (mz_c ad ao ρ (mz_g L i)))) ∧ ∀ i, mz_cl n (mz_g L i) = true
noncomputable def mz_G : mz_Xt → Nat → Nat → List Nat → Nat → Nat → Nat → Nat → Nat → Nat → Prop
  | (p, l, e, R, s, m, args, below, meth, c, nL, D, cA, ao, ρ, A, n0, ad0, Q), pc, L, st, M, K, n, top, nc, ns =>
    ∀ (ad : Nat → Nat) (ls : Array Slot) (H : Heap) (locs : List Loc), n0 ≤ n → (∀ k, k < n0 → ad k = ad0 k) → mz_Z D cA ad ao ρ A s.heap H locs M K n top → mz_ls ad ao ρ n nL ls L → (∀ w ∈ st, mz_cl n w = true) →
      W p l e R s m args below meth c H locs nc ns Q (F0 m pc ls (st.map (mz_c ad ao ρ)))
theorem mz_df_of {w : Nat} (h : w % 16 ≠ 0) : mz_df w = true := by
  unfold mz_df
  cases h1 : Nat.beq (Nat.mod w 16) 0 with
  | false => rfl
  | true => exact absurd (mz_bq h1) h
theorem mz_df_I {w : Nat} (h : mz_I w = true) : mz_df w = true := mz_df_of (by rcases mz_I_or h with q | q | q | q <;> omega)
theorem mz_df_L {w : Nat} (h : mz_L w = true) : mz_df w = true := mz_df_of (by rcases mz_L_or h with q | q <;> omega)
theorem mz_df_R {w : Nat} (h : mz_R w = true) : mz_df w = true := mz_df_of (by have q : w % 16 = 2 := mz_bq h; omega)
theorem mz_hd {n w : Nat} {st : List Nat} (h : mz_cl n w = true) (hst : ∀ v ∈ st, mz_cl n v = true) : ∀ v ∈ w :: st, mz_cl n v = true := List.forall_mem_cons.mpr ⟨h, hst⟩
theorem mz_lc : ∀ z : Fin 2, Int64.ofNat z.val = (nI z.val).toInt64 := by decide +kernel
/-- the places of the locals -/
noncomputable def mz_nL : mz_Xt → Nat
  | (p, l, e, R, s, m, args, below, meth, c, nL, D, cA, ao, ρ, A, n0, ad0, Q) => nL
section MZ1
variable {X : mz_Xt} {cc : ByteArray} {own : String} {Ts : List Jvm.Cond} {F : Nat → Nat × Nat} {pc L M K n top nc ns : Nat} {st : List Nat}
/-! constants -/
theorem mz_iconst {a : Nat} {z : Int} (C : mz_Cx X cc own Ts F) (hd : decode cc pc = .ok (.iconst z, 1)) (hz : Int32.ofInt z = nI a) (k : mz_G X (pc + 1) L (mz_n a :: st) M K n top nc ns) : mz_G X pc L st M K n top nc ns := by
  obtain ⟨p, l, e, R, s, m, args, below, meth, c, nL, D, cA, ao, ρ, A, n0, ad0, Q⟩ := X
  obtain ⟨hx, hb, -⟩ := C
  intro ad ls H locs hn had hZ hl hst
  refine lv_iconst hx hb hd hz ?_
  have q := k ad ls H locs hn had hZ hl (mz_hd (mz_cl_I (mz_nw (ρ := ρ) a).1) hst)
  rw [List.map_cons, mz_cI (mz_nw (ρ := ρ) a).1, (mz_nw (ρ := ρ) a).2] at q
  exact q
theorem mz_bipush {a : Nat} {z : Int} (C : mz_Cx X cc own Ts F) (hd : decode cc pc = .ok (.bipush z, 2)) (hz : (Int8.ofInt z).toInt32 = nI a) (k : mz_G X (pc + 2) L (mz_n a :: st) M K n top nc ns) : mz_G X pc L st M K n top nc ns := by
  obtain ⟨p, l, e, R, s, m, args, below, meth, c, nL, D, cA, ao, ρ, A, n0, ad0, Q⟩ := X
  obtain ⟨hx, hb, -⟩ := C
  intro ad ls H locs hn had hZ hl hst
  refine lv_bipush hx hb hd hz ?_
  have q := k ad ls H locs hn had hZ hl (mz_hd (mz_cl_I (mz_nw (ρ := ρ) a).1) hst)
  rw [List.map_cons, mz_cI (mz_nw (ρ := ρ) a).1, (mz_nw (ρ := ρ) a).2] at q
  exact q
theorem mz_sipush {a : Nat} {z : Int} (C : mz_Cx X cc own Ts F) (hd : decode cc pc = .ok (.sipush z, 3)) (hz : (Int16.ofInt z).toInt32 = nI a) (k : mz_G X (pc + 3) L (mz_n a :: st) M K n top nc ns) : mz_G X pc L st M K n top nc ns := by
  obtain ⟨p, l, e, R, s, m, args, below, meth, c, nL, D, cA, ao, ρ, A, n0, ad0, Q⟩ := X
  obtain ⟨hx, hb, -⟩ := C
  intro ad ls H locs hn had hZ hl hst
  refine lv_sipush hx hb hd hz ?_
  have q := k ad ls H locs hn had hZ hl (mz_hd (mz_cl_I (mz_nw (ρ := ρ) a).1) hst)
  rw [List.map_cons, mz_cI (mz_nw (ρ := ρ) a).1, (mz_nw (ρ := ρ) a).2] at q
  exact q
theorem mz_ldci {a i : Nat} {z : Int32} (C : mz_Cx X cc own Ts F) (hd : decode cc pc = .ok (.ldc i, 2)) (hw : Jvm.Cond.constant own i z ∈ Ts) (hz : z = nI a) (k : mz_G X (pc + 2) L (mz_n a :: st) M K n top nc ns) : mz_G X pc L st M K n top nc ns := by
  obtain ⟨p, l, e, R, s, m, args, below, meth, c, nL, D, cA, ao, ρ, A, n0, ad0, Q⟩ := X
  obtain ⟨hx, hb, hml, hown, hts, -⟩ := C
  intro ad ls H locs hn had hZ hl hst
  subst hz
  refine lv_ldc hx hb hown (hts _ hw) hd ?_
  have q := k ad ls H locs hn had hZ hl (mz_hd (mz_cl_I (mz_nw (ρ := ρ) a).1) hst)
  rw [List.map_cons, mz_cI (mz_nw (ρ := ρ) a).1, (mz_nw (ρ := ρ) a).2] at q
  exact q
theorem mz_null (C : mz_Cx X cc own Ts F) (hd : decode cc pc = .ok (.aconst_null, 1)) (k : mz_G X (pc + 1) L (2 :: st) M K n top nc ns) : mz_G X pc L st M K n top nc ns := by
  obtain ⟨p, l, e, R, s, m, args, below, meth, c, nL, D, cA, ao, ρ, A, n0, ad0, Q⟩ := X
  obtain ⟨hx, hb, -⟩ := C
  intro ad ls H locs hn had hZ hl hst
  exact lv_null hx hb hd (k ad ls H locs hn had hZ hl (mz_hd (mz_cl_of fun _ => Or.inl (Nat.zero_le _)) hst))
theorem mz_lconst {z : Fin 2} (C : mz_Cx X cc own Ts F) (hd : decode cc pc = .ok (.lconst z, 1)) (k : mz_G X (pc + 1) L (Nat.add 3 (Nat.mul 16 z.val) :: st) M K n top nc ns) : mz_G X pc L st M K n top nc ns := by
  obtain ⟨p, l, e, R, s, m, args, below, meth, c, nL, D, cA, ao, ρ, A, n0, ad0, Q⟩ := X
  obtain ⟨hx, hb, -⟩ := C
  intro ad ls H locs hn had hZ hl hst
  have h3 : (3 + 16 * z.val) % 16 = 3 := (mz_tag 3 z.val (by decide)).1
  have q := k ad ls H locs hn had hZ hl (mz_hd (mz_cl_t (show (3 + 16 * z.val) % 16 ≠ 2 by omega)) hst)
  rw [List.map_cons] at q
  refine lv_lconst hx hb hd (v := (nI z.val).toInt64) (mz_lc z) ?_
  have e1 : mz_c ad ao ρ (Nat.add 3 (Nat.mul 16 z.val)) = .long (nI z.val).toInt64 := by
    show mz_c ad ao ρ (3 + 16 * z.val) = _
    have h4 : (3 + 16 * z.val) / 16 = z.val := (mz_tag 3 z.val (by decide)).2
    simp [mz_c, h3, h4]
  rw [e1] at q
  exact q
theorem mz_fconst (C : mz_Cx X cc own Ts F) (hd : decode cc pc = .ok (.fconst 0, 1)) (k : mz_G X (pc + 1) L (7 :: st) M K n top nc ns) : mz_G X pc L st M K n top nc ns := by
  obtain ⟨p, l, e, R, s, m, args, below, meth, c, nL, D, cA, ao, ρ, A, n0, ad0, Q⟩ := X
  obtain ⟨hx, hb, -⟩ := C
  intro ad ls H locs hn had hZ hl hst
  exact lv_fconst0 hx hb hd (k ad ls H locs hn had hZ hl (mz_hd (mz_cl_t (by decide)) hst))
theorem mz_dconst (C : mz_Cx X cc own Ts F) (hd : decode cc pc = .ok (.dconst 0, 1)) (k : mz_G X (pc + 1) L (8 :: st) M K n top nc ns) : mz_G X pc L st M K n top nc ns := by
  obtain ⟨p, l, e, R, s, m, args, below, meth, c, nL, D, cA, ao, ρ, A, n0, ad0, Q⟩ := X
  obtain ⟨hx, hb, -⟩ := C
  intro ad ls H locs hn had hZ hl hst
  exact lv_dconst0 hx hb hd (k ad ls H locs hn had hZ hl (mz_hd (mz_cl_t (by decide)) hst))
/-! loads -/
theorem mz_iload_n {j : Fin 4} (C : mz_Cx X cc own Ts F) (hd : decode cc pc = .ok (.iload_n j, 1)) (hw : mz_I (mz_g L j.val) = true) (k : mz_G X (pc + 1) L (mz_g L j.val :: st) M K n top nc ns) : mz_G X pc L st M K n top nc ns := by
  obtain ⟨p, l, e, R, s, m, args, below, meth, c, nL, D, cA, ao, ρ, A, n0, ad0, Q⟩ := X
  obtain ⟨hx, hb, -⟩ := C
  intro ad ls H locs hn had hZ hl hst
  have q := k ad ls H locs hn had hZ hl (mz_hd (hl.2.2.2 _) hst)
  have h1 := hl.2.2.1 _ (mz_df_I hw)
  rw [List.map_cons, mz_cI hw] at q
  rw [mz_cI hw] at h1
  exact lv_iload_n hx hb hd rfl h1 q
theorem mz_iload {i : Nat} (C : mz_Cx X cc own Ts F) (hd : decode cc pc = .ok (.iload i, 2)) (hw : mz_I (mz_g L i) = true) (k : mz_G X (pc + 2) L (mz_g L i :: st) M K n top nc ns) : mz_G X pc L st M K n top nc ns := by
  obtain ⟨p, l, e, R, s, m, args, below, meth, c, nL, D, cA, ao, ρ, A, n0, ad0, Q⟩ := X
  obtain ⟨hx, hb, -⟩ := C
  intro ad ls H locs hn had hZ hl hst
  have q := k ad ls H locs hn had hZ hl (mz_hd (hl.2.2.2 _) hst)
  have h1 := hl.2.2.1 _ (mz_df_I hw)
  rw [List.map_cons, mz_cI hw] at q
  rw [mz_cI hw] at h1
  exact lv_iload hx hb hd h1 q
theorem mz_lload_n {j : Fin 4} (C : mz_Cx X cc own Ts F) (hd : decode cc pc = .ok (.lload_n j, 1)) (hw : mz_L (mz_g L j.val) = true) (k : mz_G X (pc + 1) L (mz_g L j.val :: st) M K n top nc ns) : mz_G X pc L st M K n top nc ns := by
  obtain ⟨p, l, e, R, s, m, args, below, meth, c, nL, D, cA, ao, ρ, A, n0, ad0, Q⟩ := X
  obtain ⟨hx, hb, -⟩ := C
  intro ad ls H locs hn had hZ hl hst
  have q := k ad ls H locs hn had hZ hl (mz_hd (hl.2.2.2 _) hst)
  have h1 := hl.2.2.1 _ (mz_df_L hw)
  rw [List.map_cons, mz_cL hw] at q
  rw [mz_cL hw] at h1
  exact lv_lload_n hx hb hd rfl h1 q
theorem mz_r_or {ad ao : Nat → Nat} (q : Nat) : mz_r ad ao q = .null ∨ ∃ a, mz_r ad ao q = .ref a := by
  unfold mz_r
  by_cases h0 : q = 0
  · rw [if_pos h0]; exact Or.inl rfl
  · rw [if_neg h0]
    by_cases h1 : q ≤ 1048576
    · rw [if_pos h1]; exact Or.inr ⟨_, rfl⟩
    · rw [if_neg h1]; exact Or.inr ⟨_, rfl⟩
theorem mz_aload_n {j : Fin 4} (C : mz_Cx X cc own Ts F) (hd : decode cc pc = .ok (.aload_n j, 1)) (hw : mz_R (mz_g L j.val) = true) (k : mz_G X (pc + 1) L (mz_g L j.val :: st) M K n top nc ns) : mz_G X pc L st M K n top nc ns := by
  obtain ⟨p, l, e, R, s, m, args, below, meth, c, nL, D, cA, ao, ρ, A, n0, ad0, Q⟩ := X
  obtain ⟨hx, hb, -⟩ := C
  intro ad ls H locs hn had hZ hl hst
  have q := k ad ls H locs hn had hZ hl (mz_hd (hl.2.2.2 _) hst)
  have h1 := hl.2.2.1 _ (mz_df_R hw)
  rw [List.map_cons, mz_cR hw] at q
  rw [mz_cR hw] at h1
  rcases mz_r_or (ad := ad) (ao := ao) (mz_g L j.val / 16) with z | ⟨a, z⟩
  · rw [z] at q h1
    exact lv_aload_nN hx hb hd rfl h1 q
  · rw [z] at q h1
    exact lv_aload_n hx hb hd rfl h1 q
theorem mz_aload {i : Nat} (C : mz_Cx X cc own Ts F) (hd : decode cc pc = .ok (.aload i, 2)) (hw : mz_R (mz_g L i) = true) (k : mz_G X (pc + 2) L (mz_g L i :: st) M K n top nc ns) : mz_G X pc L st M K n top nc ns := by
  obtain ⟨p, l, e, R, s, m, args, below, meth, c, nL, D, cA, ao, ρ, A, n0, ad0, Q⟩ := X
  obtain ⟨hx, hb, -⟩ := C
  intro ad ls H locs hn had hZ hl hst
  have q := k ad ls H locs hn had hZ hl (mz_hd (hl.2.2.2 _) hst)
  have h1 := hl.2.2.1 _ (mz_df_R hw)
  rw [List.map_cons, mz_cR hw] at q
  rw [mz_cR hw] at h1
  rcases mz_r_or (ad := ad) (ao := ao) (mz_g L i / 16) with z | ⟨a, z⟩
  · rw [z] at q h1
    exact lv_aloadN hx hb hd h1 q
  · rw [z] at q h1
    exact lv_aload hx hb hd h1 q
/-! stores -/
noncomputable def mz_lv (ad ao : Nat → Nat) (ρ : Nat → Int32) (L nL : Nat) : List (Nat × Value) := ((List.range nL).filter fun i => mz_df (mz_g L i)).map fun i => (i, mz_c ad ao ρ (mz_g L i))
theorem mz_lv_has {ad ao : Nat → Nat} {ρ : Nat → Int32} {nL : Nat} {ls : Array Slot} (h : mz_ls ad ao ρ n nL ls L) : lv_has ls nL (mz_lv ad ao ρ L nL) := by
  refine ⟨h.1, h.2.1, fun q hq => ?_⟩
  obtain ⟨i, hi, rfl⟩ := List.mem_map.mp hq
  exact h.2.2.1 i (List.mem_filter.mp hi).2
theorem mz_lv_in {ad ao : Nat → Nat} {ρ : Nat → Int32} {nL : Nat} {ls : Array Slot} (h : mz_ls ad ao ρ n nL ls L) {i : Nat} (hi : mz_df (mz_g L i) = true) : (i, mz_c ad ao ρ (mz_g L i)) ∈ mz_lv ad ao ρ L nL := by
  have h1 := lv_lt (h.2.2.1 i hi)
  rw [h.1] at h1
  exact List.mem_map.mpr ⟨i, List.mem_filter.mpr ⟨List.mem_range.mpr h1, hi⟩, rfl⟩
theorem mz_c2_cat {ad ao : Nat → Nat} {ρ : Nat → Int32} {w : Nat} (h : mz_c2 w = false) : (mz_c ad ao ρ w).category ≠ 2 := by
  have h3 : w % 16 ≠ 3 := fun z => by unfold mz_c2 at h; rw [show Nat.mod w 16 = 3 from z] at h; cases h
  have h5 : w % 16 ≠ 5 := fun z => by unfold mz_c2 at h; rw [show Nat.mod w 16 = 5 from z] at h; cases h
  have h8 : w % 16 ≠ 8 := fun z => by unfold mz_c2 at h; rw [show Nat.mod w 16 = 8 from z] at h; cases h
  by_cases h2 : w % 16 = 2
  · have e1 : mz_c ad ao ρ w = mz_r ad ao (w / 16) := by simp [mz_c, h2]
    rw [e1]
    rcases mz_r_or (ad := ad) (ao := ao) (w / 16) with z | ⟨a, z⟩ <;> rw [z] <;> simp [Value.category]
  · simp only [mz_c, h2, h3, h5, h8, if_false]
    repeat' split
    all_goals simp [Value.category]
/-- the place before holds no value of two words -/
noncomputable def mz_b4 (L i : Nat) : Bool := (mz_ci (Nat.beq i 0) (true) ((mz_ci (mz_c2 (mz_g L (Nat.sub i 1))) (false) (true))))
theorem mz_b4_ok {i : Nat} (h : mz_b4 L i = true) {j : Nat} (hj : j + 1 = i) : mz_c2 (mz_g L j) = false := by
  unfold mz_b4 at h
  cases h1 : Nat.beq i 0 with
  | true => exact absurd (mz_bq h1) (by omega)
  | false =>
    rw [h1] at h
    have e : Nat.sub i 1 = j := by show i - 1 = j; omega
    rw [e] at h
    cases h2 : mz_c2 (mz_g L j) with
    | true => rw [h2] at h; cases h
    | false => rfl
theorem mz_store1 {ad ao : Nat → Nat} {ρ : Nat → Int32} {nL i w : Nat} {ls ls' : Array Slot} (h : mz_ls ad ao ρ n nL ls L) (hv : w < mz_B) (hc : mz_cl n w = true) (h4 : mz_b4 L i = true)
    (h' : lv_has ls' nL ((i, mz_c ad ao ρ w) :: (mz_lv ad ao ρ L nL).filter (fun q => !(q.1 == i) && !(q.1 + 1 == i && q.2.category == 2)))) : mz_ls ad ao ρ n nL ls' (mz_p L i w) := by
  refine ⟨h'.1, h'.2.1, fun j hj => ?_, fun j => mz_gp_cl hv hc h.2.2.2⟩
  rw [mz_gp hv] at hj ⊢
  by_cases q : j = i
  · subst q
    rw [if_pos rfl]
    exact h'.2.2 _ List.mem_cons_self
  · rw [if_neg q] at hj ⊢
    refine h'.2.2 (j, mz_c ad ao ρ (mz_g L j)) (List.mem_cons_of_mem _ (List.mem_filter.mpr ⟨mz_lv_in h hj, ?_⟩))
    have e1 : (j == i) = false := by simpa using q
    show (!(j == i) && !(j + 1 == i && (mz_c ad ao ρ (mz_g L j)).category == 2)) = true
    rw [e1]
    by_cases q2 : j + 1 = i
    · have := mz_c2_cat (ad := ad) (ao := ao) (ρ := ρ) (mz_b4_ok h4 q2)
      simp [this]
    · simp [q2]
theorem mz_istore_n {j : Fin 4} {w : Nat} (C : mz_Cx X cc own Ts F) (hd : decode cc pc = .ok (.istore_n j, 1)) (hw : mz_I w = true) (hv : w < mz_B) (h4 : mz_b4 L j.val = true) (hn4 : j.val < mz_nL X) (k : mz_G X (pc + 1) (mz_p L j.val w) st M K n top nc ns) : mz_G X pc L (w :: st) M K n top nc ns := by
  obtain ⟨p, l, e, R, s, m, args, below, meth, c, nL, D, cA, ao, ρ, A, n0, ad0, Q⟩ := X
  obtain ⟨hx, hb, -⟩ := C
  intro ad ls H locs hn had hZ hl hst
  rw [List.map_cons, mz_cI hw]
  refine lv_istore_n hx hb hd rfl (mz_lv_has hl) hn4 rfl fun ls' h' => ?_
  rw [← mz_cI (ad := ad) (ao := ao) hw] at h'
  exact k ad ls' H locs hn had hZ (mz_store1 hl hv (mz_cl_I hw) h4 h') (List.forall_mem_cons.mp hst).2
end MZ1
