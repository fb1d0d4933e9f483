theorem mz_and31 : ∀ k : Fin 32, nI k.val &&& 31 = nI k.val := by decide +kernel
section MZ3
variable {X : mz_Xt} {cc : ByteArray} {own : String} {Ts : List Jvm.Cond} {F : Nat → Nat × Nat} {pc L M K n top nc ns : Nat} {st : List Nat}
/-- the variables' values -/
theorem mz_iadd {x y w : Nat} (C : mz_Cx X cc own Ts F) (hd : decode cc pc = .ok (.iadd, 1)) (hx : mz_I x = true) (hy : mz_I y = true) (hw : mz_I w = true) (he : mz_i (mz_rho X) w = mz_i (mz_rho X) x + mz_i (mz_rho X) y)
    (k : mz_G X (pc + 1) L (w :: st) M K n top nc ns) : mz_G X pc L (y :: x :: st) M K n top nc ns := by
  obtain ⟨p, l, e, R, s, m, args, below, meth, c, nL, D, cA, ao, ρ, A, n0, ad0, Q⟩ := X
  exact mz_bin (f := fun a b => a + b) hx hy hw he (fun ls H locs a b rest kk _ => lv_iadd C.1 C.2.1 hd (kk _ rfl)) k
theorem mz_isub {x y w : Nat} (C : mz_Cx X cc own Ts F) (hd : decode cc pc = .ok (.isub, 1)) (hx : mz_I x = true) (hy : mz_I y = true) (hw : mz_I w = true) (he : mz_i (mz_rho X) w = mz_i (mz_rho X) x - mz_i (mz_rho X) y)
    (k : mz_G X (pc + 1) L (w :: st) M K n top nc ns) : mz_G X pc L (y :: x :: st) M K n top nc ns := by
  obtain ⟨p, l, e, R, s, m, args, below, meth, c, nL, D, cA, ao, ρ, A, n0, ad0, Q⟩ := X
  exact mz_bin (f := fun a b => a - b) hx hy hw he (fun ls H locs a b rest kk _ => lv_isub C.1 C.2.1 hd (kk _ rfl)) k
theorem mz_imul {x y w : Nat} (C : mz_Cx X cc own Ts F) (hd : decode cc pc = .ok (.imul, 1)) (hx : mz_I x = true) (hy : mz_I y = true) (hw : mz_I w = true) (he : mz_i (mz_rho X) w = mz_i (mz_rho X) x * mz_i (mz_rho X) y)
    (k : mz_G X (pc + 1) L (w :: st) M K n top nc ns) : mz_G X pc L (y :: x :: st) M K n top nc ns := by
  obtain ⟨p, l, e, R, s, m, args, below, meth, c, nL, D, cA, ao, ρ, A, n0, ad0, Q⟩ := X
  exact mz_bin (f := fun a b => a * b) hx hy hw he (fun ls H locs a b rest kk _ => lv_imul C.1 C.2.1 hd (kk _ rfl)) k
theorem mz_idiv {x y w : Nat} (C : mz_Cx X cc own Ts F) (hd : decode cc pc = .ok (.idiv, 1)) (hx : mz_I x = true) (hy : mz_I y = true) (h0 : ¬ mz_i (mz_rho X) y = 0) (hw : mz_I w = true) (he : mz_i (mz_rho X) w = mz_i (mz_rho X) x / mz_i (mz_rho X) y)
    (k : mz_G X (pc + 1) L (w :: st) M K n top nc ns) : mz_G X pc L (y :: x :: st) M K n top nc ns := by
  obtain ⟨p, l, e, R, s, m, args, below, meth, c, nL, D, cA, ao, ρ, A, n0, ad0, Q⟩ := X
  exact mz_bin (f := fun a b => a / b) hx hy hw he (fun ls H locs a b rest kk hb => lv_idiv C.1 C.2.1 hd (by rw [← hb]; exact h0) (kk _ rfl)) k
theorem mz_irem {x y w : Nat} (C : mz_Cx X cc own Ts F) (hd : decode cc pc = .ok (.irem, 1)) (hx : mz_I x = true) (hy : mz_I y = true) (h0 : ¬ mz_i (mz_rho X) y = 0) (hw : mz_I w = true) (he : mz_i (mz_rho X) w = mz_i (mz_rho X) x - mz_i (mz_rho X) x / mz_i (mz_rho X) y * mz_i (mz_rho X) y)
    (k : mz_G X (pc + 1) L (w :: st) M K n top nc ns) : mz_G X pc L (y :: x :: st) M K n top nc ns := by
  obtain ⟨p, l, e, R, s, m, args, below, meth, c, nL, D, cA, ao, ρ, A, n0, ad0, Q⟩ := X
  exact mz_bin (f := fun a b => a - a / b * b) hx hy hw he (fun ls H locs a b rest kk hb => lv_irem C.1 C.2.1 hd (by rw [← hb]; exact h0) (kk _ rfl)) k
theorem mz_iand {x y w : Nat} (C : mz_Cx X cc own Ts F) (hd : decode cc pc = .ok (.iand, 1)) (hx : mz_I x = true) (hy : mz_I y = true) (hw : mz_I w = true) (he : mz_i (mz_rho X) w = (mz_i (mz_rho X) x &&& mz_i (mz_rho X) y))
    (k : mz_G X (pc + 1) L (w :: st) M K n top nc ns) : mz_G X pc L (y :: x :: st) M K n top nc ns := by
  obtain ⟨p, l, e, R, s, m, args, below, meth, c, nL, D, cA, ao, ρ, A, n0, ad0, Q⟩ := X
  exact mz_bin (f := fun a b => a &&& b) hx hy hw he (fun ls H locs a b rest kk _ => lv_iand C.1 C.2.1 hd (kk _ rfl)) k
theorem mz_ior {x y w : Nat} (C : mz_Cx X cc own Ts F) (hd : decode cc pc = .ok (.ior, 1)) (hx : mz_I x = true) (hy : mz_I y = true) (hw : mz_I w = true) (he : mz_i (mz_rho X) w = (mz_i (mz_rho X) x ||| mz_i (mz_rho X) y))
    (k : mz_G X (pc + 1) L (w :: st) M K n top nc ns) : mz_G X pc L (y :: x :: st) M K n top nc ns := by
  obtain ⟨p, l, e, R, s, m, args, below, meth, c, nL, D, cA, ao, ρ, A, n0, ad0, Q⟩ := X
  exact mz_bin (f := fun a b => a ||| b) hx hy hw he (fun ls H locs a b rest kk _ => lv_ior C.1 C.2.1 hd (kk _ rfl)) k
theorem mz_ishl {x y w : Nat} (C : mz_Cx X cc own Ts F) (hd : decode cc pc = .ok (.ishl, 1)) (hx : mz_I x = true) (hy : mz_I y = true) (hy2 : mz_i (mz_rho X) y &&& 31 = mz_i (mz_rho X) y) (hw : mz_I w = true) (he : mz_i (mz_rho X) w = mz_i (mz_rho X) x <<< mz_i (mz_rho X) y)
    (k : mz_G X (pc + 1) L (w :: st) M K n top nc ns) : mz_G X pc L (y :: x :: st) M K n top nc ns := by
  obtain ⟨p, l, e, R, s, m, args, below, meth, c, nL, D, cA, ao, ρ, A, n0, ad0, Q⟩ := X
  exact mz_bin (f := fun a b => a <<< b) hx hy hw he (fun ls H locs a b rest kk hb => lv_ishl C.1 C.2.1 hd (kk _ (by rw [← hb]; exact congrArg (fun z => a <<< z) hy2))) k
theorem mz_ishr {x y w : Nat} (C : mz_Cx X cc own Ts F) (hd : decode cc pc = .ok (.ishr, 1)) (hx : mz_I x = true) (hy : mz_I y = true) (hy2 : mz_i (mz_rho X) y &&& 31 = mz_i (mz_rho X) y) (hw : mz_I w = true) (he : mz_i (mz_rho X) w = mz_i (mz_rho X) x >>> mz_i (mz_rho X) y)
    (k : mz_G X (pc + 1) L (w :: st) M K n top nc ns) : mz_G X pc L (y :: x :: st) M K n top nc ns := by
  obtain ⟨p, l, e, R, s, m, args, below, meth, c, nL, D, cA, ao, ρ, A, n0, ad0, Q⟩ := X
  exact mz_bin (f := fun a b => a >>> b) hx hy hw he (fun ls H locs a b rest kk hb => lv_ishr C.1 C.2.1 hd (kk _ (by rw [← hb]; exact congrArg (fun z => a >>> z) hy2))) k
theorem mz_ineg {x w : Nat} (C : mz_Cx X cc own Ts F) (hd : decode cc pc = .ok (.ineg, 1)) (hx : mz_I x = true) (hw : mz_I w = true) (he : mz_i (mz_rho X) w = -mz_i (mz_rho X) x)
    (k : mz_G X (pc + 1) L (w :: st) M K n top nc ns) : mz_G X pc L (x :: st) M K n top nc ns := by
  obtain ⟨p, l, e, R, s, m, args, below, meth, c, nL, D, cA, ao, ρ, A, n0, ad0, Q⟩ := X
  dsimp only [mz_rho] at he
  intro ad ls H locs hn had hZ hl hst
  rw [List.map_cons, mz_cI hx]
  have q := k ad ls H locs hn had hZ hl (mz_hd (mz_cl_I hw) (List.forall_mem_cons.mp hst).2)
  rw [List.map_cons, mz_cI hw, he] at q
  exact lv_ineg C.1 C.2.1 hd q
theorem mz_i2c_ {x w : Nat} (C : mz_Cx X cc own Ts F) (hd : decode cc pc = .ok (.i2c, 1)) (hx : mz_I x = true) (hw : mz_I w = true) (he : mz_i (mz_rho X) w = ((mz_i (mz_rho X) x).toUInt32 % 65536).toInt32)
    (k : mz_G X (pc + 1) L (w :: st) M K n top nc ns) : mz_G X pc L (x :: st) M K n top nc ns := by
  obtain ⟨p, l, e, R, s, m, args, below, meth, c, nL, D, cA, ao, ρ, A, n0, ad0, Q⟩ := X
  dsimp only [mz_rho] at he
  intro ad ls H locs hn had hZ hl hst
  rw [List.map_cons, mz_cI hx]
  have q := k ad ls H locs hn had hZ hl (mz_hd (mz_cl_I hw) (List.forall_mem_cons.mp hst).2)
  rw [List.map_cons, mz_cI hw, he] at q
  exact lv_i2c C.1 C.2.1 hd rfl q
theorem mz_i2b_ {x w : Nat} (C : mz_Cx X cc own Ts F) (hd : decode cc pc = .ok (.i2b, 1)) (hx : mz_I x = true) (hw : mz_I w = true) (he : mz_i (mz_rho X) w = (mz_i (mz_rho X) x).toInt8.toInt32)
    (k : mz_G X (pc + 1) L (w :: st) M K n top nc ns) : mz_G X pc L (x :: st) M K n top nc ns := by
  obtain ⟨p, l, e, R, s, m, args, below, meth, c, nL, D, cA, ao, ρ, A, n0, ad0, Q⟩ := X
  dsimp only [mz_rho] at he
  intro ad ls H locs hn had hZ hl hst
  rw [List.map_cons, mz_cI hx]
  have q := k ad ls H locs hn had hZ hl (mz_hd (mz_cl_I hw) (List.forall_mem_cons.mp hst).2)
  rw [List.map_cons, mz_cI hw, he] at q
  exact lv_i2b C.1 C.2.1 hd rfl q
theorem mz_i2l_ {x w : Nat} (C : mz_Cx X cc own Ts F) (hd : decode cc pc = .ok (.i2l, 1)) (hx : mz_I x = true) (hw : mz_L w = true) (he : mz_l (mz_rho X) w = (mz_i (mz_rho X) x).toInt64)
    (k : mz_G X (pc + 1) L (w :: st) M K n top nc ns) : mz_G X pc L (x :: st) M K n top nc ns := by
  obtain ⟨p, l, e, R, s, m, args, below, meth, c, nL, D, cA, ao, ρ, A, n0, ad0, Q⟩ := X
  dsimp only [mz_rho] at he
  intro ad ls H locs hn had hZ hl hst
  rw [List.map_cons, mz_cI hx]
  have q := k ad ls H locs hn had hZ hl (mz_hd (mz_cl_L hw) (List.forall_mem_cons.mp hst).2)
  rw [List.map_cons, mz_cL hw, he] at q
  exact lv_i2l C.1 C.2.1 hd rfl q
theorem mz_ladd_ {x y w : Nat} (C : mz_Cx X cc own Ts F) (hd : decode cc pc = .ok (.ladd, 1)) (hx : mz_L x = true) (hy : mz_L y = true) (hw : mz_L w = true) (he : mz_l (mz_rho X) w = mz_l (mz_rho X) x + mz_l (mz_rho X) y)
    (k : mz_G X (pc + 1) L (w :: st) M K n top nc ns) : mz_G X pc L (y :: x :: st) M K n top nc ns := by
  obtain ⟨p, l, e, R, s, m, args, below, meth, c, nL, D, cA, ao, ρ, A, n0, ad0, Q⟩ := X
  dsimp only [mz_rho] at he
  intro ad ls H locs hn had hZ hl hst
  rw [List.map_cons, List.map_cons, mz_cL hx, mz_cL hy]
  have q := k ad ls H locs hn had hZ hl (mz_hd (mz_cl_L hw) (List.forall_mem_cons.mp (List.forall_mem_cons.mp hst).2).2)
  rw [List.map_cons, mz_cL hw, he] at q
  exact lv_ladd C.1 C.2.1 hd q
theorem mz_lcmp_ {x : Nat} (C : mz_Cx X cc own Ts F) (hd : decode cc pc = .ok (.lcmp, 1)) (hx : mz_L x = true)
    (k : mz_G X (pc + 1) L (mz_n 0 :: st) M K n top nc ns) : mz_G X pc L (x :: x :: st) M K n top nc ns := by
  obtain ⟨p, l, e, R, s, m, args, below, meth, c, nL, D, cA, ao, ρ, A, n0, ad0, Q⟩ := X
  intro ad ls H locs hn had hZ hl hst
  rw [List.map_cons, List.map_cons, mz_cL hx]
  have q := k ad ls H locs hn had hZ hl (mz_hd (mz_cl_I (mz_nw (ρ := ρ) 0).1) (List.forall_mem_cons.mp (List.forall_mem_cons.mp hst).2).2)
  rw [List.map_cons, mz_cI (mz_nw (ρ := ρ) 0).1, (mz_nw (ρ := ρ) 0).2] at q
  refine W.lcmp C.1 C.2.1 hd ?_
  have e1 : lg_cmp (mz_l ρ x) (mz_l ρ x) = nI 0 := by
    have h : ¬ mz_l ρ x < mz_l ρ x := Int64.lt_irrefl
    simp [lg_cmp, h]; rfl
  rw [e1]
  exact q
/-! branches -/
noncomputable def mz_holds (c : Jvm.ClassFile.Cond) (a b : Int32) : Prop := match c with
  | .eq => a = b
  | .ne => ¬ a = b
  | .lt => a < b
  | .ge => ¬ a < b
  | .gt => b < a
  | .le => ¬ b < a
noncomputable def mz_cmp {α : Type} (F : Nat → Nat × Nat) (c : Jvm.ClassFile.Cond) (x y : Nat) (k : Bool → Option α) : Option α := match c with
  | .eq => mz_eq F x y k
  | .ne => mz_eq F x y fun b => k (!b)
  | .lt => mz_lt F x y k
  | .ge => mz_lt F x y fun b => k (!b)
  | .gt => mz_lt F y x k
  | .le => mz_lt F y x fun b => k (!b)
theorem mz_cmp_ok {α : Type} {ρ : Nat → Int32} (hF : mz_F F ρ) {cd : Jvm.ClassFile.Cond} {x y : Nat} {k : Bool → Option α} {r : α} (h : mz_cmp F cd x y k = some r) :
    mz_I x = true ∧ mz_I y = true ∧ ∃ b, k b = some r ∧ (b = true ↔ mz_holds cd (mz_i ρ x) (mz_i ρ y)) := by
  have nb : ∀ {P : Prop} {b : Bool}, (b = true ↔ P) → ((!b) = true ↔ ¬ P) := fun {P b} hb => by
    cases b with
    | true => exact ⟨fun z => (by cases z), fun z => absurd (hb.mp rfl) z⟩
    | false => exact ⟨fun _ z => (by cases hb.mpr z), fun _ => rfl⟩
  cases cd with
  | eq => exact mz_eq_ok hF h
  | ne =>
    have h : mz_eq F x y (fun b => k (!b)) = some r := h
    obtain ⟨a1, a2, b, hb, hi⟩ := mz_eq_ok (k := fun b => k (!b)) hF h
    have hi2 : (!b) = true ↔ ¬ (mz_i ρ x = mz_i ρ y) := nb hi
    exact ⟨a1, a2, !b, hb, hi2⟩
  | lt => exact mz_lt_ok hF h
  | ge =>
    have h : mz_lt F x y (fun b => k (!b)) = some r := h
    obtain ⟨a1, a2, b, hb, hi⟩ := mz_lt_ok (k := fun b => k (!b)) hF h
    have hi2 : (!b) = true ↔ ¬ (mz_i ρ x < mz_i ρ y) := nb hi
    exact ⟨a1, a2, !b, hb, hi2⟩
  | gt => obtain ⟨a1, a2, b, hb, hi⟩ := mz_lt_ok hF h; exact ⟨a2, a1, b, hb, hi⟩
  | le =>
    have h : mz_lt F y x (fun b => k (!b)) = some r := h
    obtain ⟨a1, a2, b, hb, hi⟩ := mz_lt_ok (k := fun b => k (!b)) hF h
    have hi2 : (!b) = true ↔ ¬ (mz_i ρ y < mz_i ρ x) := nb hi
    exact ⟨a2, a1, !b, hb, hi2⟩
theorem mz_ge_iff {a b : Int32} : a ≥ b ↔ ¬ a < b := by
  have h1 : a ≥ b ↔ mz_b b ≤ mz_b a := mz_b_le
  rw [h1, mz_b_lt]; omega
theorem mz_le_iff {a b : Int32} : a ≤ b ↔ ¬ b < a := by rw [mz_b_le, mz_b_lt]; omega
theorem mz_icmp {cd : Jvm.ClassFile.Cond} {x y tgt : Nat} {off : Int} {b : Bool} (C : mz_Cx X cc own Ts F) (hd : decode cc pc = .ok (.if_icmp cd off, 3)) (ht : (pc : Int) + off = (tgt : Int)) (hx : mz_I x = true) (hy : mz_I y = true)
    (hb : b = true ↔ mz_holds cd (mz_i (mz_rho X) x) (mz_i (mz_rho X) y)) (k : mz_G X ((mz_ci (b) (tgt) (pc + 3))) L st M K n top nc ns) : mz_G X pc L (y :: x :: st) M K n top nc ns := by
  obtain ⟨p, l, e, R, s, m, args, below, meth, c, nL, D, cA, ao, ρ, A, n0, ad0, Q⟩ := X
  intro ad ls H locs hn had hZ hl hst
  rw [List.map_cons, List.map_cons, mz_cI hx, mz_cI hy]
  have q := k ad ls H locs hn had hZ hl (List.forall_mem_cons.mp (List.forall_mem_cons.mp hst).2).2
  have kt : mz_holds cd (mz_i ρ x) (mz_i ρ y) → W p l e R s m args below meth c H locs nc ns Q (F0 m tgt ls (st.map (mz_c ad ao ρ))) := fun z => by
    have e1 : b = true := hb.mpr z
    rw [e1] at q; exact q
  have kf : ¬ mz_holds cd (mz_i ρ x) (mz_i ρ y) → W p l e R s m args below meth c H locs nc ns Q (F0 m (pc + 3) ls (st.map (mz_c ad ao ρ))) := fun z => by
    have e1 : b = false := by
      cases b with
      | false => rfl
      | true => exact absurd (hb.mp rfl) z
    rw [e1] at q; exact q
  cases cd with
  | eq => exact lv_icmp_eq C.1 C.2.1 hd ht kt kf
  | ne => exact lv_icmp_ne C.1 C.2.1 hd ht kt (fun z => kf (fun u => u z))
  | lt => exact lv_icmp_lt C.1 C.2.1 hd ht kt kf
  | ge => exact lv_icmp_ge C.1 C.2.1 hd ht (fun z => kt (mz_ge_iff.mp z)) (fun z => kf (fun u => z (mz_ge_iff.mpr u)))
  | gt => exact lv_icmp_gt C.1 C.2.1 hd ht (fun z => kt z) (fun z => kf z)
  | le => exact lv_icmp_le C.1 C.2.1 hd ht (fun z => kt (mz_le_iff.mp z)) (fun z => kf (fun u => z (mz_le_iff.mpr u)))
theorem mz_ifc {cd : Jvm.ClassFile.Cond} {x tgt : Nat} {off : Int} {b : Bool} (C : mz_Cx X cc own Ts F) (hd : decode cc pc = .ok (.ifCond cd off, 3)) (ht : (pc : Int) + off = (tgt : Int)) (hx : mz_I x = true)
    (hb : b = true ↔ mz_holds cd (mz_i (mz_rho X) x) (mz_i (mz_rho X) (mz_n 0))) (k : mz_G X ((mz_ci (b) (tgt) (pc + 3))) L st M K n top nc ns) : mz_G X pc L (x :: st) M K n top nc ns := by
  obtain ⟨p, l, e, R, s, m, args, below, meth, c, nL, D, cA, ao, ρ, A, n0, ad0, Q⟩ := X
  intro ad ls H locs hn had hZ hl hst
  rw [List.map_cons, mz_cI hx]
  have q := k ad ls H locs hn had hZ hl (List.forall_mem_cons.mp hst).2
  have e0 : mz_i ρ (mz_n 0) = 0 := (mz_nw (ρ := ρ) 0).2
  have hb : b = true ↔ mz_holds cd (mz_i ρ x) 0 := by rw [← e0]; exact hb
  have kt : mz_holds cd (mz_i ρ x) 0 → W p l e R s m args below meth c H locs nc ns Q (F0 m tgt ls (st.map (mz_c ad ao ρ))) := fun z => by
    have e1 : b = true := hb.mpr z
    rw [e1] at q; exact q
  have kf : ¬ mz_holds cd (mz_i ρ x) 0 → W p l e R s m args below meth c H locs nc ns Q (F0 m (pc + 3) ls (st.map (mz_c ad ao ρ))) := fun z => by
    have e1 : b = false := by
      cases b with
      | false => rfl
      | true => exact absurd (hb.mp rfl) z
    rw [e1] at q; exact q
  cases cd with
  | eq => exact lv_if_eq C.1 C.2.1 hd ht kt kf
  | ne => exact lv_if_ne C.1 C.2.1 hd ht kt (fun z => kf (fun u => u z))
  | lt => exact lv_if_lt C.1 C.2.1 hd ht kt kf
  | ge => exact lv_if_ge C.1 C.2.1 hd ht (fun z => kt (mz_ge_iff.mp z)) (fun z => kf (fun u => z (mz_ge_iff.mpr u)))
  | gt => exact lv_if_gt C.1 C.2.1 hd ht (fun z => kt z) (fun z => kf z)
  | le => exact lv_if_le C.1 C.2.1 hd ht (fun z => kt (mz_le_iff.mp z)) (fun z => kf (fun u => z (mz_le_iff.mpr u)))
end MZ3
