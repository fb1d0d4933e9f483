section MZ4
variable {X : mz_Xt} {cc : ByteArray} {own : String} {Ts : List Jvm.Cond} {F : Nat → Nat × Nat} {pc L M K n top nc ns : Nat} {st : List Nat}
theorem mz_cRq {ad ao : Nat → Nat} {ρ : Nat → Int32} {w : Nat} (h : mz_R w = true) : mz_c ad ao ρ w = mz_r ad ao (mz_q w) := mz_cR h
noncomputable def mz_ro (ad ao : Nat → Nat) (q : Nat) : Option Nat := if q = 0 then none else if q ≤ 1048576 then some (ad (q - 1)) else some (ao (q - 1048577))
theorem mz_r_rf {ad ao : Nat → Nat} (q : Nat) : mz_r ad ao q = va_rf (mz_ro ad ao q) := by
  unfold mz_r mz_ro
  by_cases h0 : q = 0
  · rw [if_pos h0, if_pos h0]; rfl
  · rw [if_neg h0, if_neg h0]
    by_cases h1 : q ≤ 1048576
    · rw [if_pos h1, if_pos h1]; rfl
    · rw [if_neg h1, if_neg h1]; rfl
theorem mz_r_new {ad ao : Nat → Nat} {q : Nat} (h0 : q ≠ 0) (h1 : q ≤ 1048576) : mz_r ad ao q = .ref (ad (q - 1)) := by unfold mz_r; rw [if_neg h0, if_pos h1]
theorem mz_r_old {ad ao : Nat → Nat} {q : Nat} (h1 : ¬ q ≤ 1048576) : mz_r ad ao q = .ref (ao (q - 1048577)) := by unfold mz_r; rw [if_neg (by omega), if_neg h1]
theorem mz_goto {off : Int} {tgt : Nat} (C : mz_Cx X cc own Ts F) (hd : decode cc pc = .ok (.goto off, 3)) (ht : (pc : Int) + off = (tgt : Int)) (k : mz_G X tgt L st M K n top nc ns) : mz_G X pc L st M K n top nc ns := by
  obtain ⟨p, l, e, R, s, m, args, below, meth, c, nL, D, cA, ao, ρ, A, n0, ad0, Q⟩ := X
  intro ad ls H locs hn had hZ hl hst
  exact lv_goto C.1 C.2.1 hd ht (k ad ls H locs hn had hZ hl hst)
theorem mz_ifnull {off : Int} {x tgt : Nat} (C : mz_Cx X cc own Ts F) (hd : decode cc pc = .ok (.ifnull off, 3)) (ht : (pc : Int) + off = (tgt : Int)) (hx : mz_R x = true) (k : mz_G X ((mz_ci (Nat.beq (mz_q x) 0) (tgt) (pc + 3))) L st M K n top nc ns) : mz_G X pc L (x :: st) M K n top nc ns := by
  obtain ⟨p, l, e, R, s, m, args, below, meth, c, nL, D, cA, ao, ρ, A, n0, ad0, Q⟩ := X
  intro ad ls H locs hn had hZ hl hst
  have q := k ad ls H locs hn had hZ hl (List.forall_mem_cons.mp hst).2
  rw [List.map_cons, mz_cRq hx]
  cases h0 : Nat.beq (mz_q x) 0 with
  | true =>
    rw [h0] at q
    rw [show mz_r ad ao (mz_q x) = .null by unfold mz_r; rw [if_pos (mz_bq h0)]]
    exact lv_ifnullN C.1 C.2.1 hd ht q
  | false =>
    rw [h0] at q
    rcases mz_r_or (ad := ad) (ao := ao) (mz_q x) with z | ⟨a, z⟩
    · unfold mz_r at z
      rw [if_neg (mz_bn h0)] at z
      split at z <;> cases z
    · rw [z]; exact lv_ifnull C.1 C.2.1 hd q
theorem mz_ifnonnull {off : Int} {x tgt : Nat} (C : mz_Cx X cc own Ts F) (hd : decode cc pc = .ok (.ifnonnull off, 3)) (ht : (pc : Int) + off = (tgt : Int)) (hx : mz_R x = true) (k : mz_G X ((mz_ci (Nat.beq (mz_q x) 0) (pc + 3) (tgt))) L st M K n top nc ns) : mz_G X pc L (x :: st) M K n top nc ns := by
  obtain ⟨p, l, e, R, s, m, args, below, meth, c, nL, D, cA, ao, ρ, A, n0, ad0, Q⟩ := X
  intro ad ls H locs hn had hZ hl hst
  have q := k ad ls H locs hn had hZ hl (List.forall_mem_cons.mp hst).2
  rw [List.map_cons, mz_cRq hx]
  cases h0 : Nat.beq (mz_q x) 0 with
  | true =>
    rw [h0] at q
    rw [show mz_r ad ao (mz_q x) = .null by unfold mz_r; rw [if_pos (mz_bq h0)]]
    exact lv_ifnonnullN C.1 C.2.1 hd q
  | false =>
    rw [h0] at q
    rcases mz_r_or (ad := ad) (ao := ao) (mz_q x) with z | ⟨a, z⟩
    · unfold mz_r at z
      rw [if_neg (mz_bn h0)] at z
      split at z <;> cases z
    · rw [z]; exact lv_ifnonnull C.1 C.2.1 hd ht q
/-- whether two references are one -/
noncomputable def mz_same {α : Type} (n x y : Nat) (k : Bool → Option α) : Option α :=
  (mz_ci (mz_R x) ((mz_ci (mz_R y) ((mz_ci (Nat.beq (mz_q x) (mz_q y)) (k true) ((mz_ci (Nat.beq (mz_q x) 0) (k false) ((mz_ci (Nat.beq (mz_q y) 0) (k false) ((mz_ci (Nat.ble (mz_q x) n) ((mz_ci (Nat.ble (mz_q y) n) ((mz_ci (Nat.ble n 1048576) (k false) (none))) (none))) (none))))))))) (none))) (none))
theorem mz_same_ok {α : Type} {x y : Nat} {k : Bool → Option α} {r : α} (h : mz_same n x y k = some r) : mz_R x = true ∧ mz_R y = true ∧
    ∃ b, k b = some r ∧ ∀ (ad ao : Nat → Nat), (∀ i j, i < n → j < n → ad i = ad j → i = j) → (b = true ↔ mz_ro ad ao (mz_q x) = mz_ro ad ao (mz_q y)) := by
  obtain ⟨h1, h⟩ := mz_ift h
  obtain ⟨h2, h⟩ := mz_ift h
  refine ⟨h1, h2, ?_⟩
  rcases mz_if h with ⟨h3, h⟩ | ⟨h3, h⟩
  · exact ⟨true, h, fun ad ao _ => ⟨fun _ => by rw [mz_bq h3], fun _ => rfl⟩⟩
  · have n3 := mz_bn h3
    rcases mz_if h with ⟨h4, h⟩ | ⟨h4, h⟩
    · have q4 := mz_bq h4
      refine ⟨false, h, fun ad ao _ => ⟨fun z => (by cases z), fun z => ?_⟩⟩
      unfold mz_ro at z
      rw [if_pos q4, if_neg (by omega)] at z
      split at z <;> cases z
    · rcases mz_if h with ⟨h5, h⟩ | ⟨h5, h⟩
      · have q5 := mz_bq h5
        refine ⟨false, h, fun ad ao _ => ⟨fun z => (by cases z), fun z => ?_⟩⟩
        unfold mz_ro at z
        rw [if_pos q5, if_neg (by omega)] at z
        split at z <;> cases z
      · obtain ⟨h6, h⟩ := mz_ift h
        obtain ⟨h7, h⟩ := mz_ift h
        obtain ⟨h8, h⟩ := mz_ift h
        have n4 := mz_bn h4
        have n5 := mz_bn h5
        have q6 := mz_bl h6
        have q7 := mz_bl h7
        have q8 := mz_bl h8
        refine ⟨false, h, fun ad ao hi => ⟨fun z => (by cases z), fun z => ?_⟩⟩
        unfold mz_ro at z
        rw [if_neg n4, if_neg n5, if_pos (by omega), if_pos (by omega)] at z
        have := hi _ _ (by omega) (by omega) (Option.some.inj z)
        omega
theorem mz_inj {A : Nat → Prop} {cA : Nat → ClassId} {ad ao : Nat → Nat} {ρ : Nat → Int32} (hD : va_D A (mz_w cA ad ao ρ M K n)) : ∀ i j, i < n → j < n → ad i = ad j → i = j :=
  fun i j hi hj h => hD.1 i j _ _ (mz_w_at hi) (mz_w_at hj) h
theorem mz_acmp {cd : Jvm.ClassFile.ACond} {off : Int} {x y tgt : Nat} {b : Bool} (C : mz_Cx X cc own Ts F) (hd : decode cc pc = .ok (.if_acmp cd off, 3)) (ht : (pc : Int) + off = (tgt : Int)) (hx : mz_R x = true) (hy : mz_R y = true)
    (hb : ∀ (ad ao : Nat → Nat), (∀ i j, i < n → j < n → ad i = ad j → i = j) → (b = true ↔ mz_ro ad ao (mz_q x) = mz_ro ad ao (mz_q y)))
    (k : mz_G X (match cd with | .eq => (mz_ci (b) (tgt) (pc + 3)) | .ne => (mz_ci (b) (pc + 3) (tgt))) L st M K n top nc ns) : mz_G X pc L (y :: x :: st) M K n top nc ns := by
  obtain ⟨p, l, e, R, s, m, args, below, meth, c, nL, D, cA, ao, ρ, A, n0, ad0, Q⟩ := X
  intro ad ls H locs hn had hZ hl hst
  have q := k ad ls H locs hn had hZ hl (List.forall_mem_cons.mp (List.forall_mem_cons.mp hst).2).2
  have hb := hb ad ao (mz_inj hZ.2.1)
  rw [List.map_cons, List.map_cons, mz_cRq hx, mz_cRq hy, mz_r_rf, mz_r_rf]
  cases cd with
  | eq =>
    refine lv_acmp_eq C.1 C.2.1 hd ht (fun z => ?_) (fun z => ?_)
    · have e1 : b = true := hb.mpr z
      rw [e1] at q; exact q
    · have e1 : b = false := by
        cases b with
        | false => rfl
        | true => exact absurd (hb.mp rfl) z
      rw [e1] at q; exact q
  | ne =>
    refine lv_acmp_ne C.1 C.2.1 hd ht (fun z => ?_) (fun z => ?_)
    · have e1 : b = false := by
        cases b with
        | false => rfl
        | true => exact absurd (hb.mp rfl) z
      rw [e1] at q; exact q
    · have e1 : b = true := hb.mpr (by first | exact z | exact Decidable.not_not.mp z)
      rw [e1] at q; exact q
theorem mz_switchIn {df lo hi off : Int} {offs : Array Int} {len x tgt : Nat} (C : mz_Cx X cc own Ts F) (hd : decode cc pc = .ok (.tableswitch df lo hi offs, len)) (hx : mz_I x = true) (h1 : ¬ (mz_i (mz_rho X) x).toInt < lo) (h2 : ¬ hi < (mz_i (mz_rho X) x).toInt)
    (ho : offs[((mz_i (mz_rho X) x).toInt - lo).toNat]? = some off) (ht : (pc : Int) + off = (tgt : Int)) (k : mz_G X tgt L st M K n top nc ns) : mz_G X pc L (x :: st) M K n top nc ns := by
  obtain ⟨p, l, e, R, s, m, args, below, meth, c, nL, D, cA, ao, ρ, A, n0, ad0, Q⟩ := X
  intro ad ls H locs hn had hZ hl hst
  rw [List.map_cons, mz_cI hx]
  exact lv_tableIn C.1 C.2.1 hd h1 h2 ho ht (k ad ls H locs hn had hZ hl (List.forall_mem_cons.mp hst).2)
theorem mz_switchOut {df lo hi : Int} {offs : Array Int} {len x tgt : Nat} (C : mz_Cx X cc own Ts F) (hd : decode cc pc = .ok (.tableswitch df lo hi offs, len)) (hx : mz_I x = true) (h : (mz_i (mz_rho X) x).toInt < lo ∨ hi < (mz_i (mz_rho X) x).toInt)
    (ht : (pc : Int) + df = (tgt : Int)) (k : mz_G X tgt L st M K n top nc ns) : mz_G X pc L (x :: st) M K n top nc ns := by
  obtain ⟨p, l, e, R, s, m, args, below, meth, c, nL, D, cA, ao, ρ, A, n0, ad0, Q⟩ := X
  intro ad ls H locs hn had hZ hl hst
  rw [List.map_cons, mz_cI hx]
  exact lv_tableOut C.1 C.2.1 hd h ht (k ad ls H locs hn had hZ hl (List.forall_mem_cons.mp hst).2)
theorem mz_cat1 {ad ao : Nat → Nat} {ρ : Nat → Int32} {w : Nat} (h : mz_c2 w = false) : (mz_c ad ao ρ w).category = 1 := by
  rcases lv_cat (mz_c ad ao ρ w) with q | q
  · exact q
  · exact absurd q (mz_c2_cat h)
theorem mz_dup {x : Nat} (C : mz_Cx X cc own Ts F) (hd : decode cc pc = .ok (.dup, 1)) (hx : mz_c2 x = false) (k : mz_G X (pc + 1) L (x :: x :: st) M K n top nc ns) : mz_G X pc L (x :: st) M K n top nc ns := by
  obtain ⟨p, l, e, R, s, m, args, below, meth, c, nL, D, cA, ao, ρ, A, n0, ad0, Q⟩ := X
  intro ad ls H locs hn had hZ hl hst
  exact lv_dup C.1 C.2.1 hd (mz_cat1 hx) (k ad ls H locs hn had hZ hl (mz_hd (List.forall_mem_cons.mp hst).1 hst))
theorem mz_pop {x : Nat} (C : mz_Cx X cc own Ts F) (hd : decode cc pc = .ok (.pop, 1)) (hx : mz_c2 x = false) (k : mz_G X (pc + 1) L st M K n top nc ns) : mz_G X pc L (x :: st) M K n top nc ns := by
  obtain ⟨p, l, e, R, s, m, args, below, meth, c, nL, D, cA, ao, ρ, A, n0, ad0, Q⟩ := X
  intro ad ls H locs hn had hZ hl hst
  exact lv_pop C.1 C.2.1 hd (mz_cat1 hx) (k ad ls H locs hn had hZ hl (List.forall_mem_cons.mp hst).2)
theorem mz_dup_x1 {x y : Nat} (C : mz_Cx X cc own Ts F) (hd : decode cc pc = .ok (.dup_x1, 1)) (hx : mz_c2 x = false) (hy : mz_c2 y = false) (k : mz_G X (pc + 1) L (x :: y :: x :: st) M K n top nc ns) : mz_G X pc L (x :: y :: st) M K n top nc ns := by
  obtain ⟨p, l, e, R, s, m, args, below, meth, c, nL, D, cA, ao, ρ, A, n0, ad0, Q⟩ := X
  intro ad ls H locs hn had hZ hl hst
  obtain ⟨h1, h2⟩ := List.forall_mem_cons.mp hst
  obtain ⟨h3, h4⟩ := List.forall_mem_cons.mp h2
  exact lv_dup_x1 C.1 C.2.1 hd (mz_cat1 hx) (mz_cat1 hy) (k ad ls H locs hn had hZ hl (mz_hd h1 (mz_hd h3 (mz_hd h1 h4))))
theorem mz_dup2 {x y : Nat} (C : mz_Cx X cc own Ts F) (hd : decode cc pc = .ok (.dup2, 1)) (hx : mz_c2 x = false) (hy : mz_c2 y = false) (k : mz_G X (pc + 1) L (x :: y :: x :: y :: st) M K n top nc ns) : mz_G X pc L (x :: y :: st) M K n top nc ns := by
  obtain ⟨p, l, e, R, s, m, args, below, meth, c, nL, D, cA, ao, ρ, A, n0, ad0, Q⟩ := X
  intro ad ls H locs hn had hZ hl hst
  obtain ⟨h1, h2⟩ := List.forall_mem_cons.mp hst
  obtain ⟨h3, h4⟩ := List.forall_mem_cons.mp h2
  exact lv_dup2_11 C.1 C.2.1 hd (mz_cat1 hx) (mz_cat1 hy) (k ad ls H locs hn had hZ hl (mz_hd h1 (mz_hd h3 (mz_hd h1 (mz_hd h3 h4)))))
end MZ4
