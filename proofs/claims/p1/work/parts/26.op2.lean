/-! THE STEPS, 2 -/
noncomputable def mz_s_icmp_ge (F : Nat → Nat × Nat) (nL mo : Nat) (hs : List mz_Hr) (call : mz_Ca) (go : mz_Go) (e pc L : Nat) (st : List Nat) (M K n top nc ns : Nat) : Option mz_Rt :=
  mz_p1 st fun y l => mz_p1 l fun x l => mz_cmp F .ge x y fun b => go ((mz_ci (b) (mz_ex e) (Nat.add pc 3))) L l M K n top nc ns
noncomputable def mz_k_icmp_ge (own mn : String) (cc : ByteArray) (mo : Nat) (ret : Option FieldType) (e pc : Nat) : Bool := decide (decode cc pc = .ok (.if_icmp .ge (Int.ofNat (mz_ex e) - Int.ofNat pc), 3))
theorem mz_t_icmp_ge (mk : mz_Mk) : mz_Lk mk mz_s_icmp_ge mz_k_icmp_ge := by
  intro X own cc F nL mo d hs ret r call go e pc L st M K n top nc ns ⟨C, O, hnL, hR, hD, hE, hC, hG⟩ hk h
  have hd := of_decide_eq_true hk
  have hF : mz_F F (mz_rho X) := mz_CF C
  unfold mz_s_icmp_ge at h
  obtain ⟨y, l, rfl, hp⟩ := mz_p1_ok h
  obtain ⟨x, l, rfl, hq⟩ := mz_p1_ok hp
  have h := hq
  obtain ⟨a1, a2, b, h, a3⟩ := mz_cmp_ok hF h
  obtain ⟨g1, g2, g3⟩ := hG _ _ _ _ _ _ _ _ _ h
  exact ⟨g1, g2, mz_icmp C hd (mz_off _ _) a1 a2 a3 g3⟩
noncomputable def mz_s_ifc_ge (F : Nat → Nat × Nat) (nL mo : Nat) (hs : List mz_Hr) (call : mz_Ca) (go : mz_Go) (e pc L : Nat) (st : List Nat) (M K n top nc ns : Nat) : Option mz_Rt :=
  mz_p1 st fun x l => mz_cmp F .ge x 1 fun b => go ((mz_ci (b) (mz_ex e) (Nat.add pc 3))) L l M K n top nc ns
noncomputable def mz_k_ifc_ge (own mn : String) (cc : ByteArray) (mo : Nat) (ret : Option FieldType) (e pc : Nat) : Bool := decide (decode cc pc = .ok (.ifCond .ge (Int.ofNat (mz_ex e) - Int.ofNat pc), 3))
theorem mz_t_ifc_ge (mk : mz_Mk) : mz_Lk mk mz_s_ifc_ge mz_k_ifc_ge := by
  intro X own cc F nL mo d hs ret r call go e pc L st M K n top nc ns ⟨C, O, hnL, hR, hD, hE, hC, hG⟩ hk h
  have hd := of_decide_eq_true hk
  have hF : mz_F F (mz_rho X) := mz_CF C
  unfold mz_s_ifc_ge at h
  obtain ⟨x, l, rfl, hp⟩ := mz_p1_ok h
  have h := hp
  obtain ⟨a1, a2, b, h, a3⟩ := mz_cmp_ok hF h
  obtain ⟨g1, g2, g3⟩ := hG _ _ _ _ _ _ _ _ _ h
  exact ⟨g1, g2, mz_ifc C hd (mz_off _ _) a1 a3 g3⟩
noncomputable def mz_s_icmp_gt (F : Nat → Nat × Nat) (nL mo : Nat) (hs : List mz_Hr) (call : mz_Ca) (go : mz_Go) (e pc L : Nat) (st : List Nat) (M K n top nc ns : Nat) : Option mz_Rt :=
  mz_p1 st fun y l => mz_p1 l fun x l => mz_cmp F .gt x y fun b => go ((mz_ci (b) (mz_ex e) (Nat.add pc 3))) L l M K n top nc ns
noncomputable def mz_k_icmp_gt (own mn : String) (cc : ByteArray) (mo : Nat) (ret : Option FieldType) (e pc : Nat) : Bool := decide (decode cc pc = .ok (.if_icmp .gt (Int.ofNat (mz_ex e) - Int.ofNat pc), 3))
theorem mz_t_icmp_gt (mk : mz_Mk) : mz_Lk mk mz_s_icmp_gt mz_k_icmp_gt := by
  intro X own cc F nL mo d hs ret r call go e pc L st M K n top nc ns ⟨C, O, hnL, hR, hD, hE, hC, hG⟩ hk h
  have hd := of_decide_eq_true hk
  have hF : mz_F F (mz_rho X) := mz_CF C
  unfold mz_s_icmp_gt at h
  obtain ⟨y, l, rfl, hp⟩ := mz_p1_ok h
  obtain ⟨x, l, rfl, hq⟩ := mz_p1_ok hp
  have h := hq
  obtain ⟨a1, a2, b, h, a3⟩ := mz_cmp_ok hF h
  obtain ⟨g1, g2, g3⟩ := hG _ _ _ _ _ _ _ _ _ h
  exact ⟨g1, g2, mz_icmp C hd (mz_off _ _) a1 a2 a3 g3⟩
noncomputable def mz_s_ifc_gt (F : Nat → Nat × Nat) (nL mo : Nat) (hs : List mz_Hr) (call : mz_Ca) (go : mz_Go) (e pc L : Nat) (st : List Nat) (M K n top nc ns : Nat) : Option mz_Rt :=
  mz_p1 st fun x l => mz_cmp F .gt x 1 fun b => go ((mz_ci (b) (mz_ex e) (Nat.add pc 3))) L l M K n top nc ns
noncomputable def mz_k_ifc_gt (own mn : String) (cc : ByteArray) (mo : Nat) (ret : Option FieldType) (e pc : Nat) : Bool := decide (decode cc pc = .ok (.ifCond .gt (Int.ofNat (mz_ex e) - Int.ofNat pc), 3))
theorem mz_t_ifc_gt (mk : mz_Mk) : mz_Lk mk mz_s_ifc_gt mz_k_ifc_gt := by
  intro X own cc F nL mo d hs ret r call go e pc L st M K n top nc ns ⟨C, O, hnL, hR, hD, hE, hC, hG⟩ hk h
  have hd := of_decide_eq_true hk
  have hF : mz_F F (mz_rho X) := mz_CF C
  unfold mz_s_ifc_gt at h
  obtain ⟨x, l, rfl, hp⟩ := mz_p1_ok h
  have h := hp
  obtain ⟨a1, a2, b, h, a3⟩ := mz_cmp_ok hF h
  obtain ⟨g1, g2, g3⟩ := hG _ _ _ _ _ _ _ _ _ h
  exact ⟨g1, g2, mz_ifc C hd (mz_off _ _) a1 a3 g3⟩
noncomputable def mz_s_icmp_le (F : Nat → Nat × Nat) (nL mo : Nat) (hs : List mz_Hr) (call : mz_Ca) (go : mz_Go) (e pc L : Nat) (st : List Nat) (M K n top nc ns : Nat) : Option mz_Rt :=
  mz_p1 st fun y l => mz_p1 l fun x l => mz_cmp F .le x y fun b => go ((mz_ci (b) (mz_ex e) (Nat.add pc 3))) L l M K n top nc ns
noncomputable def mz_k_icmp_le (own mn : String) (cc : ByteArray) (mo : Nat) (ret : Option FieldType) (e pc : Nat) : Bool := decide (decode cc pc = .ok (.if_icmp .le (Int.ofNat (mz_ex e) - Int.ofNat pc), 3))
theorem mz_t_icmp_le (mk : mz_Mk) : mz_Lk mk mz_s_icmp_le mz_k_icmp_le := by
  intro X own cc F nL mo d hs ret r call go e pc L st M K n top nc ns ⟨C, O, hnL, hR, hD, hE, hC, hG⟩ hk h
  have hd := of_decide_eq_true hk
  have hF : mz_F F (mz_rho X) := mz_CF C
  unfold mz_s_icmp_le at h
  obtain ⟨y, l, rfl, hp⟩ := mz_p1_ok h
  obtain ⟨x, l, rfl, hq⟩ := mz_p1_ok hp
  have h := hq
  obtain ⟨a1, a2, b, h, a3⟩ := mz_cmp_ok hF h
  obtain ⟨g1, g2, g3⟩ := hG _ _ _ _ _ _ _ _ _ h
  exact ⟨g1, g2, mz_icmp C hd (mz_off _ _) a1 a2 a3 g3⟩
noncomputable def mz_s_ifc_le (F : Nat → Nat × Nat) (nL mo : Nat) (hs : List mz_Hr) (call : mz_Ca) (go : mz_Go) (e pc L : Nat) (st : List Nat) (M K n top nc ns : Nat) : Option mz_Rt :=
  mz_p1 st fun x l => mz_cmp F .le x 1 fun b => go ((mz_ci (b) (mz_ex e) (Nat.add pc 3))) L l M K n top nc ns
noncomputable def mz_k_ifc_le (own mn : String) (cc : ByteArray) (mo : Nat) (ret : Option FieldType) (e pc : Nat) : Bool := decide (decode cc pc = .ok (.ifCond .le (Int.ofNat (mz_ex e) - Int.ofNat pc), 3))
theorem mz_t_ifc_le (mk : mz_Mk) : mz_Lk mk mz_s_ifc_le mz_k_ifc_le := by
  intro X own cc F nL mo d hs ret r call go e pc L st M K n top nc ns ⟨C, O, hnL, hR, hD, hE, hC, hG⟩ hk h
  have hd := of_decide_eq_true hk
  have hF : mz_F F (mz_rho X) := mz_CF C
  unfold mz_s_ifc_le at h
  obtain ⟨x, l, rfl, hp⟩ := mz_p1_ok h
  have h := hp
  obtain ⟨a1, a2, b, h, a3⟩ := mz_cmp_ok hF h
  obtain ⟨g1, g2, g3⟩ := hG _ _ _ _ _ _ _ _ _ h
  exact ⟨g1, g2, mz_ifc C hd (mz_off _ _) a1 a3 g3⟩
noncomputable def mz_s_goto (F : Nat → Nat × Nat) (nL mo : Nat) (hs : List mz_Hr) (call : mz_Ca) (go : mz_Go) (e pc L : Nat) (st : List Nat) (M K n top nc ns : Nat) : Option mz_Rt :=
  go (mz_ex e) L st M K n top nc ns
noncomputable def mz_k_goto (own mn : String) (cc : ByteArray) (mo : Nat) (ret : Option FieldType) (e pc : Nat) : Bool := decide (decode cc pc = .ok (.goto (Int.ofNat (mz_ex e) - Int.ofNat pc), 3))
theorem mz_t_goto (mk : mz_Mk) : mz_Lk mk mz_s_goto mz_k_goto := by
  intro X own cc F nL mo d hs ret r call go e pc L st M K n top nc ns ⟨C, O, hnL, hR, hD, hE, hC, hG⟩ hk h
  have hd := of_decide_eq_true hk
  unfold mz_s_goto at h
  obtain ⟨g1, g2, g3⟩ := hG _ _ _ _ _ _ _ _ _ h
  exact ⟨g1, g2, mz_goto C hd (mz_off _ _) g3⟩
noncomputable def mz_s_ifnull (F : Nat → Nat × Nat) (nL mo : Nat) (hs : List mz_Hr) (call : mz_Ca) (go : mz_Go) (e pc L : Nat) (st : List Nat) (M K n top nc ns : Nat) : Option mz_Rt :=
  mz_p1 st fun x l => (mz_ci (mz_R x) (go ((mz_ci (Nat.beq (mz_q x) 0) (mz_ex e) (Nat.add pc 3))) L l M K n top nc ns) (none))
noncomputable def mz_k_ifnull (own mn : String) (cc : ByteArray) (mo : Nat) (ret : Option FieldType) (e pc : Nat) : Bool := decide (decode cc pc = .ok (.ifnull (Int.ofNat (mz_ex e) - Int.ofNat pc), 3))
theorem mz_t_ifnull (mk : mz_Mk) : mz_Lk mk mz_s_ifnull mz_k_ifnull := by
  intro X own cc F nL mo d hs ret r call go e pc L st M K n top nc ns ⟨C, O, hnL, hR, hD, hE, hC, hG⟩ hk h
  have hd := of_decide_eq_true hk
  unfold mz_s_ifnull at h
  obtain ⟨x, l, rfl, hp⟩ := mz_p1_ok h
  have h := hp
  obtain ⟨a1, h⟩ := mz_ift h
  obtain ⟨g1, g2, g3⟩ := hG _ _ _ _ _ _ _ _ _ h
  exact ⟨g1, g2, mz_ifnull C hd (mz_off _ _) a1 g3⟩
noncomputable def mz_s_ifnonnull (F : Nat → Nat × Nat) (nL mo : Nat) (hs : List mz_Hr) (call : mz_Ca) (go : mz_Go) (e pc L : Nat) (st : List Nat) (M K n top nc ns : Nat) : Option mz_Rt :=
  mz_p1 st fun x l => (mz_ci (mz_R x) (go ((mz_ci (Nat.beq (mz_q x) 0) (Nat.add pc 3) (mz_ex e))) L l M K n top nc ns) (none))
noncomputable def mz_k_ifnonnull (own mn : String) (cc : ByteArray) (mo : Nat) (ret : Option FieldType) (e pc : Nat) : Bool := decide (decode cc pc = .ok (.ifnonnull (Int.ofNat (mz_ex e) - Int.ofNat pc), 3))
theorem mz_t_ifnonnull (mk : mz_Mk) : mz_Lk mk mz_s_ifnonnull mz_k_ifnonnull := by
  intro X own cc F nL mo d hs ret r call go e pc L st M K n top nc ns ⟨C, O, hnL, hR, hD, hE, hC, hG⟩ hk h
  have hd := of_decide_eq_true hk
  unfold mz_s_ifnonnull at h
  obtain ⟨x, l, rfl, hp⟩ := mz_p1_ok h
  have h := hp
  obtain ⟨a1, h⟩ := mz_ift h
  obtain ⟨g1, g2, g3⟩ := hG _ _ _ _ _ _ _ _ _ h
  exact ⟨g1, g2, mz_ifnonnull C hd (mz_off _ _) a1 g3⟩
noncomputable def mz_s_acmp_eq (F : Nat → Nat × Nat) (nL mo : Nat) (hs : List mz_Hr) (call : mz_Ca) (go : mz_Go) (e pc L : Nat) (st : List Nat) (M K n top nc ns : Nat) : Option mz_Rt :=
  mz_p1 st fun y l => mz_p1 l fun x l => mz_same n x y fun b => go ((mz_ci (b) (mz_ex e) (Nat.add pc 3))) L l M K n top nc ns
noncomputable def mz_k_acmp_eq (own mn : String) (cc : ByteArray) (mo : Nat) (ret : Option FieldType) (e pc : Nat) : Bool := decide (decode cc pc = .ok (.if_acmp .eq (Int.ofNat (mz_ex e) - Int.ofNat pc), 3))
theorem mz_t_acmp_eq (mk : mz_Mk) : mz_Lk mk mz_s_acmp_eq mz_k_acmp_eq := by
  intro X own cc F nL mo d hs ret r call go e pc L st M K n top nc ns ⟨C, O, hnL, hR, hD, hE, hC, hG⟩ hk h
  have hd := of_decide_eq_true hk
  unfold mz_s_acmp_eq at h
  obtain ⟨y, l, rfl, hp⟩ := mz_p1_ok h
  obtain ⟨x, l, rfl, hq⟩ := mz_p1_ok hp
  have h := hq
  obtain ⟨a1, a2, b, h, a3⟩ := mz_same_ok h
  obtain ⟨g1, g2, g3⟩ := hG _ _ _ _ _ _ _ _ _ h
  exact ⟨g1, g2, mz_acmp (b := b) C hd (mz_off _ _) a1 a2 a3 g3⟩
noncomputable def mz_s_acmp_ne (F : Nat → Nat × Nat) (nL mo : Nat) (hs : List mz_Hr) (call : mz_Ca) (go : mz_Go) (e pc L : Nat) (st : List Nat) (M K n top nc ns : Nat) : Option mz_Rt :=
  mz_p1 st fun y l => mz_p1 l fun x l => mz_same n x y fun b => go ((mz_ci (b) (Nat.add pc 3) (mz_ex e))) L l M K n top nc ns
noncomputable def mz_k_acmp_ne (own mn : String) (cc : ByteArray) (mo : Nat) (ret : Option FieldType) (e pc : Nat) : Bool := decide (decode cc pc = .ok (.if_acmp .ne (Int.ofNat (mz_ex e) - Int.ofNat pc), 3))
theorem mz_t_acmp_ne (mk : mz_Mk) : mz_Lk mk mz_s_acmp_ne mz_k_acmp_ne := by
  intro X own cc F nL mo d hs ret r call go e pc L st M K n top nc ns ⟨C, O, hnL, hR, hD, hE, hC, hG⟩ hk h
  have hd := of_decide_eq_true hk
  unfold mz_s_acmp_ne at h
  obtain ⟨y, l, rfl, hp⟩ := mz_p1_ok h
  obtain ⟨x, l, rfl, hq⟩ := mz_p1_ok hp
  have h := hq
  obtain ⟨a1, a2, b, h, a3⟩ := mz_same_ok h
  obtain ⟨g1, g2, g3⟩ := hG _ _ _ _ _ _ _ _ _ h
  exact ⟨g1, g2, mz_acmp (b := b) C hd (mz_off _ _) a1 a2 a3 g3⟩
noncomputable def mz_s_dup (F : Nat → Nat × Nat) (nL mo : Nat) (hs : List mz_Hr) (call : mz_Ca) (go : mz_Go) (e pc L : Nat) (st : List Nat) (M K n top nc ns : Nat) : Option mz_Rt :=
  mz_p1 st fun x l => (mz_ci (mz_c2 x) (none) (go (Nat.succ pc) L (x :: x :: l) M K n top nc ns))
noncomputable def mz_k_dup (own mn : String) (cc : ByteArray) (mo : Nat) (ret : Option FieldType) (e pc : Nat) : Bool := decide (decode cc pc = .ok (.dup, 1))
theorem mz_t_dup (mk : mz_Mk) : mz_Lk mk mz_s_dup mz_k_dup := by
  intro X own cc F nL mo d hs ret r call go e pc L st M K n top nc ns ⟨C, O, hnL, hR, hD, hE, hC, hG⟩ hk h
  have hd := of_decide_eq_true hk
  unfold mz_s_dup at h
  obtain ⟨x, l, rfl, hp⟩ := mz_p1_ok h
  have h := hp
  obtain ⟨a1, h⟩ := mz_iff h
  obtain ⟨g1, g2, g3⟩ := hG _ _ _ _ _ _ _ _ _ h
  exact ⟨g1, g2, mz_dup C hd a1 g3⟩
noncomputable def mz_s_pop (F : Nat → Nat × Nat) (nL mo : Nat) (hs : List mz_Hr) (call : mz_Ca) (go : mz_Go) (e pc L : Nat) (st : List Nat) (M K n top nc ns : Nat) : Option mz_Rt :=
  mz_p1 st fun x l => (mz_ci (mz_c2 x) (none) (go (Nat.succ pc) L l M K n top nc ns))
noncomputable def mz_k_pop (own mn : String) (cc : ByteArray) (mo : Nat) (ret : Option FieldType) (e pc : Nat) : Bool := decide (decode cc pc = .ok (.pop, 1))
theorem mz_t_pop (mk : mz_Mk) : mz_Lk mk mz_s_pop mz_k_pop := by
  intro X own cc F nL mo d hs ret r call go e pc L st M K n top nc ns ⟨C, O, hnL, hR, hD, hE, hC, hG⟩ hk h
  have hd := of_decide_eq_true hk
  unfold mz_s_pop at h
  obtain ⟨x, l, rfl, hp⟩ := mz_p1_ok h
  have h := hp
  obtain ⟨a1, h⟩ := mz_iff h
  obtain ⟨g1, g2, g3⟩ := hG _ _ _ _ _ _ _ _ _ h
  exact ⟨g1, g2, mz_pop C hd a1 g3⟩
noncomputable def mz_s_dup_x1 (F : Nat → Nat × Nat) (nL mo : Nat) (hs : List mz_Hr) (call : mz_Ca) (go : mz_Go) (e pc L : Nat) (st : List Nat) (M K n top nc ns : Nat) : Option mz_Rt :=
  mz_p1 st fun x l => mz_p1 l fun y l => (mz_ci (mz_c2 x) (none) ((mz_ci (mz_c2 y) (none) (go (Nat.succ pc) L (x :: y :: x :: l) M K n top nc ns))))
noncomputable def mz_k_dup_x1 (own mn : String) (cc : ByteArray) (mo : Nat) (ret : Option FieldType) (e pc : Nat) : Bool := decide (decode cc pc = .ok (.dup_x1, 1))
theorem mz_t_dup_x1 (mk : mz_Mk) : mz_Lk mk mz_s_dup_x1 mz_k_dup_x1 := by
  intro X own cc F nL mo d hs ret r call go e pc L st M K n top nc ns ⟨C, O, hnL, hR, hD, hE, hC, hG⟩ hk h
  have hd := of_decide_eq_true hk
  unfold mz_s_dup_x1 at h
  obtain ⟨x, l, rfl, hp⟩ := mz_p1_ok h
  obtain ⟨y, l, rfl, hq⟩ := mz_p1_ok hp
  have h := hq
  obtain ⟨a1, h⟩ := mz_iff h
  obtain ⟨a2, h⟩ := mz_iff h
  obtain ⟨g1, g2, g3⟩ := hG _ _ _ _ _ _ _ _ _ h
  exact ⟨g1, g2, mz_dup_x1 C hd a1 a2 g3⟩
noncomputable def mz_s_dup2 (F : Nat → Nat × Nat) (nL mo : Nat) (hs : List mz_Hr) (call : mz_Ca) (go : mz_Go) (e pc L : Nat) (st : List Nat) (M K n top nc ns : Nat) : Option mz_Rt :=
  mz_p1 st fun x l => mz_p1 l fun y l => (mz_ci (mz_c2 x) (none) ((mz_ci (mz_c2 y) (none) (go (Nat.succ pc) L (x :: y :: x :: y :: l) M K n top nc ns))))
noncomputable def mz_k_dup2 (own mn : String) (cc : ByteArray) (mo : Nat) (ret : Option FieldType) (e pc : Nat) : Bool := decide (decode cc pc = .ok (.dup2, 1))
theorem mz_t_dup2 (mk : mz_Mk) : mz_Lk mk mz_s_dup2 mz_k_dup2 := by
  intro X own cc F nL mo d hs ret r call go e pc L st M K n top nc ns ⟨C, O, hnL, hR, hD, hE, hC, hG⟩ hk h
  have hd := of_decide_eq_true hk
  unfold mz_s_dup2 at h
  obtain ⟨x, l, rfl, hp⟩ := mz_p1_ok h
  obtain ⟨y, l, rfl, hq⟩ := mz_p1_ok hp
  have h := hq
  obtain ⟨a1, h⟩ := mz_iff h
  obtain ⟨a2, h⟩ := mz_iff h
  obtain ⟨g1, g2, g3⟩ := hG _ _ _ _ _ _ _ _ _ h
  exact ⟨g1, g2, mz_dup2 C hd a1 a2 g3⟩
noncomputable def mz_s_getf (F : Nat → Nat × Nat) (nL mo : Nat) (hs : List mz_Hr) (call : mz_Ca) (go : mz_Go) (e pc L : Nat) (st : List Nat) (M K n top nc ns : Nat) : Option mz_Rt :=
  mz_p1 st fun x l => (mz_ci (mz_ref n x) (mz_f (mz_g K (mz_k x)) fun kd => (mz_ci (Nat.beq (Nat.mod kd 256) (Nat.mod (mz_ey e) 64)) ((mz_ci (Nat.ble (Nat.succ (Nat.div (mz_ey e) 64)) (Nat.mod (Nat.div kd 256) 65536)) (mz_f (mz_g M (Nat.add (Nat.div kd 16777216) (Nat.div (mz_ey e) 64))) fun w => go (Nat.add pc 3) L (w :: l) M K n top nc ns) (none))) (none))) (none))
noncomputable def mz_k_getf (own mn : String) (cc : ByteArray) (mo : Nat) (ret : Option FieldType) (e pc : Nat) : Bool := (vwCl[Nat.mod (mz_ey e) 64]?).elim false fun q => decide (decode cc pc = .ok (.getfield (mz_ex e), 3) ∧ Nat.div (mz_ey e) 64 < q.2.2 ∧ (mz_wi (Nat.mod (mz_ez e) 4096) (.fieldLink own (mz_ex e) (q.2.1 (Nat.div (mz_ey e) 64)).1 (q.2.1 (Nat.div (mz_ey e) 64)).2.1 (q.2.1 (Nat.div (mz_ey e) 64)).2.2.1) ∨ (mz_wi (Nat.mod (mz_ez e) 4096) (.fieldLink own (mz_ex e) "java/util/ArrayList" (q.2.1 (Nat.div (mz_ey e) 64)).2.1 (q.2.1 (Nat.div (mz_ey e) 64)).2.2.1) ∧ Jvm.Cond.sameField "java/util/ArrayList" (q.2.1 (Nat.div (mz_ey e) 64)).1 (q.2.1 (Nat.div (mz_ey e) 64)).2.1 (q.2.1 (Nat.div (mz_ey e) 64)).2.2.1 ∈ mz_gG)))
theorem mz_t_getf (mk : mz_Mk) : mz_Lk mk mz_s_getf mz_k_getf := by
  intro X own cc F nL mo d hs ret r call go e pc L st M K n top nc ns ⟨C, O, hnL, hR, hD, hE, hC, hG⟩ hk h
  obtain ⟨⟨C0, T, N⟩, hc, hk⟩ := mz_elim hk
  obtain ⟨f1, f2, f3⟩ := mz_clf _ _ hc
  have hci : Nat.mod (mz_ey e) 64 < 64 := Nat.mod_lt _ (by decide)
  obtain ⟨hd, hf, hw⟩ := of_decide_eq_true hk
  unfold mz_s_getf at h
  obtain ⟨x, l, rfl, hp⟩ := mz_p1_ok h
  have h := hp
  obtain ⟨a1, h⟩ := mz_ift h
  rw [mz_f_eq] at h
  obtain ⟨a2, h⟩ := mz_ift h
  obtain ⟨a3, h⟩ := mz_ift h
  rw [mz_f_eq] at h
  obtain ⟨g1, g2, g3⟩ := hG _ _ _ _ _ _ _ _ _ h
  rcases hw with hw | ⟨hw, hw2⟩
  · exact ⟨g1, g2, mz_getf C hd hc f1 hf hci (mz_bfg C (mz_wi_ok hw)) (Or.inl rfl) a1 (mz_bq a2) (mz_bl a3) g3⟩
  · exact ⟨g1, g2, mz_getf C hd hc f1 hf hci (mz_bfg C (mz_wi_ok hw)) (Or.inr (mz_bfg C hw2)) a1 (mz_bq a2) (mz_bl a3) g3⟩
noncomputable def mz_s_getn (F : Nat → Nat × Nat) (nL mo : Nat) (hs : List mz_Hr) (call : mz_Ca) (go : mz_Go) (e pc L : Nat) (st : List Nat) (M K n top nc ns : Nat) : Option mz_Rt :=
  mz_p1 st fun x l => (mz_ci (mz_ref n x) (mz_f (mz_g K (mz_k x)) fun kd => (mz_ci (Nat.beq (Nat.mod kd 256) (Nat.mod (mz_ey e) 64)) ((mz_ci (Nat.ble (Nat.succ (Nat.div (mz_ey e) 64)) (Nat.mod (Nat.div kd 256) 65536)) (mz_f (mz_g M (Nat.add (Nat.div kd 16777216) (Nat.div (mz_ey e) 64))) fun w => go (Nat.add pc 3) L (w :: l) M K n top nc ns) (none))) (none))) (none))
noncomputable def mz_k_getn (own mn : String) (cc : ByteArray) (mo : Nat) (ret : Option FieldType) (e pc : Nat) : Bool := (vwCl[Nat.mod (mz_ey e) 64]?).elim false fun q => decide (decode cc pc = .ok (.getfield (mz_ex e), 3) ∧ Nat.div (mz_ey e) 64 < q.2.2 ∧ (lw_tbl[Nat.mod (mz_ez e) 4096]? = some (.fieldLinkNest own (mz_ex e) (q.2.1 (Nat.div (mz_ey e) 64)).1 (q.2.1 (Nat.div (mz_ey e) 64)).2.1 (q.2.1 (Nat.div (mz_ey e) 64)).2.2.1 "HundredwardModel") ∨ lw_tbl[Nat.mod (mz_ez e) 4096]? = some (.fieldLinkNest own (mz_ex e) (q.2.1 (Nat.div (mz_ey e) 64)).1 (q.2.1 (Nat.div (mz_ey e) 64)).2.1 (q.2.1 (Nat.div (mz_ey e) 64)).2.2.1 "java/util/ArrayList") ∨ lw_tbl[Nat.mod (mz_ez e) 4096]? = some (.fieldLinkNest own (mz_ex e) (q.2.1 (Nat.div (mz_ey e) 64)).1 (q.2.1 (Nat.div (mz_ey e) 64)).2.1 (q.2.1 (Nat.div (mz_ey e) 64)).2.2.1 "Hundredward")))
theorem mz_t_getn (mk : mz_Mk) : mz_Lk mk mz_s_getn mz_k_getn := by
  intro X own cc F nL mo d hs ret r call go e pc L st M K n top nc ns ⟨C, O, hnL, hR, hD, hE, hC, hG⟩ hk h
  obtain ⟨⟨C0, T, N⟩, hc, hk⟩ := mz_elim hk
  obtain ⟨f1, f2, f3⟩ := mz_clf _ _ hc
  have hci : Nat.mod (mz_ey e) 64 < 64 := Nat.mod_lt _ (by decide)
  obtain ⟨hd, hf, hw⟩ := of_decide_eq_true hk
  unfold mz_s_getn at h
  obtain ⟨x, l, rfl, hp⟩ := mz_p1_ok h
  have h := hp
  obtain ⟨a1, h⟩ := mz_ift h
  rw [mz_f_eq] at h
  obtain ⟨a2, h⟩ := mz_ift h
  obtain ⟨a3, h⟩ := mz_ift h
  rw [mz_f_eq] at h
  obtain ⟨g1, g2, g3⟩ := hG _ _ _ _ _ _ _ _ _ h
  rcases hw with hw | hw | hw
  · exact ⟨g1, g2, mz_getfN C hd hc f1 hf hci (mz_bfn O (List.mem_of_getElem? hw) rfl) a1 (mz_bq a2) (mz_bl a3) g3⟩
  · exact ⟨g1, g2, mz_getfN C hd hc f1 hf hci (mz_bfn O (List.mem_of_getElem? hw) rfl) a1 (mz_bq a2) (mz_bl a3) g3⟩
  · exact ⟨g1, g2, mz_getfN C hd hc f1 hf hci (mz_bfn O (List.mem_of_getElem? hw) rfl) a1 (mz_bq a2) (mz_bl a3) g3⟩
noncomputable def mz_s_putf (F : Nat → Nat × Nat) (nL mo : Nat) (hs : List mz_Hr) (call : mz_Ca) (go : mz_Go) (e pc L : Nat) (st : List Nat) (M K n top nc ns : Nat) : Option mz_Rt :=
  mz_p1 st fun v l => mz_p1 l fun x l => (mz_ci (mz_ref n x) (mz_f (mz_g K (mz_k x)) fun kd => (mz_ci (Nat.beq (Nat.mod kd 256) (Nat.mod (mz_ey e) 64)) ((mz_ci (Nat.ble (Nat.succ (Nat.div (mz_ey e) 64)) (Nat.mod (Nat.div kd 256) 65536)) ((mz_ci (mz_fk (Nat.div (mz_ez e) 4096) v) ((mz_ci (mz_wf v) (mz_f (mz_p M (Nat.add (Nat.div kd 16777216) (Nat.div (mz_ey e) 64)) v) fun M => go (Nat.add pc 3) L l M K n top nc ns) (none))) (none))) (none))) (none))) (none))
noncomputable def mz_k_putf (own mn : String) (cc : ByteArray) (mo : Nat) (ret : Option FieldType) (e pc : Nat) : Bool := (vwCl[Nat.mod (mz_ey e) 64]?).elim false fun q => decide (decode cc pc = .ok (.putfield (mz_ex e), 3) ∧ Nat.div (mz_ey e) 64 < q.2.2 ∧ mz_fkt (Nat.div (mz_ez e) 4096) (mz_tyc (Nat.mod (mz_ey e) 64) (Nat.div (mz_ey e) 64)) = true ∧ ((q.2.1 (Nat.div (mz_ey e) 64)).2.2.2 = false ∨ ((q.2.1 (Nat.div (mz_ey e) 64)).2.2.2 = true ∧ mn = "<init>" ∧ (q.2.1 (Nat.div (mz_ey e) 64)).1 = own)) ∧ (mz_wi (Nat.mod (mz_ez e) 4096) (.fieldLink own (mz_ex e) (q.2.1 (Nat.div (mz_ey e) 64)).1 (q.2.1 (Nat.div (mz_ey e) 64)).2.1 (q.2.1 (Nat.div (mz_ey e) 64)).2.2.1) ∨ (mz_wi (Nat.mod (mz_ez e) 4096) (.fieldLink own (mz_ex e) "java/util/ArrayList" (q.2.1 (Nat.div (mz_ey e) 64)).2.1 (q.2.1 (Nat.div (mz_ey e) 64)).2.2.1) ∧ Jvm.Cond.sameField "java/util/ArrayList" (q.2.1 (Nat.div (mz_ey e) 64)).1 (q.2.1 (Nat.div (mz_ey e) 64)).2.1 (q.2.1 (Nat.div (mz_ey e) 64)).2.2.1 ∈ mz_gG)))
theorem mz_t_putf (mk : mz_Mk) : mz_Lk mk mz_s_putf mz_k_putf := by
  intro X own cc F nL mo d hs ret r call go e pc L st M K n top nc ns ⟨C, O, hnL, hR, hD, hE, hC, hG⟩ hk h
  obtain ⟨⟨C0, T, N⟩, hc, hk⟩ := mz_elim hk
  obtain ⟨f1, f2, f3⟩ := mz_clf _ _ hc
  have hci : Nat.mod (mz_ey e) 64 < 64 := Nat.mod_lt _ (by decide)
  obtain ⟨hd, hf, hft, hfin, hw⟩ := of_decide_eq_true hk
  unfold mz_s_putf at h
  obtain ⟨v, l, rfl, hp⟩ := mz_p1_ok h
  obtain ⟨x, l, rfl, hq⟩ := mz_p1_ok hp
  have h := hq
  obtain ⟨a1, h⟩ := mz_ift h
  rw [mz_f_eq] at h
  obtain ⟨a2, h⟩ := mz_ift h
  obtain ⟨a3, h⟩ := mz_ift h
  obtain ⟨a4, h⟩ := mz_ift h
  obtain ⟨a5, h⟩ := mz_ift h
  rw [mz_f_eq] at h
  obtain ⟨g1, g2, g3⟩ := hG _ _ _ _ _ _ _ _ _ h
  rcases hw with hw | ⟨hw, hw2⟩
  · exact ⟨g1, g2, mz_putf C hd hc f1 hf hci f2 f3 (mz_bfg C (mz_wi_ok hw)) (Or.inl rfl) hfin a1 (mz_bq a2) (mz_bl a3) (mz_fk_ok hft a4) (mz_wf_ok a5) g3⟩
  · exact ⟨g1, g2, mz_putf C hd hc f1 hf hci f2 f3 (mz_bfg C (mz_wi_ok hw)) (Or.inr (mz_bfg C hw2)) hfin a1 (mz_bq a2) (mz_bl a3) (mz_fk_ok hft a4) (mz_wf_ok a5) g3⟩
noncomputable def mz_s_getE (F : Nat → Nat × Nat) (nL mo : Nat) (hs : List mz_Hr) (call : mz_Ca) (go : mz_Go) (e pc L : Nat) (st : List Nat) (M K n top nc ns : Nat) : Option mz_Rt :=
  mz_f (mz_ow 0) fun w => go (Nat.add pc 3) L (w :: st) M K n top nc ns
noncomputable def mz_k_getE (own mn : String) (cc : ByteArray) (mo : Nat) (ret : Option FieldType) (e pc : Nat) : Bool := decide (decode cc pc = .ok (.getstatic (mz_ex e), 3) ∧ mz_wi (mz_ez e) (.fieldLink own (mz_ex e) "java/util/ArrayList" "DEFAULTCAPACITY_EMPTY_ELEMENTDATA" "[Ljava/lang/Object;"))
theorem mz_t_getE (mk : mz_Mk) : mz_Lk mk mz_s_getE mz_k_getE := by
  intro X own cc F nL mo d hs ret r call go e pc L st M K n top nc ns ⟨C, O, hnL, hR, hD, hE, hC, hG⟩ hk h
  obtain ⟨hd, hw⟩ := of_decide_eq_true hk
  unfold mz_s_getE at h
  rw [mz_f_eq] at h
  obtain ⟨g1, g2, g3⟩ := hG _ _ _ _ _ _ _ _ _ h
  exact ⟨g1, g2, mz_getE C O hd (mz_bfg C (mz_wi_ok hw)) g3⟩
noncomputable def mz_s_getCS (F : Nat → Nat × Nat) (nL mo : Nat) (hs : List mz_Hr) (call : mz_Ca) (go : mz_Go) (e pc L : Nat) (st : List Nat) (M K n top nc ns : Nat) : Option mz_Rt :=
  go (Nat.add pc 3) L (17 :: st) M K n top nc ns
noncomputable def mz_k_getCS (own mn : String) (cc : ByteArray) (mo : Nat) (ret : Option FieldType) (e pc : Nat) : Bool := decide (decode cc pc = .ok (.getstatic (mz_ex e), 3) ∧ mz_wi (mz_ez e) (.fieldLink own (mz_ex e) "java/lang/String" "COMPACT_STRINGS" "Z"))
theorem mz_t_getCS (mk : mz_Mk) : mz_Lk mk mz_s_getCS mz_k_getCS := by
  intro X own cc F nL mo d hs ret r call go e pc L st M K n top nc ns ⟨C, O, hnL, hR, hD, hE, hC, hG⟩ hk h
  obtain ⟨hd, hw⟩ := of_decide_eq_true hk
  unfold mz_s_getCS at h
  obtain ⟨g1, g2, g3⟩ := hG _ _ _ _ _ _ _ _ _ h
  exact ⟨g1, g2, mz_getCS C O hd (mz_bfg C (mz_wi_ok hw)) g3⟩
noncomputable def mz_s_strV (F : Nat → Nat × Nat) (nL mo : Nat) (hs : List mz_Hr) (call : mz_Ca) (go : mz_Go) (e pc L : Nat) (st : List Nat) (M K n top nc ns : Nat) : Option mz_Rt :=
  mz_p1 st fun x l => mz_sj x fun j => mz_f (mz_ow (Nat.add 2 (Nat.mul 2 j))) fun w => go (Nat.add pc 3) L (w :: l) M K n top nc ns
noncomputable def mz_k_strV (own mn : String) (cc : ByteArray) (mo : Nat) (ret : Option FieldType) (e pc : Nat) : Bool := decide (decode cc pc = .ok (.getfield (mz_ex e), 3) ∧ mz_wi (mz_ez e) (.fieldLink own (mz_ex e) "java/lang/String" "value" "[B"))
theorem mz_t_strV (mk : mz_Mk) : mz_Lk mk mz_s_strV mz_k_strV := by
  intro X own cc F nL mo d hs ret r call go e pc L st M K n top nc ns ⟨C, O, hnL, hR, hD, hE, hC, hG⟩ hk h
  obtain ⟨hd, hw⟩ := of_decide_eq_true hk
  unfold mz_s_strV at h
  obtain ⟨x, l, rfl, hp⟩ := mz_p1_ok h
  have h := hp
  obtain ⟨j, q, rfl, hj, h2⟩ := mz_sj_ok h
  have h := h2
  rw [mz_f_eq] at h
  obtain ⟨g1, g2, g3⟩ := hG _ _ _ _ _ _ _ _ _ h
  exact ⟨g1, g2, mz_strV C O hd hj (mz_bfg C (mz_wi_ok hw)) g3⟩
noncomputable def mz_s_strC (F : Nat → Nat × Nat) (nL mo : Nat) (hs : List mz_Hr) (call : mz_Ca) (go : mz_Go) (e pc L : Nat) (st : List Nat) (M K n top nc ns : Nat) : Option mz_Rt :=
  mz_p1 st fun x l => mz_sj x fun j => go (Nat.add pc 3) L (1 :: l) M K n top nc ns
noncomputable def mz_k_strC (own mn : String) (cc : ByteArray) (mo : Nat) (ret : Option FieldType) (e pc : Nat) : Bool := decide (decode cc pc = .ok (.getfield (mz_ex e), 3) ∧ mz_wi (mz_ez e) (.fieldLink own (mz_ex e) "java/lang/String" "coder" "B"))
theorem mz_t_strC (mk : mz_Mk) : mz_Lk mk mz_s_strC mz_k_strC := by
  intro X own cc F nL mo d hs ret r call go e pc L st M K n top nc ns ⟨C, O, hnL, hR, hD, hE, hC, hG⟩ hk h
  obtain ⟨hd, hw⟩ := of_decide_eq_true hk
  unfold mz_s_strC at h
  obtain ⟨x, l, rfl, hp⟩ := mz_p1_ok h
  have h := hp
  obtain ⟨j, q, rfl, hj, h2⟩ := mz_sj_ok h
  have h := h2
  obtain ⟨g1, g2, g3⟩ := hG _ _ _ _ _ _ _ _ _ h
  exact ⟨g1, g2, mz_strC C O hd hj (mz_bfg C (mz_wi_ok hw)) g3⟩
