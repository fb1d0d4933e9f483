/-! THE STEPS, 1 -/
noncomputable def mz_s_iinc (F : Nat → Nat × Nat) (nL mo : Nat) (hs : List mz_Hr) (call : mz_Ca) (go : mz_Go) (e pc L : Nat) (st : List Nat) (M K n top nc ns : Nat) : Option mz_Rt :=
  mz_f (mz_g L (mz_ex e)) fun v => mz_oadd v (mz_n (mz_ea e)) fun w => (mz_ci (mz_wf w) ((mz_ci (mz_b4 L (mz_ex e)) ((mz_ci (Nat.ble (Nat.succ (mz_ex e)) nL) (mz_f (mz_p L (mz_ex e) w) fun L2 => go (Nat.add pc 3) L2 st M K n top nc ns) (none))) (none))) (none))
noncomputable def mz_k_iinc (own mn : String) (cc : ByteArray) (mo : Nat) (ret : Option FieldType) (e pc : Nat) : Bool := decide (decode cc pc = .ok (.iinc (mz_ex e) (mz_z (mz_ea e)), 3) ∧ Int32.ofInt (mz_z (mz_ea e)) = nI (mz_ea e))
theorem mz_t_iinc (mk : mz_Mk) : mz_Lk mk mz_s_iinc mz_k_iinc := by
  intro X own cc F nL mo d hs ret r call go e pc L st M K n top nc ns ⟨C, O, hnL, hR, hD, hE, hC, hG⟩ hk h
  have hd := of_decide_eq_true hk
  unfold mz_s_iinc at h
  rw [mz_f_eq] at h
  obtain ⟨a1, -, w, h, a2, a3⟩ := mz_oadd_ok (ρ := mz_rho X) h
  obtain ⟨h2, h⟩ := mz_ift h
  obtain ⟨h3, h⟩ := mz_ift h
  obtain ⟨h4, h⟩ := mz_ift h
  rw [mz_f_eq] at h
  obtain ⟨g1, g2, g3⟩ := hG _ _ _ _ _ _ _ _ _ h
  exact ⟨g1, g2, mz_iinc C hd.1 a1 a2 (by rw [a3, (mz_nw (ρ := mz_rho X) _).2, hd.2]) (mz_wf_ok h2) h3 (by rw [hnL]; exact mz_bl h4) g3⟩
noncomputable def mz_s_iadd (F : Nat → Nat × Nat) (nL mo : Nat) (hs : List mz_Hr) (call : mz_Ca) (go : mz_Go) (e pc L : Nat) (st : List Nat) (M K n top nc ns : Nat) : Option mz_Rt :=
  mz_p1 st fun y l => mz_p1 l fun x l => mz_oadd x y fun w => go (Nat.succ pc) L (w :: l) M K n top nc ns
noncomputable def mz_k_iadd (own mn : String) (cc : ByteArray) (mo : Nat) (ret : Option FieldType) (e pc : Nat) : Bool := decide (decode cc pc = .ok (.iadd, 1))
theorem mz_t_iadd (mk : mz_Mk) : mz_Lk mk mz_s_iadd mz_k_iadd := by
  intro X own cc F nL mo d hs ret r call go e pc L st M K n top nc ns ⟨C, O, hnL, hR, hD, hE, hC, hG⟩ hk h
  have hd := of_decide_eq_true hk
  unfold mz_s_iadd at h
  obtain ⟨y, l, rfl, hp⟩ := mz_p1_ok h
  obtain ⟨x, l, rfl, hq⟩ := mz_p1_ok hp
  have h := hq
  obtain ⟨a1, a2, w, h, a3, a4⟩ := mz_oadd_ok (ρ := mz_rho X) h
  obtain ⟨g1, g2, g3⟩ := hG _ _ _ _ _ _ _ _ _ h
  exact ⟨g1, g2, mz_iadd C hd a1 a2 a3 a4 g3⟩
noncomputable def mz_s_isub (F : Nat → Nat × Nat) (nL mo : Nat) (hs : List mz_Hr) (call : mz_Ca) (go : mz_Go) (e pc L : Nat) (st : List Nat) (M K n top nc ns : Nat) : Option mz_Rt :=
  mz_p1 st fun y l => mz_p1 l fun x l => mz_osub x y fun w => go (Nat.succ pc) L (w :: l) M K n top nc ns
noncomputable def mz_k_isub (own mn : String) (cc : ByteArray) (mo : Nat) (ret : Option FieldType) (e pc : Nat) : Bool := decide (decode cc pc = .ok (.isub, 1))
theorem mz_t_isub (mk : mz_Mk) : mz_Lk mk mz_s_isub mz_k_isub := by
  intro X own cc F nL mo d hs ret r call go e pc L st M K n top nc ns ⟨C, O, hnL, hR, hD, hE, hC, hG⟩ hk h
  have hd := of_decide_eq_true hk
  unfold mz_s_isub at h
  obtain ⟨y, l, rfl, hp⟩ := mz_p1_ok h
  obtain ⟨x, l, rfl, hq⟩ := mz_p1_ok hp
  have h := hq
  obtain ⟨a1, a2, w, h, a3, a4⟩ := mz_osub_ok (ρ := mz_rho X) h
  obtain ⟨g1, g2, g3⟩ := hG _ _ _ _ _ _ _ _ _ h
  exact ⟨g1, g2, mz_isub C hd a1 a2 a3 a4 g3⟩
noncomputable def mz_s_imul (F : Nat → Nat × Nat) (nL mo : Nat) (hs : List mz_Hr) (call : mz_Ca) (go : mz_Go) (e pc L : Nat) (st : List Nat) (M K n top nc ns : Nat) : Option mz_Rt :=
  mz_p1 st fun y l => mz_p1 l fun x l => mz_omul x y fun w => go (Nat.succ pc) L (w :: l) M K n top nc ns
noncomputable def mz_k_imul (own mn : String) (cc : ByteArray) (mo : Nat) (ret : Option FieldType) (e pc : Nat) : Bool := decide (decode cc pc = .ok (.imul, 1))
theorem mz_t_imul (mk : mz_Mk) : mz_Lk mk mz_s_imul mz_k_imul := by
  intro X own cc F nL mo d hs ret r call go e pc L st M K n top nc ns ⟨C, O, hnL, hR, hD, hE, hC, hG⟩ hk h
  have hd := of_decide_eq_true hk
  unfold mz_s_imul at h
  obtain ⟨y, l, rfl, hp⟩ := mz_p1_ok h
  obtain ⟨x, l, rfl, hq⟩ := mz_p1_ok hp
  have h := hq
  obtain ⟨a1, a2, w, h, a3, a4⟩ := mz_omul_ok (ρ := mz_rho X) h
  obtain ⟨g1, g2, g3⟩ := hG _ _ _ _ _ _ _ _ _ h
  exact ⟨g1, g2, mz_imul C hd a1 a2 a3 a4 g3⟩
noncomputable def mz_s_iand (F : Nat → Nat × Nat) (nL mo : Nat) (hs : List mz_Hr) (call : mz_Ca) (go : mz_Go) (e pc L : Nat) (st : List Nat) (M K n top nc ns : Nat) : Option mz_Rt :=
  mz_p1 st fun y l => mz_p1 l fun x l => mz_oand F x y fun w => go (Nat.succ pc) L (w :: l) M K n top nc ns
noncomputable def mz_k_iand (own mn : String) (cc : ByteArray) (mo : Nat) (ret : Option FieldType) (e pc : Nat) : Bool := decide (decode cc pc = .ok (.iand, 1))
theorem mz_t_iand (mk : mz_Mk) : mz_Lk mk mz_s_iand mz_k_iand := by
  intro X own cc F nL mo d hs ret r call go e pc L st M K n top nc ns ⟨C, O, hnL, hR, hD, hE, hC, hG⟩ hk h
  have hd := of_decide_eq_true hk
  have hF : mz_F F (mz_rho X) := mz_CF C
  have hV : mz_V (mz_rho X) := mz_CV C
  unfold mz_s_iand at h
  obtain ⟨y, l, rfl, hp⟩ := mz_p1_ok h
  obtain ⟨x, l, rfl, hq⟩ := mz_p1_ok hp
  have h := hq
  obtain ⟨a1, a2, w, h, a3, a4⟩ := mz_oand_ok hF hV h
  obtain ⟨g1, g2, g3⟩ := hG _ _ _ _ _ _ _ _ _ h
  exact ⟨g1, g2, mz_iand C hd a1 a2 a3 a4 g3⟩
noncomputable def mz_s_ior (F : Nat → Nat × Nat) (nL mo : Nat) (hs : List mz_Hr) (call : mz_Ca) (go : mz_Go) (e pc L : Nat) (st : List Nat) (M K n top nc ns : Nat) : Option mz_Rt :=
  mz_p1 st fun y l => mz_p1 l fun x l => mz_oor x y fun w => go (Nat.succ pc) L (w :: l) M K n top nc ns
noncomputable def mz_k_ior (own mn : String) (cc : ByteArray) (mo : Nat) (ret : Option FieldType) (e pc : Nat) : Bool := decide (decode cc pc = .ok (.ior, 1))
theorem mz_t_ior (mk : mz_Mk) : mz_Lk mk mz_s_ior mz_k_ior := by
  intro X own cc F nL mo d hs ret r call go e pc L st M K n top nc ns ⟨C, O, hnL, hR, hD, hE, hC, hG⟩ hk h
  have hd := of_decide_eq_true hk
  unfold mz_s_ior at h
  obtain ⟨y, l, rfl, hp⟩ := mz_p1_ok h
  obtain ⟨x, l, rfl, hq⟩ := mz_p1_ok hp
  have h := hq
  obtain ⟨a1, a2, w, h, a3, a4⟩ := mz_oor_ok (ρ := mz_rho X) h
  obtain ⟨g1, g2, g3⟩ := hG _ _ _ _ _ _ _ _ _ h
  exact ⟨g1, g2, mz_ior C hd a1 a2 a3 a4 g3⟩
noncomputable def mz_s_idiv (F : Nat → Nat × Nat) (nL mo : Nat) (hs : List mz_Hr) (call : mz_Ca) (go : mz_Go) (e pc L : Nat) (st : List Nat) (M K n top nc ns : Nat) : Option mz_Rt :=
  mz_p1 st fun y l => mz_p1 l fun x l => mz_odiv x y fun w => go (Nat.succ pc) L (w :: l) M K n top nc ns
noncomputable def mz_k_idiv (own mn : String) (cc : ByteArray) (mo : Nat) (ret : Option FieldType) (e pc : Nat) : Bool := decide (decode cc pc = .ok (.idiv, 1))
theorem mz_t_idiv (mk : mz_Mk) : mz_Lk mk mz_s_idiv mz_k_idiv := by
  intro X own cc F nL mo d hs ret r call go e pc L st M K n top nc ns ⟨C, O, hnL, hR, hD, hE, hC, hG⟩ hk h
  have hd := of_decide_eq_true hk
  unfold mz_s_idiv at h
  obtain ⟨y, l, rfl, hp⟩ := mz_p1_ok h
  obtain ⟨x, l, rfl, hq⟩ := mz_p1_ok hp
  have h := hq
  obtain ⟨a1, a2, a0, w, h, a3, a4⟩ := mz_odiv_ok (ρ := mz_rho X) h
  obtain ⟨g1, g2, g3⟩ := hG _ _ _ _ _ _ _ _ _ h
  exact ⟨g1, g2, mz_idiv C hd a1 a2 a0 a3 a4 g3⟩
noncomputable def mz_s_irem (F : Nat → Nat × Nat) (nL mo : Nat) (hs : List mz_Hr) (call : mz_Ca) (go : mz_Go) (e pc L : Nat) (st : List Nat) (M K n top nc ns : Nat) : Option mz_Rt :=
  mz_p1 st fun y l => mz_p1 l fun x l => mz_orem x y fun w => go (Nat.succ pc) L (w :: l) M K n top nc ns
noncomputable def mz_k_irem (own mn : String) (cc : ByteArray) (mo : Nat) (ret : Option FieldType) (e pc : Nat) : Bool := decide (decode cc pc = .ok (.irem, 1))
theorem mz_t_irem (mk : mz_Mk) : mz_Lk mk mz_s_irem mz_k_irem := by
  intro X own cc F nL mo d hs ret r call go e pc L st M K n top nc ns ⟨C, O, hnL, hR, hD, hE, hC, hG⟩ hk h
  have hd := of_decide_eq_true hk
  unfold mz_s_irem at h
  obtain ⟨y, l, rfl, hp⟩ := mz_p1_ok h
  obtain ⟨x, l, rfl, hq⟩ := mz_p1_ok hp
  have h := hq
  obtain ⟨a1, a2, a0, w, h, a3, a4⟩ := mz_orem_ok (ρ := mz_rho X) h
  obtain ⟨g1, g2, g3⟩ := hG _ _ _ _ _ _ _ _ _ h
  exact ⟨g1, g2, mz_irem C hd a1 a2 a0 a3 a4 g3⟩
noncomputable def mz_s_ishl (F : Nat → Nat × Nat) (nL mo : Nat) (hs : List mz_Hr) (call : mz_Ca) (go : mz_Go) (e pc L : Nat) (st : List Nat) (M K n top nc ns : Nat) : Option mz_Rt :=
  mz_p1 st fun y l => mz_p1 l fun x l => (mz_ci (mz_sm y) ((mz_ci (Nat.ble (Nat.succ (mz_q y)) 32) (mz_oshl x y fun w => go (Nat.succ pc) L (w :: l) M K n top nc ns) (none))) (none))
noncomputable def mz_k_ishl (own mn : String) (cc : ByteArray) (mo : Nat) (ret : Option FieldType) (e pc : Nat) : Bool := decide (decode cc pc = .ok (.ishl, 1))
theorem mz_t_ishl (mk : mz_Mk) : mz_Lk mk mz_s_ishl mz_k_ishl := by
  intro X own cc F nL mo d hs ret r call go e pc L st M K n top nc ns ⟨C, O, hnL, hR, hD, hE, hC, hG⟩ hk h
  have hd := of_decide_eq_true hk
  unfold mz_s_ishl at h
  obtain ⟨y, l, rfl, hp⟩ := mz_p1_ok h
  obtain ⟨x, l, rfl, hq⟩ := mz_p1_ok hp
  have h := hq
  obtain ⟨b1, h⟩ := mz_ift h
  obtain ⟨b2, h⟩ := mz_ift h
  obtain ⟨a1, a2, w, h, a3, a4⟩ := mz_oshl_ok (ρ := mz_rho X) h
  obtain ⟨g1, g2, g3⟩ := hG _ _ _ _ _ _ _ _ _ h
  exact ⟨g1, g2, mz_ishl C hd a1 a2 (mz_31 (mz_rho X) b1 (mz_bl b2)) a3 a4 g3⟩
noncomputable def mz_s_ishr (F : Nat → Nat × Nat) (nL mo : Nat) (hs : List mz_Hr) (call : mz_Ca) (go : mz_Go) (e pc L : Nat) (st : List Nat) (M K n top nc ns : Nat) : Option mz_Rt :=
  mz_p1 st fun y l => mz_p1 l fun x l => (mz_ci (mz_sm y) ((mz_ci (Nat.ble (Nat.succ (mz_q y)) 32) (mz_oshr x y fun w => go (Nat.succ pc) L (w :: l) M K n top nc ns) (none))) (none))
noncomputable def mz_k_ishr (own mn : String) (cc : ByteArray) (mo : Nat) (ret : Option FieldType) (e pc : Nat) : Bool := decide (decode cc pc = .ok (.ishr, 1))
theorem mz_t_ishr (mk : mz_Mk) : mz_Lk mk mz_s_ishr mz_k_ishr := by
  intro X own cc F nL mo d hs ret r call go e pc L st M K n top nc ns ⟨C, O, hnL, hR, hD, hE, hC, hG⟩ hk h
  have hd := of_decide_eq_true hk
  unfold mz_s_ishr at h
  obtain ⟨y, l, rfl, hp⟩ := mz_p1_ok h
  obtain ⟨x, l, rfl, hq⟩ := mz_p1_ok hp
  have h := hq
  obtain ⟨b1, h⟩ := mz_ift h
  obtain ⟨b2, h⟩ := mz_ift h
  obtain ⟨a1, a2, w, h, a3, a4⟩ := mz_oshr_ok (ρ := mz_rho X) h
  obtain ⟨g1, g2, g3⟩ := hG _ _ _ _ _ _ _ _ _ h
  exact ⟨g1, g2, mz_ishr C hd a1 a2 (mz_31 (mz_rho X) b1 (mz_bl b2)) a3 a4 g3⟩
noncomputable def mz_s_ineg (F : Nat → Nat × Nat) (nL mo : Nat) (hs : List mz_Hr) (call : mz_Ca) (go : mz_Go) (e pc L : Nat) (st : List Nat) (M K n top nc ns : Nat) : Option mz_Rt :=
  mz_p1 st fun x l => mz_oneg x fun w => go (Nat.succ pc) L (w :: l) M K n top nc ns
noncomputable def mz_k_ineg (own mn : String) (cc : ByteArray) (mo : Nat) (ret : Option FieldType) (e pc : Nat) : Bool := decide (decode cc pc = .ok (.ineg, 1))
theorem mz_t_ineg (mk : mz_Mk) : mz_Lk mk mz_s_ineg mz_k_ineg := by
  intro X own cc F nL mo d hs ret r call go e pc L st M K n top nc ns ⟨C, O, hnL, hR, hD, hE, hC, hG⟩ hk h
  have hd := of_decide_eq_true hk
  unfold mz_s_ineg at h
  obtain ⟨x, l, rfl, hp⟩ := mz_p1_ok h
  have h := hp
  obtain ⟨a1, w, h, a3, a4⟩ := mz_oneg_ok (ρ := mz_rho X) h
  obtain ⟨g1, g2, g3⟩ := hG _ _ _ _ _ _ _ _ _ h
  exact ⟨g1, g2, mz_ineg C hd a1 a3 a4 g3⟩
noncomputable def mz_s_i2c (F : Nat → Nat × Nat) (nL mo : Nat) (hs : List mz_Hr) (call : mz_Ca) (go : mz_Go) (e pc L : Nat) (st : List Nat) (M K n top nc ns : Nat) : Option mz_Rt :=
  mz_p1 st fun x l => mz_oi2c F x fun w => go (Nat.succ pc) L (w :: l) M K n top nc ns
noncomputable def mz_k_i2c (own mn : String) (cc : ByteArray) (mo : Nat) (ret : Option FieldType) (e pc : Nat) : Bool := decide (decode cc pc = .ok (.i2c, 1))
theorem mz_t_i2c (mk : mz_Mk) : mz_Lk mk mz_s_i2c mz_k_i2c := by
  intro X own cc F nL mo d hs ret r call go e pc L st M K n top nc ns ⟨C, O, hnL, hR, hD, hE, hC, hG⟩ hk h
  have hd := of_decide_eq_true hk
  have hF : mz_F F (mz_rho X) := mz_CF C
  have hV : mz_V (mz_rho X) := mz_CV C
  unfold mz_s_i2c at h
  obtain ⟨x, l, rfl, hp⟩ := mz_p1_ok h
  have h := hp
  obtain ⟨a1, w, h, a3, a4⟩ := mz_oi2c_ok hF hV h
  obtain ⟨g1, g2, g3⟩ := hG _ _ _ _ _ _ _ _ _ h
  exact ⟨g1, g2, mz_i2c_ C hd a1 a3 a4 g3⟩
noncomputable def mz_s_i2b (F : Nat → Nat × Nat) (nL mo : Nat) (hs : List mz_Hr) (call : mz_Ca) (go : mz_Go) (e pc L : Nat) (st : List Nat) (M K n top nc ns : Nat) : Option mz_Rt :=
  mz_p1 st fun x l => mz_oi2b F x fun w => go (Nat.succ pc) L (w :: l) M K n top nc ns
noncomputable def mz_k_i2b (own mn : String) (cc : ByteArray) (mo : Nat) (ret : Option FieldType) (e pc : Nat) : Bool := decide (decode cc pc = .ok (.i2b, 1))
theorem mz_t_i2b (mk : mz_Mk) : mz_Lk mk mz_s_i2b mz_k_i2b := by
  intro X own cc F nL mo d hs ret r call go e pc L st M K n top nc ns ⟨C, O, hnL, hR, hD, hE, hC, hG⟩ hk h
  have hd := of_decide_eq_true hk
  have hF : mz_F F (mz_rho X) := mz_CF C
  unfold mz_s_i2b at h
  obtain ⟨x, l, rfl, hp⟩ := mz_p1_ok h
  have h := hp
  obtain ⟨a1, w, h, a3, a4⟩ := mz_oi2b_ok hF h
  obtain ⟨g1, g2, g3⟩ := hG _ _ _ _ _ _ _ _ _ h
  exact ⟨g1, g2, mz_i2b_ C hd a1 a3 a4 g3⟩
noncomputable def mz_s_i2l (F : Nat → Nat × Nat) (nL mo : Nat) (hs : List mz_Hr) (call : mz_Ca) (go : mz_Go) (e pc L : Nat) (st : List Nat) (M K n top nc ns : Nat) : Option mz_Rt :=
  mz_p1 st fun x l => mz_oi2l x fun w => go (Nat.succ pc) L (w :: l) M K n top nc ns
noncomputable def mz_k_i2l (own mn : String) (cc : ByteArray) (mo : Nat) (ret : Option FieldType) (e pc : Nat) : Bool := decide (decode cc pc = .ok (.i2l, 1))
theorem mz_t_i2l (mk : mz_Mk) : mz_Lk mk mz_s_i2l mz_k_i2l := by
  intro X own cc F nL mo d hs ret r call go e pc L st M K n top nc ns ⟨C, O, hnL, hR, hD, hE, hC, hG⟩ hk h
  have hd := of_decide_eq_true hk
  unfold mz_s_i2l at h
  obtain ⟨x, l, rfl, hp⟩ := mz_p1_ok h
  have h := hp
  obtain ⟨a1, w, h, a3, a4⟩ := mz_oi2l_ok (ρ := mz_rho X) h
  obtain ⟨g1, g2, g3⟩ := hG _ _ _ _ _ _ _ _ _ h
  exact ⟨g1, g2, mz_i2l_ C hd a1 a3 a4 g3⟩
noncomputable def mz_s_ladd (F : Nat → Nat × Nat) (nL mo : Nat) (hs : List mz_Hr) (call : mz_Ca) (go : mz_Go) (e pc L : Nat) (st : List Nat) (M K n top nc ns : Nat) : Option mz_Rt :=
  mz_p1 st fun y l => mz_p1 l fun x l => mz_oladd x y fun w => go (Nat.succ pc) L (w :: l) M K n top nc ns
noncomputable def mz_k_ladd (own mn : String) (cc : ByteArray) (mo : Nat) (ret : Option FieldType) (e pc : Nat) : Bool := decide (decode cc pc = .ok (.ladd, 1))
theorem mz_t_ladd (mk : mz_Mk) : mz_Lk mk mz_s_ladd mz_k_ladd := by
  intro X own cc F nL mo d hs ret r call go e pc L st M K n top nc ns ⟨C, O, hnL, hR, hD, hE, hC, hG⟩ hk h
  have hd := of_decide_eq_true hk
  unfold mz_s_ladd at h
  obtain ⟨y, l, rfl, hp⟩ := mz_p1_ok h
  obtain ⟨x, l, rfl, hq⟩ := mz_p1_ok hp
  have h := hq
  obtain ⟨a1, a2, w, h, a3, a4⟩ := mz_oladd_ok (ρ := mz_rho X) h
  obtain ⟨g1, g2, g3⟩ := hG _ _ _ _ _ _ _ _ _ h
  exact ⟨g1, g2, mz_ladd_ C hd a1 a2 a3 a4 g3⟩
noncomputable def mz_s_lcmp (F : Nat → Nat × Nat) (nL mo : Nat) (hs : List mz_Hr) (call : mz_Ca) (go : mz_Go) (e pc L : Nat) (st : List Nat) (M K n top nc ns : Nat) : Option mz_Rt :=
  mz_p1 st fun y l => mz_p1 l fun x l => (mz_ci (Nat.beq x y) ((mz_ci (mz_L x) (go (Nat.succ pc) L (1 :: l) M K n top nc ns) (none))) (none))
noncomputable def mz_k_lcmp (own mn : String) (cc : ByteArray) (mo : Nat) (ret : Option FieldType) (e pc : Nat) : Bool := decide (decode cc pc = .ok (.lcmp, 1))
theorem mz_t_lcmp (mk : mz_Mk) : mz_Lk mk mz_s_lcmp mz_k_lcmp := by
  intro X own cc F nL mo d hs ret r call go e pc L st M K n top nc ns ⟨C, O, hnL, hR, hD, hE, hC, hG⟩ hk h
  have hd := of_decide_eq_true hk
  unfold mz_s_lcmp at h
  obtain ⟨y, l, rfl, hp⟩ := mz_p1_ok h
  obtain ⟨x, l, rfl, hq⟩ := mz_p1_ok hp
  have h := hq
  obtain ⟨a1, h⟩ := mz_ift h
  obtain ⟨a2, h⟩ := mz_ift h
  obtain ⟨g1, g2, g3⟩ := hG _ _ _ _ _ _ _ _ _ h
  rw [← mz_bq a1]
  exact ⟨g1, g2, mz_lcmp_ C hd a2 g3⟩
noncomputable def mz_s_icmp_eq (F : Nat → Nat × Nat) (nL mo : Nat) (hs : List mz_Hr) (call : mz_Ca) (go : mz_Go) (e pc L : Nat) (st : List Nat) (M K n top nc ns : Nat) : Option mz_Rt :=
  mz_p1 st fun y l => mz_p1 l fun x l => mz_cmp F .eq x y fun b => go ((mz_ci (b) (mz_ex e) (Nat.add pc 3))) L l M K n top nc ns
noncomputable def mz_k_icmp_eq (own mn : String) (cc : ByteArray) (mo : Nat) (ret : Option FieldType) (e pc : Nat) : Bool := decide (decode cc pc = .ok (.if_icmp .eq (Int.ofNat (mz_ex e) - Int.ofNat pc), 3))
theorem mz_t_icmp_eq (mk : mz_Mk) : mz_Lk mk mz_s_icmp_eq mz_k_icmp_eq := by
  intro X own cc F nL mo d hs ret r call go e pc L st M K n top nc ns ⟨C, O, hnL, hR, hD, hE, hC, hG⟩ hk h
  have hd := of_decide_eq_true hk
  have hF : mz_F F (mz_rho X) := mz_CF C
  unfold mz_s_icmp_eq at h
  obtain ⟨y, l, rfl, hp⟩ := mz_p1_ok h
  obtain ⟨x, l, rfl, hq⟩ := mz_p1_ok hp
  have h := hq
  obtain ⟨a1, a2, b, h, a3⟩ := mz_cmp_ok hF h
  obtain ⟨g1, g2, g3⟩ := hG _ _ _ _ _ _ _ _ _ h
  exact ⟨g1, g2, mz_icmp C hd (mz_off _ _) a1 a2 a3 g3⟩
noncomputable def mz_s_ifc_eq (F : Nat → Nat × Nat) (nL mo : Nat) (hs : List mz_Hr) (call : mz_Ca) (go : mz_Go) (e pc L : Nat) (st : List Nat) (M K n top nc ns : Nat) : Option mz_Rt :=
  mz_p1 st fun x l => mz_cmp F .eq x 1 fun b => go ((mz_ci (b) (mz_ex e) (Nat.add pc 3))) L l M K n top nc ns
noncomputable def mz_k_ifc_eq (own mn : String) (cc : ByteArray) (mo : Nat) (ret : Option FieldType) (e pc : Nat) : Bool := decide (decode cc pc = .ok (.ifCond .eq (Int.ofNat (mz_ex e) - Int.ofNat pc), 3))
theorem mz_t_ifc_eq (mk : mz_Mk) : mz_Lk mk mz_s_ifc_eq mz_k_ifc_eq := by
  intro X own cc F nL mo d hs ret r call go e pc L st M K n top nc ns ⟨C, O, hnL, hR, hD, hE, hC, hG⟩ hk h
  have hd := of_decide_eq_true hk
  have hF : mz_F F (mz_rho X) := mz_CF C
  unfold mz_s_ifc_eq at h
  obtain ⟨x, l, rfl, hp⟩ := mz_p1_ok h
  have h := hp
  obtain ⟨a1, a2, b, h, a3⟩ := mz_cmp_ok hF h
  obtain ⟨g1, g2, g3⟩ := hG _ _ _ _ _ _ _ _ _ h
  exact ⟨g1, g2, mz_ifc C hd (mz_off _ _) a1 a3 g3⟩
noncomputable def mz_s_icmp_ne (F : Nat → Nat × Nat) (nL mo : Nat) (hs : List mz_Hr) (call : mz_Ca) (go : mz_Go) (e pc L : Nat) (st : List Nat) (M K n top nc ns : Nat) : Option mz_Rt :=
  mz_p1 st fun y l => mz_p1 l fun x l => mz_cmp F .ne x y fun b => go ((mz_ci (b) (mz_ex e) (Nat.add pc 3))) L l M K n top nc ns
noncomputable def mz_k_icmp_ne (own mn : String) (cc : ByteArray) (mo : Nat) (ret : Option FieldType) (e pc : Nat) : Bool := decide (decode cc pc = .ok (.if_icmp .ne (Int.ofNat (mz_ex e) - Int.ofNat pc), 3))
theorem mz_t_icmp_ne (mk : mz_Mk) : mz_Lk mk mz_s_icmp_ne mz_k_icmp_ne := by
  intro X own cc F nL mo d hs ret r call go e pc L st M K n top nc ns ⟨C, O, hnL, hR, hD, hE, hC, hG⟩ hk h
  have hd := of_decide_eq_true hk
  have hF : mz_F F (mz_rho X) := mz_CF C
  unfold mz_s_icmp_ne at h
  obtain ⟨y, l, rfl, hp⟩ := mz_p1_ok h
  obtain ⟨x, l, rfl, hq⟩ := mz_p1_ok hp
  have h := hq
  obtain ⟨a1, a2, b, h, a3⟩ := mz_cmp_ok hF h
  obtain ⟨g1, g2, g3⟩ := hG _ _ _ _ _ _ _ _ _ h
  exact ⟨g1, g2, mz_icmp C hd (mz_off _ _) a1 a2 a3 g3⟩
noncomputable def mz_s_ifc_ne (F : Nat → Nat × Nat) (nL mo : Nat) (hs : List mz_Hr) (call : mz_Ca) (go : mz_Go) (e pc L : Nat) (st : List Nat) (M K n top nc ns : Nat) : Option mz_Rt :=
  mz_p1 st fun x l => mz_cmp F .ne x 1 fun b => go ((mz_ci (b) (mz_ex e) (Nat.add pc 3))) L l M K n top nc ns
noncomputable def mz_k_ifc_ne (own mn : String) (cc : ByteArray) (mo : Nat) (ret : Option FieldType) (e pc : Nat) : Bool := decide (decode cc pc = .ok (.ifCond .ne (Int.ofNat (mz_ex e) - Int.ofNat pc), 3))
theorem mz_t_ifc_ne (mk : mz_Mk) : mz_Lk mk mz_s_ifc_ne mz_k_ifc_ne := by
  intro X own cc F nL mo d hs ret r call go e pc L st M K n top nc ns ⟨C, O, hnL, hR, hD, hE, hC, hG⟩ hk h
  have hd := of_decide_eq_true hk
  have hF : mz_F F (mz_rho X) := mz_CF C
  unfold mz_s_ifc_ne at h
  obtain ⟨x, l, rfl, hp⟩ := mz_p1_ok h
  have h := hp
  obtain ⟨a1, a2, b, h, a3⟩ := mz_cmp_ok hF h
  obtain ⟨g1, g2, g3⟩ := hG _ _ _ _ _ _ _ _ _ h
  exact ⟨g1, g2, mz_ifc C hd (mz_off _ _) a1 a3 g3⟩
noncomputable def mz_s_icmp_lt (F : Nat → Nat × Nat) (nL mo : Nat) (hs : List mz_Hr) (call : mz_Ca) (go : mz_Go) (e pc L : Nat) (st : List Nat) (M K n top nc ns : Nat) : Option mz_Rt :=
  mz_p1 st fun y l => mz_p1 l fun x l => mz_cmp F .lt x y fun b => go ((mz_ci (b) (mz_ex e) (Nat.add pc 3))) L l M K n top nc ns
noncomputable def mz_k_icmp_lt (own mn : String) (cc : ByteArray) (mo : Nat) (ret : Option FieldType) (e pc : Nat) : Bool := decide (decode cc pc = .ok (.if_icmp .lt (Int.ofNat (mz_ex e) - Int.ofNat pc), 3))
theorem mz_t_icmp_lt (mk : mz_Mk) : mz_Lk mk mz_s_icmp_lt mz_k_icmp_lt := by
  intro X own cc F nL mo d hs ret r call go e pc L st M K n top nc ns ⟨C, O, hnL, hR, hD, hE, hC, hG⟩ hk h
  have hd := of_decide_eq_true hk
  have hF : mz_F F (mz_rho X) := mz_CF C
  unfold mz_s_icmp_lt at h
  obtain ⟨y, l, rfl, hp⟩ := mz_p1_ok h
  obtain ⟨x, l, rfl, hq⟩ := mz_p1_ok hp
  have h := hq
  obtain ⟨a1, a2, b, h, a3⟩ := mz_cmp_ok hF h
  obtain ⟨g1, g2, g3⟩ := hG _ _ _ _ _ _ _ _ _ h
  exact ⟨g1, g2, mz_icmp C hd (mz_off _ _) a1 a2 a3 g3⟩
noncomputable def mz_s_ifc_lt (F : Nat → Nat × Nat) (nL mo : Nat) (hs : List mz_Hr) (call : mz_Ca) (go : mz_Go) (e pc L : Nat) (st : List Nat) (M K n top nc ns : Nat) : Option mz_Rt :=
  mz_p1 st fun x l => mz_cmp F .lt x 1 fun b => go ((mz_ci (b) (mz_ex e) (Nat.add pc 3))) L l M K n top nc ns
noncomputable def mz_k_ifc_lt (own mn : String) (cc : ByteArray) (mo : Nat) (ret : Option FieldType) (e pc : Nat) : Bool := decide (decode cc pc = .ok (.ifCond .lt (Int.ofNat (mz_ex e) - Int.ofNat pc), 3))
theorem mz_t_ifc_lt (mk : mz_Mk) : mz_Lk mk mz_s_ifc_lt mz_k_ifc_lt := by
  intro X own cc F nL mo d hs ret r call go e pc L st M K n top nc ns ⟨C, O, hnL, hR, hD, hE, hC, hG⟩ hk h
  have hd := of_decide_eq_true hk
  have hF : mz_F F (mz_rho X) := mz_CF C
  unfold mz_s_ifc_lt at h
  obtain ⟨x, l, rfl, hp⟩ := mz_p1_ok h
  have h := hp
  obtain ⟨a1, a2, b, h, a3⟩ := mz_cmp_ok hF h
  obtain ⟨g1, g2, g3⟩ := hG _ _ _ _ _ _ _ _ _ h
  exact ⟨g1, g2, mz_ifc C hd (mz_off _ _) a1 a3 g3⟩
