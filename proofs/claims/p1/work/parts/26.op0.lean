/-! THE STEPS, 0 -/
noncomputable def mz_s_iconst (F : Nat → Nat × Nat) (nL mo : Nat) (hs : List mz_Hr) (call : mz_Ca) (go : mz_Go) (e pc L : Nat) (st : List Nat) (M K n top nc ns : Nat) : Option mz_Rt :=
  mz_f (mz_n (mz_ea e)) fun w => go (Nat.add pc 1) L (w :: st) M K n top nc ns
noncomputable def mz_k_iconst (own mn : String) (cc : ByteArray) (mo : Nat) (ret : Option FieldType) (e pc : Nat) : Bool := decide (decode cc pc = .ok (.iconst (mz_z (mz_ea e)), 1) ∧ Int32.ofInt (mz_z (mz_ea e)) = nI (mz_ea e))
theorem mz_t_iconst (mk : mz_Mk) : mz_Lk mk mz_s_iconst mz_k_iconst := by
  intro X own cc F nL mo d hs ret r call go e pc L st M K n top nc ns ⟨C, O, hnL, hR, hD, hE, hC, hG⟩ hk h
  have hd := of_decide_eq_true hk
  unfold mz_s_iconst at h
  rw [mz_f_eq] at h
  obtain ⟨g1, g2, g3⟩ := hG _ _ _ _ _ _ _ _ _ h
  exact ⟨g1, g2, mz_iconst C hd.1 hd.2 g3⟩
noncomputable def mz_s_bipush (F : Nat → Nat × Nat) (nL mo : Nat) (hs : List mz_Hr) (call : mz_Ca) (go : mz_Go) (e pc L : Nat) (st : List Nat) (M K n top nc ns : Nat) : Option mz_Rt :=
  mz_f (mz_n (mz_ea e)) fun w => go (Nat.add pc 2) L (w :: st) M K n top nc ns
noncomputable def mz_k_bipush (own mn : String) (cc : ByteArray) (mo : Nat) (ret : Option FieldType) (e pc : Nat) : Bool := decide (decode cc pc = .ok (.bipush (mz_z (mz_ea e)), 2) ∧ (Int8.ofInt (mz_z (mz_ea e))).toInt32 = nI (mz_ea e))
theorem mz_t_bipush (mk : mz_Mk) : mz_Lk mk mz_s_bipush mz_k_bipush := by
  intro X own cc F nL mo d hs ret r call go e pc L st M K n top nc ns ⟨C, O, hnL, hR, hD, hE, hC, hG⟩ hk h
  have hd := of_decide_eq_true hk
  unfold mz_s_bipush at h
  rw [mz_f_eq] at h
  obtain ⟨g1, g2, g3⟩ := hG _ _ _ _ _ _ _ _ _ h
  exact ⟨g1, g2, mz_bipush C hd.1 hd.2 g3⟩
noncomputable def mz_s_sipush (F : Nat → Nat × Nat) (nL mo : Nat) (hs : List mz_Hr) (call : mz_Ca) (go : mz_Go) (e pc L : Nat) (st : List Nat) (M K n top nc ns : Nat) : Option mz_Rt :=
  mz_f (mz_n (mz_ea e)) fun w => go (Nat.add pc 3) L (w :: st) M K n top nc ns
noncomputable def mz_k_sipush (own mn : String) (cc : ByteArray) (mo : Nat) (ret : Option FieldType) (e pc : Nat) : Bool := decide (decode cc pc = .ok (.sipush (mz_z (mz_ea e)), 3) ∧ (Int16.ofInt (mz_z (mz_ea e))).toInt32 = nI (mz_ea e))
theorem mz_t_sipush (mk : mz_Mk) : mz_Lk mk mz_s_sipush mz_k_sipush := by
  intro X own cc F nL mo d hs ret r call go e pc L st M K n top nc ns ⟨C, O, hnL, hR, hD, hE, hC, hG⟩ hk h
  have hd := of_decide_eq_true hk
  unfold mz_s_sipush at h
  rw [mz_f_eq] at h
  obtain ⟨g1, g2, g3⟩ := hG _ _ _ _ _ _ _ _ _ h
  exact ⟨g1, g2, mz_sipush C hd.1 hd.2 g3⟩
noncomputable def mz_s_ldci (F : Nat → Nat × Nat) (nL mo : Nat) (hs : List mz_Hr) (call : mz_Ca) (go : mz_Go) (e pc L : Nat) (st : List Nat) (M K n top nc ns : Nat) : Option mz_Rt :=
  mz_f (mz_n (mz_ea e)) fun w => go (Nat.add pc 2) L (w :: st) M K n top nc ns
noncomputable def mz_k_ldci (own mn : String) (cc : ByteArray) (mo : Nat) (ret : Option FieldType) (e pc : Nat) : Bool := decide (decode cc pc = .ok (.ldc (mz_ex e), 2) ∧ Jvm.Cond.constant own (mz_ex e) (nI (mz_ea e)) ∈ mz_gG)
theorem mz_t_ldci (mk : mz_Mk) : mz_Lk mk mz_s_ldci mz_k_ldci := by
  intro X own cc F nL mo d hs ret r call go e pc L st M K n top nc ns ⟨C, O, hnL, hR, hD, hE, hC, hG⟩ hk h
  have hd := of_decide_eq_true hk
  unfold mz_s_ldci at h
  rw [mz_f_eq] at h
  obtain ⟨g1, g2, g3⟩ := hG _ _ _ _ _ _ _ _ _ h
  exact ⟨g1, g2, mz_ldci C hd.1 hd.2 rfl g3⟩
noncomputable def mz_s_ldcs (F : Nat → Nat × Nat) (nL mo : Nat) (hs : List mz_Hr) (call : mz_Ca) (go : mz_Go) (e pc L : Nat) (st : List Nat) (M K n top nc ns : Nat) : Option mz_Rt :=
  mz_f (mz_ow (Nat.add 1 (Nat.mul 2 (mz_ey e)))) fun w => go (Nat.add pc 2) L (w :: st) M K n top nc ns
noncomputable def mz_k_ldcs (own mn : String) (cc : ByteArray) (mo : Nat) (ret : Option FieldType) (e pc : Nat) : Bool := (mz_ci (decide (decode cc pc = .ok (.ldc (mz_ex e), 2))) ((mz_strs[mz_ey e]?).elim false (fun q => decide (q.1 = own ∧ q.2.1 = mz_ex e))) (false))
theorem mz_t_ldcs (mk : mz_Mk) : mz_Lk mk mz_s_ldcs mz_k_ldcs := by
  intro X own cc F nL mo d hs ret r call go e pc L st M K n top nc ns ⟨C, O, hnL, hR, hD, hE, hC, hG⟩ hk h
  obtain ⟨hd, hk⟩ := mz_bft hk
  have hd := of_decide_eq_true hd
  obtain ⟨⟨o1, i1, t1, b1⟩, hj, hk⟩ := mz_elim hk
  obtain ⟨rfl, rfl⟩ := of_decide_eq_true hk
  unfold mz_s_ldcs at h
  rw [mz_f_eq] at h
  obtain ⟨g1, g2, g3⟩ := hG _ _ _ _ _ _ _ _ _ h
  exact ⟨g1, g2, mz_ldcs C O hd hj g3⟩
noncomputable def mz_s_null (F : Nat → Nat × Nat) (nL mo : Nat) (hs : List mz_Hr) (call : mz_Ca) (go : mz_Go) (e pc L : Nat) (st : List Nat) (M K n top nc ns : Nat) : Option mz_Rt :=
  go (Nat.add pc 1) L (2 :: st) M K n top nc ns
noncomputable def mz_k_null (own mn : String) (cc : ByteArray) (mo : Nat) (ret : Option FieldType) (e pc : Nat) : Bool := decide (decode cc pc = .ok (.aconst_null, 1))
theorem mz_t_null (mk : mz_Mk) : mz_Lk mk mz_s_null mz_k_null := by
  intro X own cc F nL mo d hs ret r call go e pc L st M K n top nc ns ⟨C, O, hnL, hR, hD, hE, hC, hG⟩ hk h
  have hd := of_decide_eq_true hk
  unfold mz_s_null at h
  obtain ⟨g1, g2, g3⟩ := hG _ _ _ _ _ _ _ _ _ h
  exact ⟨g1, g2, mz_null C hd g3⟩
noncomputable def mz_s_lconst0 (F : Nat → Nat × Nat) (nL mo : Nat) (hs : List mz_Hr) (call : mz_Ca) (go : mz_Go) (e pc L : Nat) (st : List Nat) (M K n top nc ns : Nat) : Option mz_Rt :=
  go (Nat.add pc 1) L (3 :: st) M K n top nc ns
noncomputable def mz_k_lconst0 (own mn : String) (cc : ByteArray) (mo : Nat) (ret : Option FieldType) (e pc : Nat) : Bool := decide (decode cc pc = .ok (.lconst (0 : Fin 2), 1))
theorem mz_t_lconst0 (mk : mz_Mk) : mz_Lk mk mz_s_lconst0 mz_k_lconst0 := by
  intro X own cc F nL mo d hs ret r call go e pc L st M K n top nc ns ⟨C, O, hnL, hR, hD, hE, hC, hG⟩ hk h
  have hd := of_decide_eq_true hk
  unfold mz_s_lconst0 at h
  obtain ⟨g1, g2, g3⟩ := hG _ _ _ _ _ _ _ _ _ h
  exact ⟨g1, g2, mz_lconst (z := (0 : Fin 2)) C hd g3⟩
noncomputable def mz_s_lconst1 (F : Nat → Nat × Nat) (nL mo : Nat) (hs : List mz_Hr) (call : mz_Ca) (go : mz_Go) (e pc L : Nat) (st : List Nat) (M K n top nc ns : Nat) : Option mz_Rt :=
  go (Nat.add pc 1) L (19 :: st) M K n top nc ns
noncomputable def mz_k_lconst1 (own mn : String) (cc : ByteArray) (mo : Nat) (ret : Option FieldType) (e pc : Nat) : Bool := decide (decode cc pc = .ok (.lconst (1 : Fin 2), 1))
theorem mz_t_lconst1 (mk : mz_Mk) : mz_Lk mk mz_s_lconst1 mz_k_lconst1 := by
  intro X own cc F nL mo d hs ret r call go e pc L st M K n top nc ns ⟨C, O, hnL, hR, hD, hE, hC, hG⟩ hk h
  have hd := of_decide_eq_true hk
  unfold mz_s_lconst1 at h
  obtain ⟨g1, g2, g3⟩ := hG _ _ _ _ _ _ _ _ _ h
  exact ⟨g1, g2, mz_lconst (z := (1 : Fin 2)) C hd g3⟩
noncomputable def mz_s_fconst (F : Nat → Nat × Nat) (nL mo : Nat) (hs : List mz_Hr) (call : mz_Ca) (go : mz_Go) (e pc L : Nat) (st : List Nat) (M K n top nc ns : Nat) : Option mz_Rt :=
  go (Nat.add pc 1) L (7 :: st) M K n top nc ns
noncomputable def mz_k_fconst (own mn : String) (cc : ByteArray) (mo : Nat) (ret : Option FieldType) (e pc : Nat) : Bool := decide (decode cc pc = .ok (.fconst 0, 1))
theorem mz_t_fconst (mk : mz_Mk) : mz_Lk mk mz_s_fconst mz_k_fconst := by
  intro X own cc F nL mo d hs ret r call go e pc L st M K n top nc ns ⟨C, O, hnL, hR, hD, hE, hC, hG⟩ hk h
  have hd := of_decide_eq_true hk
  unfold mz_s_fconst at h
  obtain ⟨g1, g2, g3⟩ := hG _ _ _ _ _ _ _ _ _ h
  exact ⟨g1, g2, mz_fconst C hd g3⟩
noncomputable def mz_s_dconst (F : Nat → Nat × Nat) (nL mo : Nat) (hs : List mz_Hr) (call : mz_Ca) (go : mz_Go) (e pc L : Nat) (st : List Nat) (M K n top nc ns : Nat) : Option mz_Rt :=
  go (Nat.add pc 1) L (8 :: st) M K n top nc ns
noncomputable def mz_k_dconst (own mn : String) (cc : ByteArray) (mo : Nat) (ret : Option FieldType) (e pc : Nat) : Bool := decide (decode cc pc = .ok (.dconst 0, 1))
theorem mz_t_dconst (mk : mz_Mk) : mz_Lk mk mz_s_dconst mz_k_dconst := by
  intro X own cc F nL mo d hs ret r call go e pc L st M K n top nc ns ⟨C, O, hnL, hR, hD, hE, hC, hG⟩ hk h
  have hd := of_decide_eq_true hk
  unfold mz_s_dconst at h
  obtain ⟨g1, g2, g3⟩ := hG _ _ _ _ _ _ _ _ _ h
  exact ⟨g1, g2, mz_dconst C hd g3⟩
noncomputable def mz_s_iloadn (F : Nat → Nat × Nat) (nL mo : Nat) (hs : List mz_Hr) (call : mz_Ca) (go : mz_Go) (e pc L : Nat) (st : List Nat) (M K n top nc ns : Nat) : Option mz_Rt :=
  mz_f (mz_g L (Nat.mod (mz_ex e) 4)) fun w => (mz_ci (mz_I w) (go (Nat.succ pc) L (w :: st) M K n top nc ns) (none))
noncomputable def mz_k_iloadn (own mn : String) (cc : ByteArray) (mo : Nat) (ret : Option FieldType) (e pc : Nat) : Bool := decide (decode cc pc = .ok (.iload_n (mz_j e), 1))
theorem mz_t_iloadn (mk : mz_Mk) : mz_Lk mk mz_s_iloadn mz_k_iloadn := by
  intro X own cc F nL mo d hs ret r call go e pc L st M K n top nc ns ⟨C, O, hnL, hR, hD, hE, hC, hG⟩ hk h
  have hd := of_decide_eq_true hk
  unfold mz_s_iloadn at h
  rw [mz_f_eq] at h
  obtain ⟨h1, h⟩ := mz_ift h
  obtain ⟨g1, g2, g3⟩ := hG _ _ _ _ _ _ _ _ _ h
  exact ⟨g1, g2, mz_iload_n C hd h1 g3⟩
noncomputable def mz_s_iload (F : Nat → Nat × Nat) (nL mo : Nat) (hs : List mz_Hr) (call : mz_Ca) (go : mz_Go) (e pc L : Nat) (st : List Nat) (M K n top nc ns : Nat) : Option mz_Rt :=
  mz_f (mz_g L (mz_ex e)) fun w => (mz_ci (mz_I w) (go (Nat.add pc 2) L (w :: st) M K n top nc ns) (none))
noncomputable def mz_k_iload (own mn : String) (cc : ByteArray) (mo : Nat) (ret : Option FieldType) (e pc : Nat) : Bool := decide (decode cc pc = .ok (.iload (mz_ex e), 2))
theorem mz_t_iload (mk : mz_Mk) : mz_Lk mk mz_s_iload mz_k_iload := by
  intro X own cc F nL mo d hs ret r call go e pc L st M K n top nc ns ⟨C, O, hnL, hR, hD, hE, hC, hG⟩ hk h
  have hd := of_decide_eq_true hk
  unfold mz_s_iload at h
  rw [mz_f_eq] at h
  obtain ⟨h1, h⟩ := mz_ift h
  obtain ⟨g1, g2, g3⟩ := hG _ _ _ _ _ _ _ _ _ h
  exact ⟨g1, g2, mz_iload C hd h1 g3⟩
noncomputable def mz_s_lloadn (F : Nat → Nat × Nat) (nL mo : Nat) (hs : List mz_Hr) (call : mz_Ca) (go : mz_Go) (e pc L : Nat) (st : List Nat) (M K n top nc ns : Nat) : Option mz_Rt :=
  mz_f (mz_g L (Nat.mod (mz_ex e) 4)) fun w => (mz_ci (mz_L w) (go (Nat.succ pc) L (w :: st) M K n top nc ns) (none))
noncomputable def mz_k_lloadn (own mn : String) (cc : ByteArray) (mo : Nat) (ret : Option FieldType) (e pc : Nat) : Bool := decide (decode cc pc = .ok (.lload_n (mz_j e), 1))
theorem mz_t_lloadn (mk : mz_Mk) : mz_Lk mk mz_s_lloadn mz_k_lloadn := by
  intro X own cc F nL mo d hs ret r call go e pc L st M K n top nc ns ⟨C, O, hnL, hR, hD, hE, hC, hG⟩ hk h
  have hd := of_decide_eq_true hk
  unfold mz_s_lloadn at h
  rw [mz_f_eq] at h
  obtain ⟨h1, h⟩ := mz_ift h
  obtain ⟨g1, g2, g3⟩ := hG _ _ _ _ _ _ _ _ _ h
  exact ⟨g1, g2, mz_lload_n C hd h1 g3⟩
noncomputable def mz_s_aloadn (F : Nat → Nat × Nat) (nL mo : Nat) (hs : List mz_Hr) (call : mz_Ca) (go : mz_Go) (e pc L : Nat) (st : List Nat) (M K n top nc ns : Nat) : Option mz_Rt :=
  mz_f (mz_g L (Nat.mod (mz_ex e) 4)) fun w => (mz_ci (mz_R w) (go (Nat.succ pc) L (w :: st) M K n top nc ns) (none))
noncomputable def mz_k_aloadn (own mn : String) (cc : ByteArray) (mo : Nat) (ret : Option FieldType) (e pc : Nat) : Bool := decide (decode cc pc = .ok (.aload_n (mz_j e), 1))
theorem mz_t_aloadn (mk : mz_Mk) : mz_Lk mk mz_s_aloadn mz_k_aloadn := by
  intro X own cc F nL mo d hs ret r call go e pc L st M K n top nc ns ⟨C, O, hnL, hR, hD, hE, hC, hG⟩ hk h
  have hd := of_decide_eq_true hk
  unfold mz_s_aloadn at h
  rw [mz_f_eq] at h
  obtain ⟨h1, h⟩ := mz_ift h
  obtain ⟨g1, g2, g3⟩ := hG _ _ _ _ _ _ _ _ _ h
  exact ⟨g1, g2, mz_aload_n C hd h1 g3⟩
noncomputable def mz_s_aload (F : Nat → Nat × Nat) (nL mo : Nat) (hs : List mz_Hr) (call : mz_Ca) (go : mz_Go) (e pc L : Nat) (st : List Nat) (M K n top nc ns : Nat) : Option mz_Rt :=
  mz_f (mz_g L (mz_ex e)) fun w => (mz_ci (mz_R w) (go (Nat.add pc 2) L (w :: st) M K n top nc ns) (none))
noncomputable def mz_k_aload (own mn : String) (cc : ByteArray) (mo : Nat) (ret : Option FieldType) (e pc : Nat) : Bool := decide (decode cc pc = .ok (.aload (mz_ex e), 2))
theorem mz_t_aload (mk : mz_Mk) : mz_Lk mk mz_s_aload mz_k_aload := by
  intro X own cc F nL mo d hs ret r call go e pc L st M K n top nc ns ⟨C, O, hnL, hR, hD, hE, hC, hG⟩ hk h
  have hd := of_decide_eq_true hk
  unfold mz_s_aload at h
  rw [mz_f_eq] at h
  obtain ⟨h1, h⟩ := mz_ift h
  obtain ⟨g1, g2, g3⟩ := hG _ _ _ _ _ _ _ _ _ h
  exact ⟨g1, g2, mz_aload C hd h1 g3⟩
noncomputable def mz_s_istoren (F : Nat → Nat × Nat) (nL mo : Nat) (hs : List mz_Hr) (call : mz_Ca) (go : mz_Go) (e pc L : Nat) (st : List Nat) (M K n top nc ns : Nat) : Option mz_Rt :=
  mz_p1 st fun w l => (mz_ci (mz_I w) ((mz_ci (mz_wf w) ((mz_ci (mz_b4 L (Nat.mod (mz_ex e) 4)) ((mz_ci (Nat.ble (Nat.succ (Nat.mod (mz_ex e) 4)) nL) (mz_f (mz_p L (Nat.mod (mz_ex e) 4) w) fun L2 => go (Nat.add pc 1) L2 l M K n top nc ns) (none))) (none))) (none))) (none))
noncomputable def mz_k_istoren (own mn : String) (cc : ByteArray) (mo : Nat) (ret : Option FieldType) (e pc : Nat) : Bool := decide (decode cc pc = .ok (.istore_n (mz_j e), 1))
theorem mz_t_istoren (mk : mz_Mk) : mz_Lk mk mz_s_istoren mz_k_istoren := by
  intro X own cc F nL mo d hs ret r call go e pc L st M K n top nc ns ⟨C, O, hnL, hR, hD, hE, hC, hG⟩ hk h
  have hd := of_decide_eq_true hk
  unfold mz_s_istoren at h
  obtain ⟨w, l, rfl, hp⟩ := mz_p1_ok h
  have h := hp
  obtain ⟨h1, h⟩ := mz_ift h
  obtain ⟨h2, h⟩ := mz_ift h
  obtain ⟨h3, h⟩ := mz_ift h
  obtain ⟨h4, h⟩ := mz_ift h
  rw [mz_f_eq] at h
  obtain ⟨g1, g2, g3⟩ := hG _ _ _ _ _ _ _ _ _ h
  exact ⟨g1, g2, mz_istore_n C hd h1 (mz_wf_ok h2) h3 (by rw [hnL]; exact mz_bl h4) g3⟩
noncomputable def mz_s_istore (F : Nat → Nat × Nat) (nL mo : Nat) (hs : List mz_Hr) (call : mz_Ca) (go : mz_Go) (e pc L : Nat) (st : List Nat) (M K n top nc ns : Nat) : Option mz_Rt :=
  mz_p1 st fun w l => (mz_ci (mz_I w) ((mz_ci (mz_wf w) ((mz_ci (mz_b4 L (mz_ex e)) ((mz_ci (Nat.ble (Nat.succ (mz_ex e)) nL) (mz_f (mz_p L (mz_ex e) w) fun L2 => go (Nat.add pc 2) L2 l M K n top nc ns) (none))) (none))) (none))) (none))
noncomputable def mz_k_istore (own mn : String) (cc : ByteArray) (mo : Nat) (ret : Option FieldType) (e pc : Nat) : Bool := decide (decode cc pc = .ok (.istore (mz_ex e), 2))
theorem mz_t_istore (mk : mz_Mk) : mz_Lk mk mz_s_istore mz_k_istore := by
  intro X own cc F nL mo d hs ret r call go e pc L st M K n top nc ns ⟨C, O, hnL, hR, hD, hE, hC, hG⟩ hk h
  have hd := of_decide_eq_true hk
  unfold mz_s_istore at h
  obtain ⟨w, l, rfl, hp⟩ := mz_p1_ok h
  have h := hp
  obtain ⟨h1, h⟩ := mz_ift h
  obtain ⟨h2, h⟩ := mz_ift h
  obtain ⟨h3, h⟩ := mz_ift h
  obtain ⟨h4, h⟩ := mz_ift h
  rw [mz_f_eq] at h
  obtain ⟨g1, g2, g3⟩ := hG _ _ _ _ _ _ _ _ _ h
  exact ⟨g1, g2, mz_istore C hd h1 (mz_wf_ok h2) h3 (by rw [hnL]; exact mz_bl h4) g3⟩
noncomputable def mz_s_astoren (F : Nat → Nat × Nat) (nL mo : Nat) (hs : List mz_Hr) (call : mz_Ca) (go : mz_Go) (e pc L : Nat) (st : List Nat) (M K n top nc ns : Nat) : Option mz_Rt :=
  mz_p1 st fun w l => (mz_ci (mz_R w) ((mz_ci (mz_wf w) ((mz_ci (mz_b4 L (Nat.mod (mz_ex e) 4)) ((mz_ci (Nat.ble (Nat.succ (Nat.mod (mz_ex e) 4)) nL) (mz_f (mz_p L (Nat.mod (mz_ex e) 4) w) fun L2 => go (Nat.add pc 1) L2 l M K n top nc ns) (none))) (none))) (none))) (none))
noncomputable def mz_k_astoren (own mn : String) (cc : ByteArray) (mo : Nat) (ret : Option FieldType) (e pc : Nat) : Bool := decide (decode cc pc = .ok (.astore_n (mz_j e), 1))
theorem mz_t_astoren (mk : mz_Mk) : mz_Lk mk mz_s_astoren mz_k_astoren := by
  intro X own cc F nL mo d hs ret r call go e pc L st M K n top nc ns ⟨C, O, hnL, hR, hD, hE, hC, hG⟩ hk h
  have hd := of_decide_eq_true hk
  unfold mz_s_astoren at h
  obtain ⟨w, l, rfl, hp⟩ := mz_p1_ok h
  have h := hp
  obtain ⟨h1, h⟩ := mz_ift h
  obtain ⟨h2, h⟩ := mz_ift h
  obtain ⟨h3, h⟩ := mz_ift h
  obtain ⟨h4, h⟩ := mz_ift h
  rw [mz_f_eq] at h
  obtain ⟨g1, g2, g3⟩ := hG _ _ _ _ _ _ _ _ _ h
  exact ⟨g1, g2, mz_astore_n C hd h1 (mz_wf_ok h2) h3 (by rw [hnL]; exact mz_bl h4) g3⟩
noncomputable def mz_s_astore (F : Nat → Nat × Nat) (nL mo : Nat) (hs : List mz_Hr) (call : mz_Ca) (go : mz_Go) (e pc L : Nat) (st : List Nat) (M K n top nc ns : Nat) : Option mz_Rt :=
  mz_p1 st fun w l => (mz_ci (mz_R w) ((mz_ci (mz_wf w) ((mz_ci (mz_b4 L (mz_ex e)) ((mz_ci (Nat.ble (Nat.succ (mz_ex e)) nL) (mz_f (mz_p L (mz_ex e) w) fun L2 => go (Nat.add pc 2) L2 l M K n top nc ns) (none))) (none))) (none))) (none))
noncomputable def mz_k_astore (own mn : String) (cc : ByteArray) (mo : Nat) (ret : Option FieldType) (e pc : Nat) : Bool := decide (decode cc pc = .ok (.astore (mz_ex e), 2))
theorem mz_t_astore (mk : mz_Mk) : mz_Lk mk mz_s_astore mz_k_astore := by
  intro X own cc F nL mo d hs ret r call go e pc L st M K n top nc ns ⟨C, O, hnL, hR, hD, hE, hC, hG⟩ hk h
  have hd := of_decide_eq_true hk
  unfold mz_s_astore at h
  obtain ⟨w, l, rfl, hp⟩ := mz_p1_ok h
  have h := hp
  obtain ⟨h1, h⟩ := mz_ift h
  obtain ⟨h2, h⟩ := mz_ift h
  obtain ⟨h3, h⟩ := mz_ift h
  obtain ⟨h4, h⟩ := mz_ift h
  rw [mz_f_eq] at h
  obtain ⟨g1, g2, g3⟩ := hG _ _ _ _ _ _ _ _ _ h
  exact ⟨g1, g2, mz_astore C hd h1 (mz_wf_ok h2) h3 (by rw [hnL]; exact mz_bl h4) g3⟩
noncomputable def mz_s_lstoren (F : Nat → Nat × Nat) (nL mo : Nat) (hs : List mz_Hr) (call : mz_Ca) (go : mz_Go) (e pc L : Nat) (st : List Nat) (M K n top nc ns : Nat) : Option mz_Rt :=
  mz_p1 st fun w l => (mz_ci (mz_L w) ((mz_ci (mz_wf w) ((mz_ci (mz_b4 L (Nat.mod (mz_ex e) 4)) ((mz_ci (Nat.ble (Nat.succ (Nat.succ (Nat.mod (mz_ex e) 4))) nL) (mz_f (mz_p (mz_p L (Nat.mod (mz_ex e) 4) w) (Nat.succ (Nat.mod (mz_ex e) 4)) 0) fun L2 => go (Nat.add pc 1) L2 l M K n top nc ns) (none))) (none))) (none))) (none))
noncomputable def mz_k_lstoren (own mn : String) (cc : ByteArray) (mo : Nat) (ret : Option FieldType) (e pc : Nat) : Bool := decide (decode cc pc = .ok (.lstore_n (mz_j e), 1))
theorem mz_t_lstoren (mk : mz_Mk) : mz_Lk mk mz_s_lstoren mz_k_lstoren := by
  intro X own cc F nL mo d hs ret r call go e pc L st M K n top nc ns ⟨C, O, hnL, hR, hD, hE, hC, hG⟩ hk h
  have hd := of_decide_eq_true hk
  unfold mz_s_lstoren at h
  obtain ⟨w, l, rfl, hp⟩ := mz_p1_ok h
  have h := hp
  obtain ⟨h1, h⟩ := mz_ift h
  obtain ⟨h2, h⟩ := mz_ift h
  obtain ⟨h3, h⟩ := mz_ift h
  obtain ⟨h4, h⟩ := mz_ift h
  rw [mz_f_eq] at h
  obtain ⟨g1, g2, g3⟩ := hG _ _ _ _ _ _ _ _ _ h
  exact ⟨g1, g2, mz_lstore_n C hd h1 (mz_wf_ok h2) h3 (by rw [hnL]; exact mz_bl h4) g3⟩
noncomputable def mz_s_fstore (F : Nat → Nat × Nat) (nL mo : Nat) (hs : List mz_Hr) (call : mz_Ca) (go : mz_Go) (e pc L : Nat) (st : List Nat) (M K n top nc ns : Nat) : Option mz_Rt :=
  mz_p1 st fun w l => (mz_ci (Nat.beq w 7) ((mz_ci (mz_b4 L (mz_ex e)) ((mz_ci (Nat.ble (Nat.succ (mz_ex e)) nL) (mz_f (mz_p L (mz_ex e) 7) fun L2 => go (Nat.add pc 2) L2 l M K n top nc ns) (none))) (none))) (none))
noncomputable def mz_k_fstore (own mn : String) (cc : ByteArray) (mo : Nat) (ret : Option FieldType) (e pc : Nat) : Bool := decide (decode cc pc = .ok (.fstore (mz_ex e), 2))
theorem mz_t_fstore (mk : mz_Mk) : mz_Lk mk mz_s_fstore mz_k_fstore := by
  intro X own cc F nL mo d hs ret r call go e pc L st M K n top nc ns ⟨C, O, hnL, hR, hD, hE, hC, hG⟩ hk h
  have hd := of_decide_eq_true hk
  unfold mz_s_fstore at h
  obtain ⟨w, l, rfl, hp⟩ := mz_p1_ok h
  have h := hp
  obtain ⟨h1, h⟩ := mz_ift h
  obtain ⟨h3, h⟩ := mz_ift h
  obtain ⟨h4, h⟩ := mz_ift h
  rw [mz_f_eq] at h
  obtain ⟨g1, g2, g3⟩ := hG _ _ _ _ _ _ _ _ _ h
  rw [mz_bq h1]
  exact ⟨g1, g2, mz_fstore C hd h3 (by rw [hnL]; exact mz_bl h4) g3⟩
noncomputable def mz_s_dstore (F : Nat → Nat × Nat) (nL mo : Nat) (hs : List mz_Hr) (call : mz_Ca) (go : mz_Go) (e pc L : Nat) (st : List Nat) (M K n top nc ns : Nat) : Option mz_Rt :=
  mz_p1 st fun w l => (mz_ci (Nat.beq w 8) ((mz_ci (mz_b4 L (mz_ex e)) ((mz_ci (Nat.ble (Nat.succ (Nat.succ (mz_ex e))) nL) (mz_f (mz_p (mz_p L (mz_ex e) 8) (Nat.succ (mz_ex e)) 0) fun L2 => go (Nat.add pc 2) L2 l M K n top nc ns) (none))) (none))) (none))
noncomputable def mz_k_dstore (own mn : String) (cc : ByteArray) (mo : Nat) (ret : Option FieldType) (e pc : Nat) : Bool := decide (decode cc pc = .ok (.dstore (mz_ex e), 2))
theorem mz_t_dstore (mk : mz_Mk) : mz_Lk mk mz_s_dstore mz_k_dstore := by
  intro X own cc F nL mo d hs ret r call go e pc L st M K n top nc ns ⟨C, O, hnL, hR, hD, hE, hC, hG⟩ hk h
  have hd := of_decide_eq_true hk
  unfold mz_s_dstore at h
  obtain ⟨w, l, rfl, hp⟩ := mz_p1_ok h
  have h := hp
  obtain ⟨h1, h⟩ := mz_ift h
  obtain ⟨h3, h⟩ := mz_ift h
  obtain ⟨h4, h⟩ := mz_ift h
  rw [mz_f_eq] at h
  obtain ⟨g1, g2, g3⟩ := hG _ _ _ _ _ _ _ _ _ h
  rw [mz_bq h1]
  exact ⟨g1, g2, mz_dstore C hd h3 (by rw [hnL]; exact mz_bl h4) g3⟩
