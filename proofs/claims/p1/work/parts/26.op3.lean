/-! THE STEPS, 3 -/
noncomputable def mz_s_strL (F : Nat → Nat × Nat) (nL mo : Nat) (hs : List mz_Hr) (call : mz_Ca) (go : mz_Go) (e pc L : Nat) (st : List Nat) (M K n top nc ns : Nat) : Option mz_Rt :=
  mz_p1 st fun x l => mz_bj x fun j => mz_f (mz_n (mz_len (mz_sbs.getD j []))) fun w => go (Nat.succ pc) L (w :: l) M K n top nc ns
noncomputable def mz_k_strL (own mn : String) (cc : ByteArray) (mo : Nat) (ret : Option FieldType) (e pc : Nat) : Bool := decide (decode cc pc = .ok (.arraylength, 1))
theorem mz_t_strL (mk : mz_Mk) : mz_Lk mk mz_s_strL mz_k_strL := by
  intro X own cc F nL mo d hs ret r call go e pc L st M K n top nc ns ⟨C, O, hnL, hR, hD, hE, hC, hG⟩ hk h
  have hd := of_decide_eq_true hk
  unfold mz_s_strL at h
  obtain ⟨x, l, rfl, hp⟩ := mz_p1_ok h
  have h := hp
  obtain ⟨j, q, rfl, hj, h2⟩ := mz_bj_ok h
  have h := h2
  rw [mz_f_eq] at h
  rw [mz_len_eq, ← (mz_sbs_ok hj).1] at h
  obtain ⟨g1, g2, g3⟩ := hG _ _ _ _ _ _ _ _ _ h
  exact ⟨g1, g2, mz_strL C O hd hj g3⟩
noncomputable def mz_s_strB (F : Nat → Nat × Nat) (nL mo : Nat) (hs : List mz_Hr) (call : mz_Ca) (go : mz_Go) (e pc L : Nat) (st : List Nat) (M K n top nc ns : Nat) : Option mz_Rt :=
  mz_p1 st fun i l => mz_p1 l fun x l => mz_bj x fun j => (mz_ci (mz_sm i) ((mz_ci (Nat.ble (Nat.succ (mz_q i)) (mz_len (mz_sbs.getD j []))) (mz_f (mz_n ((mz_sbs.getD j []).getD (mz_q i) 0)) fun w => go (Nat.succ pc) L (w :: l) M K n top nc ns) (none))) (none))
noncomputable def mz_k_strB (own mn : String) (cc : ByteArray) (mo : Nat) (ret : Option FieldType) (e pc : Nat) : Bool := decide (decode cc pc = .ok (.baload, 1))
theorem mz_t_strB (mk : mz_Mk) : mz_Lk mk mz_s_strB mz_k_strB := by
  intro X own cc F nL mo d hs ret r call go e pc L st M K n top nc ns ⟨C, O, hnL, hR, hD, hE, hC, hG⟩ hk h
  have hd := of_decide_eq_true hk
  unfold mz_s_strB at h
  obtain ⟨i, l, rfl, hp⟩ := mz_p1_ok h
  obtain ⟨x, l, rfl, hq⟩ := mz_p1_ok hp
  obtain ⟨j, q, rfl, hj, h2⟩ := mz_bj_ok hq
  have h := h2
  obtain ⟨a1, h⟩ := mz_ift h
  obtain ⟨a2, h⟩ := mz_ift h
  rw [mz_f_eq] at h
  rw [mz_len_eq, ← (mz_sbs_ok hj).1] at a2
  obtain ⟨g1, g2, g3⟩ := hG _ _ _ _ _ _ _ _ _ h
  exact ⟨g1, g2, mz_strB C O hd hj a1 (mz_bl a2) ((mz_sbs_ok hj).2 _) g3⟩
noncomputable def mz_s_alen (F : Nat → Nat × Nat) (nL mo : Nat) (hs : List mz_Hr) (call : mz_Ca) (go : mz_Go) (e pc L : Nat) (st : List Nat) (M K n top nc ns : Nat) : Option mz_Rt :=
  mz_p1 st fun x l => (mz_ci (mz_ref n x) (mz_f (mz_g K (mz_k x)) fun kd => (mz_ci (Nat.ble 64 (Nat.mod kd 256)) ((mz_ci (Nat.ble (Nat.succ (Nat.mod kd 256)) 73) (mz_f (mz_n (Nat.mod (Nat.div kd 256) 65536)) fun w => go (Nat.succ pc) L (w :: l) M K n top nc ns) (none))) (none))) ((mz_ci (Nat.beq x (mz_ow 0)) (go (Nat.succ pc) L (1 :: l) M K n top nc ns) (none))))
noncomputable def mz_k_alen (own mn : String) (cc : ByteArray) (mo : Nat) (ret : Option FieldType) (e pc : Nat) : Bool := decide (decode cc pc = .ok (.arraylength, 1))
theorem mz_t_alen (mk : mz_Mk) : mz_Lk mk mz_s_alen mz_k_alen := by
  intro X own cc F nL mo d hs ret r call go e pc L st M K n top nc ns ⟨C, O, hnL, hR, hD, hE, hC, hG⟩ hk h
  have hd := of_decide_eq_true hk
  unfold mz_s_alen at h
  obtain ⟨x, l, rfl, hp⟩ := mz_p1_ok h
  have h := hp
  rcases mz_if h with ⟨a1, h⟩ | ⟨-, h⟩
  · rw [mz_f_eq] at h
    obtain ⟨a2, h⟩ := mz_ift h
    obtain ⟨a3, h⟩ := mz_ift h
    rw [mz_f_eq] at h
    obtain ⟨g1, g2, g3⟩ := hG _ _ _ _ _ _ _ _ _ h
    have b2 : 64 ≤ mz_ct K (mz_k x) := mz_bl a2
    have b3 : mz_ct K (mz_k x) < 73 := mz_bl a3
    exact ⟨g1, g2, mz_alen (t := mz_ct K (mz_k x) - 64) C hd a1 (by omega) (by omega) g3⟩
  · obtain ⟨a1, h⟩ := mz_ift h
    rw [mz_bq a1]
    obtain ⟨g1, g2, g3⟩ := hG _ _ _ _ _ _ _ _ _ h
    exact ⟨g1, g2, mz_emptyL C O hd g3⟩
noncomputable def mz_s_slen (F : Nat → Nat × Nat) (nL mo : Nat) (hs : List mz_Hr) (call : mz_Ca) (go : mz_Go) (e pc L : Nat) (st : List Nat) (M K n top nc ns : Nat) : Option mz_Rt :=
  mz_p1 st fun x l => (mz_ci (Nat.beq x (mz_ow 99)) (mz_f (mz_n (Nat.sub mo 2)) fun w => go (Nat.succ pc) L (w :: l) M K n top nc ns) (none))
noncomputable def mz_k_slen (own mn : String) (cc : ByteArray) (mo : Nat) (ret : Option FieldType) (e pc : Nat) : Bool := decide (decode cc pc = .ok (.arraylength, 1) ∧ 2 ≤ mo)
theorem mz_t_slen (mk : mz_Mk) : mz_Lk mk mz_s_slen mz_k_slen := by
  intro X own cc F nL mo d hs ret r call go e pc L st M K n top nc ns ⟨C, O, hnL, hR, hD, hE, hC, hG⟩ hk h
  obtain ⟨hd, hm⟩ := of_decide_eq_true hk
  unfold mz_s_slen at h
  obtain ⟨x, l, rfl, hp⟩ := mz_p1_ok h
  have h := hp
  obtain ⟨a1, h⟩ := mz_ift h
  rw [mz_f_eq] at h
  obtain ⟨g1, g2, g3⟩ := hG _ _ _ _ _ _ _ _ _ h
  rw [mz_bq a1]
  exact ⟨g1, g2, mz_slenG C (hE.2.2 (mo - 2) (by omega)) hd g3⟩
noncomputable def mz_s_sald (F : Nat → Nat × Nat) (nL mo : Nat) (hs : List mz_Hr) (call : mz_Ca) (go : mz_Go) (e pc L : Nat) (st : List Nat) (M K n top nc ns : Nat) : Option mz_Rt :=
  mz_p1 st fun i l => mz_p1 l fun x l => (mz_ci (Nat.beq x (mz_ow 99)) ((mz_ci (mz_sm i) ((mz_ci (Nat.ble (Nat.succ (mz_q i)) (Nat.sub mo 2)) ((mz_ci (Nat.ble (Nat.succ (mz_q i)) 4) (mz_var F (mz_q i) fun w => go (Nat.succ pc) L (w :: l) M K n top nc ns) (none))) (none))) (none))) (none))
noncomputable def mz_k_sald (own mn : String) (cc : ByteArray) (mo : Nat) (ret : Option FieldType) (e pc : Nat) : Bool := decide (decode cc pc = .ok (.iaload, 1) ∧ 2 ≤ mo)
theorem mz_t_sald (mk : mz_Mk) : mz_Lk mk mz_s_sald mz_k_sald := by
  intro X own cc F nL mo d hs ret r call go e pc L st M K n top nc ns ⟨C, O, hnL, hR, hD, hE, hC, hG⟩ hk h
  obtain ⟨hd, hm⟩ := of_decide_eq_true hk
  have hF : mz_F F (mz_rho X) := mz_CF C
  unfold mz_s_sald at h
  obtain ⟨i, l, rfl, hp⟩ := mz_p1_ok h
  obtain ⟨x, l, rfl, hq⟩ := mz_p1_ok hp
  have h := hq
  obtain ⟨a1, h⟩ := mz_ift h
  obtain ⟨a2, h⟩ := mz_ift h
  obtain ⟨a3, h⟩ := mz_ift h
  obtain ⟨a4, h⟩ := mz_ift h
  obtain ⟨w, h, b1, b2⟩ := mz_var_ok hF (Nat.lt_of_lt_of_le (mz_bl a4) (by decide)) h
  obtain ⟨g1, g2, g3⟩ := hG _ _ _ _ _ _ _ _ _ h
  rw [mz_bq a1]
  exact ⟨g1, g2, mz_saldG C (hE.2.2 (mo - 2) (by omega)) hd a2 (mz_bl a3) b1 b2 g3⟩
noncomputable def mz_s_iald (F : Nat → Nat × Nat) (nL mo : Nat) (hs : List mz_Hr) (call : mz_Ca) (go : mz_Go) (e pc L : Nat) (st : List Nat) (M K n top nc ns : Nat) : Option mz_Rt :=
  mz_p1 st fun i l => mz_p1 l fun x l => (mz_ci (mz_ref n x) (mz_f (mz_g K (mz_k x)) fun kd => (mz_ci (Nat.beq (Nat.mod kd 256) 64) ((mz_ci (mz_sm i) ((mz_ci (Nat.ble (Nat.succ (mz_q i)) (Nat.mod (Nat.div kd 256) 65536)) (mz_f (mz_g M (Nat.add (Nat.div kd 16777216) (mz_q i))) fun w => (mz_ci (mz_I w) (go (Nat.succ pc) L (w :: l) M K n top nc ns) (none))) (none))) (none))) (none))) (none))
noncomputable def mz_k_iald (own mn : String) (cc : ByteArray) (mo : Nat) (ret : Option FieldType) (e pc : Nat) : Bool := decide (decode cc pc = .ok (.iaload, 1))
theorem mz_t_iald (mk : mz_Mk) : mz_Lk mk mz_s_iald mz_k_iald := by
  intro X own cc F nL mo d hs ret r call go e pc L st M K n top nc ns ⟨C, O, hnL, hR, hD, hE, hC, hG⟩ hk h
  have hd := of_decide_eq_true hk
  unfold mz_s_iald at h
  obtain ⟨i, l, rfl, hp⟩ := mz_p1_ok h
  obtain ⟨x, l, rfl, hq⟩ := mz_p1_ok hp
  have h := hq
  obtain ⟨a1, h⟩ := mz_ift h
  rw [mz_f_eq] at h
  obtain ⟨a2, h⟩ := mz_ift h
  obtain ⟨a3, h⟩ := mz_ift h
  obtain ⟨a4, h⟩ := mz_ift h
  rw [mz_f_eq] at h
  obtain ⟨a5, h⟩ := mz_ift h
  obtain ⟨g1, g2, g3⟩ := hG _ _ _ _ _ _ _ _ _ h
  exact ⟨g1, g2, mz_xald (t := 0) C hd (Or.inl ⟨rfl, rfl⟩) a1 (mz_bq a2) a3 (mz_bl a4) a5 g3⟩
noncomputable def mz_s_cald (F : Nat → Nat × Nat) (nL mo : Nat) (hs : List mz_Hr) (call : mz_Ca) (go : mz_Go) (e pc L : Nat) (st : List Nat) (M K n top nc ns : Nat) : Option mz_Rt :=
  mz_p1 st fun i l => mz_p1 l fun x l => (mz_ci (mz_ref n x) (mz_f (mz_g K (mz_k x)) fun kd => (mz_ci (Nat.beq (Nat.mod kd 256) 66) ((mz_ci (mz_sm i) ((mz_ci (Nat.ble (Nat.succ (mz_q i)) (Nat.mod (Nat.div kd 256) 65536)) (mz_f (mz_g M (Nat.add (Nat.div kd 16777216) (mz_q i))) fun w => (mz_ci (mz_I w) (go (Nat.succ pc) L (w :: l) M K n top nc ns) (none))) (none))) (none))) (none))) (none))
noncomputable def mz_k_cald (own mn : String) (cc : ByteArray) (mo : Nat) (ret : Option FieldType) (e pc : Nat) : Bool := decide (decode cc pc = .ok (.caload, 1))
theorem mz_t_cald (mk : mz_Mk) : mz_Lk mk mz_s_cald mz_k_cald := by
  intro X own cc F nL mo d hs ret r call go e pc L st M K n top nc ns ⟨C, O, hnL, hR, hD, hE, hC, hG⟩ hk h
  have hd := of_decide_eq_true hk
  unfold mz_s_cald at h
  obtain ⟨i, l, rfl, hp⟩ := mz_p1_ok h
  obtain ⟨x, l, rfl, hq⟩ := mz_p1_ok hp
  have h := hq
  obtain ⟨a1, h⟩ := mz_ift h
  rw [mz_f_eq] at h
  obtain ⟨a2, h⟩ := mz_ift h
  obtain ⟨a3, h⟩ := mz_ift h
  obtain ⟨a4, h⟩ := mz_ift h
  rw [mz_f_eq] at h
  obtain ⟨a5, h⟩ := mz_ift h
  obtain ⟨g1, g2, g3⟩ := hG _ _ _ _ _ _ _ _ _ h
  exact ⟨g1, g2, mz_xald (t := 2) C hd (Or.inr (Or.inl ⟨rfl, rfl⟩)) a1 (mz_bq a2) a3 (mz_bl a4) a5 g3⟩
noncomputable def mz_s_bald (F : Nat → Nat × Nat) (nL mo : Nat) (hs : List mz_Hr) (call : mz_Ca) (go : mz_Go) (e pc L : Nat) (st : List Nat) (M K n top nc ns : Nat) : Option mz_Rt :=
  mz_p1 st fun i l => mz_p1 l fun x l => (mz_ci (mz_ref n x) (mz_f (mz_g K (mz_k x)) fun kd => (mz_ci (Nat.beq (Nat.mod kd 256) 67) ((mz_ci (mz_sm i) ((mz_ci (Nat.ble (Nat.succ (mz_q i)) (Nat.mod (Nat.div kd 256) 65536)) (mz_f (mz_g M (Nat.add (Nat.div kd 16777216) (mz_q i))) fun w => (mz_ci (mz_I w) (go (Nat.succ pc) L (w :: l) M K n top nc ns) (none))) (none))) (none))) (none))) (none))
noncomputable def mz_k_bald (own mn : String) (cc : ByteArray) (mo : Nat) (ret : Option FieldType) (e pc : Nat) : Bool := decide (decode cc pc = .ok (.baload, 1))
theorem mz_t_bald (mk : mz_Mk) : mz_Lk mk mz_s_bald mz_k_bald := by
  intro X own cc F nL mo d hs ret r call go e pc L st M K n top nc ns ⟨C, O, hnL, hR, hD, hE, hC, hG⟩ hk h
  have hd := of_decide_eq_true hk
  unfold mz_s_bald at h
  obtain ⟨i, l, rfl, hp⟩ := mz_p1_ok h
  obtain ⟨x, l, rfl, hq⟩ := mz_p1_ok hp
  have h := hq
  obtain ⟨a1, h⟩ := mz_ift h
  rw [mz_f_eq] at h
  obtain ⟨a2, h⟩ := mz_ift h
  obtain ⟨a3, h⟩ := mz_ift h
  obtain ⟨a4, h⟩ := mz_ift h
  rw [mz_f_eq] at h
  obtain ⟨a5, h⟩ := mz_ift h
  obtain ⟨g1, g2, g3⟩ := hG _ _ _ _ _ _ _ _ _ h
  exact ⟨g1, g2, mz_xald (t := 3) C hd (Or.inr (Or.inr ⟨rfl, rfl⟩)) a1 (mz_bq a2) a3 (mz_bl a4) a5 g3⟩
noncomputable def mz_s_lald (F : Nat → Nat × Nat) (nL mo : Nat) (hs : List mz_Hr) (call : mz_Ca) (go : mz_Go) (e pc L : Nat) (st : List Nat) (M K n top nc ns : Nat) : Option mz_Rt :=
  mz_p1 st fun i l => mz_p1 l fun x l => (mz_ci (mz_ref n x) (mz_f (mz_g K (mz_k x)) fun kd => (mz_ci (Nat.beq (Nat.mod kd 256) 65) ((mz_ci (mz_sm i) ((mz_ci (Nat.ble (Nat.succ (mz_q i)) (Nat.mod (Nat.div kd 256) 65536)) (mz_f (mz_g M (Nat.add (Nat.div kd 16777216) (mz_q i))) fun w => (mz_ci (mz_L w) (go (Nat.succ pc) L (w :: l) M K n top nc ns) (none))) (none))) (none))) (none))) (none))
noncomputable def mz_k_lald (own mn : String) (cc : ByteArray) (mo : Nat) (ret : Option FieldType) (e pc : Nat) : Bool := decide (decode cc pc = .ok (.laload, 1))
theorem mz_t_lald (mk : mz_Mk) : mz_Lk mk mz_s_lald mz_k_lald := by
  intro X own cc F nL mo d hs ret r call go e pc L st M K n top nc ns ⟨C, O, hnL, hR, hD, hE, hC, hG⟩ hk h
  have hd := of_decide_eq_true hk
  unfold mz_s_lald at h
  obtain ⟨i, l, rfl, hp⟩ := mz_p1_ok h
  obtain ⟨x, l, rfl, hq⟩ := mz_p1_ok hp
  have h := hq
  obtain ⟨a1, h⟩ := mz_ift h
  rw [mz_f_eq] at h
  obtain ⟨a2, h⟩ := mz_ift h
  obtain ⟨a3, h⟩ := mz_ift h
  obtain ⟨a4, h⟩ := mz_ift h
  rw [mz_f_eq] at h
  obtain ⟨a5, h⟩ := mz_ift h
  obtain ⟨g1, g2, g3⟩ := hG _ _ _ _ _ _ _ _ _ h
  exact ⟨g1, g2, mz_lald C hd a1 (mz_bq a2) a3 (mz_bl a4) a5 g3⟩
noncomputable def mz_s_aald (F : Nat → Nat × Nat) (nL mo : Nat) (hs : List mz_Hr) (call : mz_Ca) (go : mz_Go) (e pc L : Nat) (st : List Nat) (M K n top nc ns : Nat) : Option mz_Rt :=
  mz_p1 st fun i l => mz_p1 l fun x l => (mz_ci (mz_ref n x) (mz_f (mz_g K (mz_k x)) fun kd => (mz_ci (Nat.ble 69 (Nat.mod kd 256)) ((mz_ci (Nat.ble (Nat.succ (Nat.mod kd 256)) 73) ((mz_ci (mz_sm i) ((mz_ci (Nat.ble (Nat.succ (mz_q i)) (Nat.mod (Nat.div kd 256) 65536)) (mz_f (mz_g M (Nat.add (Nat.div kd 16777216) (mz_q i))) fun w => (mz_ci (mz_R w) (go (Nat.succ pc) L (w :: l) M K n top nc ns) (none))) (none))) (none))) (none))) (none))) (none))
noncomputable def mz_k_aald (own mn : String) (cc : ByteArray) (mo : Nat) (ret : Option FieldType) (e pc : Nat) : Bool := decide (decode cc pc = .ok (.aaload, 1))
theorem mz_t_aald (mk : mz_Mk) : mz_Lk mk mz_s_aald mz_k_aald := by
  intro X own cc F nL mo d hs ret r call go e pc L st M K n top nc ns ⟨C, O, hnL, hR, hD, hE, hC, hG⟩ hk h
  have hd := of_decide_eq_true hk
  unfold mz_s_aald at h
  obtain ⟨i, l, rfl, hp⟩ := mz_p1_ok h
  obtain ⟨x, l, rfl, hq⟩ := mz_p1_ok hp
  have h := hq
  obtain ⟨a1, h⟩ := mz_ift h
  rw [mz_f_eq] at h
  obtain ⟨a2, h⟩ := mz_ift h
  obtain ⟨a2b, h⟩ := mz_ift h
  obtain ⟨a3, h⟩ := mz_ift h
  obtain ⟨a4, h⟩ := mz_ift h
  rw [mz_f_eq] at h
  obtain ⟨a5, h⟩ := mz_ift h
  obtain ⟨g1, g2, g3⟩ := hG _ _ _ _ _ _ _ _ _ h
  have b2 : 69 ≤ mz_ct K (mz_k x) := mz_bl a2
  have b3 : mz_ct K (mz_k x) < 73 := mz_bl a2b
  exact ⟨g1, g2, mz_aald (t := mz_ct K (mz_k x) - 64) C hd a1 (by omega) (by omega) (by omega) a3 (mz_bl a4) a5 g3⟩
noncomputable def mz_s_iast (F : Nat → Nat × Nat) (nL mo : Nat) (hs : List mz_Hr) (call : mz_Ca) (go : mz_Go) (e pc L : Nat) (st : List Nat) (M K n top nc ns : Nat) : Option mz_Rt :=
  mz_p1 st fun v l => mz_p1 l fun i l => mz_p1 l fun x l => (mz_ci (mz_ref n x) (mz_f (mz_g K (mz_k x)) fun kd => (mz_ci (Nat.beq (Nat.mod kd 256) 64) ((mz_ci (mz_sm i) ((mz_ci (Nat.ble (Nat.succ (mz_q i)) (Nat.mod (Nat.div kd 256) 65536)) ((mz_ci (mz_I v) ((mz_ci (mz_wf v) (mz_f (mz_p M (Nat.add (Nat.div kd 16777216) (mz_q i)) v) fun M => go (Nat.succ pc) L l M K n top nc ns) (none))) (none))) (none))) (none))) (none))) (none))
noncomputable def mz_k_iast (own mn : String) (cc : ByteArray) (mo : Nat) (ret : Option FieldType) (e pc : Nat) : Bool := decide (decode cc pc = .ok (.iastore, 1))
theorem mz_t_iast (mk : mz_Mk) : mz_Lk mk mz_s_iast mz_k_iast := by
  intro X own cc F nL mo d hs ret r call go e pc L st M K n top nc ns ⟨C, O, hnL, hR, hD, hE, hC, hG⟩ hk h
  have hd := of_decide_eq_true hk
  unfold mz_s_iast at h
  obtain ⟨v, l, rfl, ho⟩ := mz_p1_ok h
  obtain ⟨i, l, rfl, hp⟩ := mz_p1_ok ho
  obtain ⟨x, l, rfl, hq⟩ := mz_p1_ok hp
  have h := hq
  obtain ⟨a1, h⟩ := mz_ift h
  rw [mz_f_eq] at h
  obtain ⟨a2, h⟩ := mz_ift h
  obtain ⟨a3, h⟩ := mz_ift h
  obtain ⟨a4, h⟩ := mz_ift h
  obtain ⟨a5, h⟩ := mz_ift h
  obtain ⟨a6, h⟩ := mz_ift h
  rw [mz_f_eq] at h
  obtain ⟨g1, g2, g3⟩ := hG _ _ _ _ _ _ _ _ _ h
  exact ⟨g1, g2, mz_xast (t := 0) C hd (Or.inl ⟨rfl, rfl⟩) a1 (mz_bq a2) a3 (mz_bl a4) a5 (mz_wf_ok a6) g3⟩
noncomputable def mz_s_cast (F : Nat → Nat × Nat) (nL mo : Nat) (hs : List mz_Hr) (call : mz_Ca) (go : mz_Go) (e pc L : Nat) (st : List Nat) (M K n top nc ns : Nat) : Option mz_Rt :=
  mz_p1 st fun v l => mz_p1 l fun i l => mz_p1 l fun x l => (mz_ci (mz_ref n x) (mz_f (mz_g K (mz_k x)) fun kd => (mz_ci (Nat.beq (Nat.mod kd 256) 66) ((mz_ci (mz_sm i) ((mz_ci (Nat.ble (Nat.succ (mz_q i)) (Nat.mod (Nat.div kd 256) 65536)) ((mz_ci (mz_fit .char v) ((mz_ci (mz_wf v) (mz_f (mz_p M (Nat.add (Nat.div kd 16777216) (mz_q i)) v) fun M => go (Nat.succ pc) L l M K n top nc ns) (none))) (none))) (none))) (none))) (none))) (none))
noncomputable def mz_k_cast (own mn : String) (cc : ByteArray) (mo : Nat) (ret : Option FieldType) (e pc : Nat) : Bool := decide (decode cc pc = .ok (.castore, 1))
theorem mz_t_cast (mk : mz_Mk) : mz_Lk mk mz_s_cast mz_k_cast := by
  intro X own cc F nL mo d hs ret r call go e pc L st M K n top nc ns ⟨C, O, hnL, hR, hD, hE, hC, hG⟩ hk h
  have hd := of_decide_eq_true hk
  unfold mz_s_cast at h
  obtain ⟨v, l, rfl, ho⟩ := mz_p1_ok h
  obtain ⟨i, l, rfl, hp⟩ := mz_p1_ok ho
  obtain ⟨x, l, rfl, hq⟩ := mz_p1_ok hp
  have h := hq
  obtain ⟨a1, h⟩ := mz_ift h
  rw [mz_f_eq] at h
  obtain ⟨a2, h⟩ := mz_ift h
  obtain ⟨a3, h⟩ := mz_ift h
  obtain ⟨a4, h⟩ := mz_ift h
  obtain ⟨a5, h⟩ := mz_ift h
  obtain ⟨a6, h⟩ := mz_ift h
  rw [mz_f_eq] at h
  obtain ⟨g1, g2, g3⟩ := hG _ _ _ _ _ _ _ _ _ h
  exact ⟨g1, g2, mz_xast (t := 2) C hd (Or.inr (Or.inl ⟨rfl, rfl⟩)) a1 (mz_bq a2) a3 (mz_bl a4) a5 (mz_wf_ok a6) g3⟩
noncomputable def mz_s_bast (F : Nat → Nat × Nat) (nL mo : Nat) (hs : List mz_Hr) (call : mz_Ca) (go : mz_Go) (e pc L : Nat) (st : List Nat) (M K n top nc ns : Nat) : Option mz_Rt :=
  mz_p1 st fun v l => mz_p1 l fun i l => mz_p1 l fun x l => (mz_ci (mz_ref n x) (mz_f (mz_g K (mz_k x)) fun kd => (mz_ci (Nat.beq (Nat.mod kd 256) 67) ((mz_ci (mz_sm i) ((mz_ci (Nat.ble (Nat.succ (mz_q i)) (Nat.mod (Nat.div kd 256) 65536)) ((mz_ci (mz_fit .boolean v) ((mz_ci (mz_wf v) (mz_f (mz_p M (Nat.add (Nat.div kd 16777216) (mz_q i)) v) fun M => go (Nat.succ pc) L l M K n top nc ns) (none))) (none))) (none))) (none))) (none))) (none))
noncomputable def mz_k_bast (own mn : String) (cc : ByteArray) (mo : Nat) (ret : Option FieldType) (e pc : Nat) : Bool := decide (decode cc pc = .ok (.bastore, 1))
theorem mz_t_bast (mk : mz_Mk) : mz_Lk mk mz_s_bast mz_k_bast := by
  intro X own cc F nL mo d hs ret r call go e pc L st M K n top nc ns ⟨C, O, hnL, hR, hD, hE, hC, hG⟩ hk h
  have hd := of_decide_eq_true hk
  unfold mz_s_bast at h
  obtain ⟨v, l, rfl, ho⟩ := mz_p1_ok h
  obtain ⟨i, l, rfl, hp⟩ := mz_p1_ok ho
  obtain ⟨x, l, rfl, hq⟩ := mz_p1_ok hp
  have h := hq
  obtain ⟨a1, h⟩ := mz_ift h
  rw [mz_f_eq] at h
  obtain ⟨a2, h⟩ := mz_ift h
  obtain ⟨a3, h⟩ := mz_ift h
  obtain ⟨a4, h⟩ := mz_ift h
  obtain ⟨a5, h⟩ := mz_ift h
  obtain ⟨a6, h⟩ := mz_ift h
  rw [mz_f_eq] at h
  obtain ⟨g1, g2, g3⟩ := hG _ _ _ _ _ _ _ _ _ h
  exact ⟨g1, g2, mz_xast (t := 3) C hd (Or.inr (Or.inr ⟨rfl, rfl⟩)) a1 (mz_bq a2) a3 (mz_bl a4) a5 (mz_wf_ok a6) g3⟩
noncomputable def mz_s_last (F : Nat → Nat × Nat) (nL mo : Nat) (hs : List mz_Hr) (call : mz_Ca) (go : mz_Go) (e pc L : Nat) (st : List Nat) (M K n top nc ns : Nat) : Option mz_Rt :=
  mz_p1 st fun v l => mz_p1 l fun i l => mz_p1 l fun x l => (mz_ci (mz_ref n x) (mz_f (mz_g K (mz_k x)) fun kd => (mz_ci (Nat.beq (Nat.mod kd 256) 65) ((mz_ci (mz_sm i) ((mz_ci (Nat.ble (Nat.succ (mz_q i)) (Nat.mod (Nat.div kd 256) 65536)) ((mz_ci (mz_L v) ((mz_ci (mz_wf v) (mz_f (mz_p M (Nat.add (Nat.div kd 16777216) (mz_q i)) v) fun M => go (Nat.succ pc) L l M K n top nc ns) (none))) (none))) (none))) (none))) (none))) (none))
noncomputable def mz_k_last (own mn : String) (cc : ByteArray) (mo : Nat) (ret : Option FieldType) (e pc : Nat) : Bool := decide (decode cc pc = .ok (.lastore, 1))
theorem mz_t_last (mk : mz_Mk) : mz_Lk mk mz_s_last mz_k_last := by
  intro X own cc F nL mo d hs ret r call go e pc L st M K n top nc ns ⟨C, O, hnL, hR, hD, hE, hC, hG⟩ hk h
  have hd := of_decide_eq_true hk
  unfold mz_s_last at h
  obtain ⟨v, l, rfl, ho⟩ := mz_p1_ok h
  obtain ⟨i, l, rfl, hp⟩ := mz_p1_ok ho
  obtain ⟨x, l, rfl, hq⟩ := mz_p1_ok hp
  have h := hq
  obtain ⟨a1, h⟩ := mz_ift h
  rw [mz_f_eq] at h
  obtain ⟨a2, h⟩ := mz_ift h
  obtain ⟨a3, h⟩ := mz_ift h
  obtain ⟨a4, h⟩ := mz_ift h
  obtain ⟨a5, h⟩ := mz_ift h
  obtain ⟨a6, h⟩ := mz_ift h
  rw [mz_f_eq] at h
  obtain ⟨g1, g2, g3⟩ := hG _ _ _ _ _ _ _ _ _ h
  exact ⟨g1, g2, mz_last C hd a1 (mz_bq a2) a3 (mz_bl a4) a5 (mz_wf_ok a6) g3⟩
noncomputable def mz_s_aast (F : Nat → Nat × Nat) (nL mo : Nat) (hs : List mz_Hr) (call : mz_Ca) (go : mz_Go) (e pc L : Nat) (st : List Nat) (M K n top nc ns : Nat) : Option mz_Rt :=
  mz_p1 st fun v l => mz_p1 l fun i l => mz_p1 l fun x l => (mz_ci (mz_ref n x) (mz_f (mz_g K (mz_k x)) fun kd => (mz_ci (Nat.ble 69 (Nat.mod kd 256)) ((mz_ci (Nat.ble (Nat.succ (Nat.mod kd 256)) 73) ((mz_ci (mz_sm i) ((mz_ci (Nat.ble (Nat.succ (mz_q i)) (Nat.mod (Nat.div kd 256) 65536)) ((mz_ci (mz_aok n K v (Nat.sub (Nat.mod kd 256) 64)) ((mz_ci (mz_wf v) (mz_f (mz_p M (Nat.add (Nat.div kd 16777216) (mz_q i)) v) fun M => go (Nat.succ pc) L l M K n top nc ns) (none))) (none))) (none))) (none))) (none))) (none))) (none))
noncomputable def mz_k_aast (own mn : String) (cc : ByteArray) (mo : Nat) (ret : Option FieldType) (e pc : Nat) : Bool := decide (decode cc pc = .ok (.aastore, 1))
theorem mz_t_aast (mk : mz_Mk) : mz_Lk mk mz_s_aast mz_k_aast := by
  intro X own cc F nL mo d hs ret r call go e pc L st M K n top nc ns ⟨C, O, hnL, hR, hD, hE, hC, hG⟩ hk h
  have hd := of_decide_eq_true hk
  unfold mz_s_aast at h
  obtain ⟨v, l, rfl, ho⟩ := mz_p1_ok h
  obtain ⟨i, l, rfl, hp⟩ := mz_p1_ok ho
  obtain ⟨x, l, rfl, hq⟩ := mz_p1_ok hp
  have h := hq
  obtain ⟨a1, h⟩ := mz_ift h
  rw [mz_f_eq] at h
  obtain ⟨a2, h⟩ := mz_ift h
  obtain ⟨a2b, h⟩ := mz_ift h
  obtain ⟨a3, h⟩ := mz_ift h
  obtain ⟨a4, h⟩ := mz_ift h
  obtain ⟨a5, h⟩ := mz_ift h
  obtain ⟨a6, h⟩ := mz_ift h
  rw [mz_f_eq] at h
  obtain ⟨g1, g2, g3⟩ := hG _ _ _ _ _ _ _ _ _ h
  have b2 : 69 ≤ mz_ct K (mz_k x) := mz_bl a2
  have b3 : mz_ct K (mz_k x) < 73 := mz_bl a2b
  exact ⟨g1, g2, mz_aast (t := mz_ct K (mz_k x) - 64) C hd a1 (by omega) (by omega) (by omega) a3 (mz_bl a4) (mz_aok_ok O a5) (mz_wf_ok a6) g3⟩
noncomputable def mz_s_ccast (F : Nat → Nat × Nat) (nL mo : Nat) (hs : List mz_Hr) (call : mz_Ca) (go : mz_Go) (e pc L : Nat) (st : List Nat) (M K n top nc ns : Nat) : Option mz_Rt :=
  mz_p1 st fun x l => (mz_ci (mz_ref n x) ((mz_ci (Nat.beq (mz_ct K (mz_k x)) (Nat.mod (mz_ey e) 64)) (go (Nat.add pc 3) L (x :: l) M K n top nc ns) (none))) (none))
noncomputable def mz_k_ccast (own mn : String) (cc : ByteArray) (mo : Nat) (ret : Option FieldType) (e pc : Nat) : Bool := (vwCl[Nat.mod (mz_ey e) 64]?).elim false fun q => decide (decode cc pc = .ok (.checkcast (mz_ex e), 3) ∧ mz_wi (mz_ez e) (.classLink own (mz_ex e) q.1))
theorem mz_t_ccast (mk : mz_Mk) : mz_Lk mk mz_s_ccast mz_k_ccast := by
  intro X own cc F nL mo d hs ret r call go e pc L st M K n top nc ns ⟨C, O, hnL, hR, hD, hE, hC, hG⟩ hk h
  obtain ⟨⟨C0, T, N⟩, hc, hk⟩ := mz_elim hk
  obtain ⟨f1, f2, f3⟩ := mz_clf _ _ hc
  have hci : Nat.mod (mz_ey e) 64 < 64 := Nat.mod_lt _ (by decide)
  obtain ⟨hd, hw⟩ := of_decide_eq_true hk
  unfold mz_s_ccast at h
  obtain ⟨x, l, rfl, hp⟩ := mz_p1_ok h
  have h := hp
  obtain ⟨a1, h⟩ := mz_ift h
  obtain ⟨a2, h⟩ := mz_ift h
  obtain ⟨g1, g2, g3⟩ := hG _ _ _ _ _ _ _ _ _ h
  exact ⟨g1, g2, mz_castS C hd hc hci (mz_bfg C (mz_wi_ok hw)) a1 (mz_bq a2) g3⟩
noncomputable def mz_s_new (F : Nat → Nat × Nat) (nL mo : Nat) (hs : List mz_Hr) (call : mz_Ca) (go : mz_Go) (e pc L : Nat) (st : List Nat) (M K n top nc ns : Nat) : Option mz_Rt :=
  mz_f (mz_dlt (Nat.mod (mz_ey e) 64)).1 fun N => (mz_ci (mz_roomy n N top) (mz_f (mz_fl (mz_dlt (Nat.mod (mz_ey e) 64)).2 M top) fun M => mz_f (mz_p K n (mz_mt (Nat.mod (mz_ey e) 64) N top)) fun K => mz_f (mz_nr n) fun w => mz_f (Nat.succ n) fun n => mz_f (Nat.add top N) fun top => mz_f (Nat.succ nc) fun nc => mz_f (Nat.add ns N) fun ns => go (Nat.add pc 3) L (w :: st) M K n top nc ns) (none))
noncomputable def mz_k_new (own mn : String) (cc : ByteArray) (mo : Nat) (ret : Option FieldType) (e pc : Nat) : Bool := (vwCl[Nat.mod (mz_ey e) 64]?).elim false fun q => decide (decode cc pc = .ok (.new (mz_ex e), 3) ∧ mz_wi (mz_ez e) (.classLink own (mz_ex e) q.1) ∧ Jvm.Cond.instantiable q.1 q.2.2 ∈ mz_gG ∧ Jvm.Cond.initialized q.1 ∈ mz_gG)
theorem mz_t_new (mk : mz_Mk) : mz_Lk mk mz_s_new mz_k_new := by
  intro X own cc F nL mo d hs ret r call go e pc L st M K n top nc ns ⟨C, O, hnL, hR, hD, hE, hC, hG⟩ hk h
  obtain ⟨⟨C0, T, N⟩, hc, hk⟩ := mz_elim hk
  obtain ⟨f1, f2, f3⟩ := mz_clf _ _ hc
  have hci : Nat.mod (mz_ey e) 64 < 64 := Nat.mod_lt _ (by decide)
  have hdl := mz_dlt_ok _ _ hc
  obtain ⟨hd, hw, hw2, hw3⟩ := of_decide_eq_true hk
  unfold mz_s_new at h
  rw [mz_f_eq, hdl] at h
  obtain ⟨a1, h⟩ := mz_ift h
  rw [mz_f_eq, mz_f_eq, mz_f_eq, mz_f_eq, mz_f_eq, mz_f_eq, mz_f_eq] at h
  obtain ⟨g1, g2, g3⟩ := hG _ _ _ _ _ _ _ _ _ h
  exact ⟨Nat.le_trans (Nat.le_succ _) g1, Nat.le_trans (Nat.le_add_right _ _) g2, mz_new C hd hc f1 hci f2 (mz_bfg C (mz_wi_ok hw)) (mz_bfg C hw2) (mz_bfg C hw3) a1 (Nat.le_trans g1 hR.1) (Nat.le_trans g2 hR.2) g3⟩
noncomputable def mz_s_na_int (F : Nat → Nat × Nat) (nL mo : Nat) (hs : List mz_Hr) (call : mz_Ca) (go : mz_Go) (e pc L : Nat) (st : List Nat) (M K n top nc ns : Nat) : Option mz_Rt :=
  mz_p1 st fun i st => (mz_ci (mz_sm i) (mz_f (mz_q i) fun N => (mz_ci (mz_roomy n N top) (mz_f (mz_fl (mz_rp N 1) M top) fun M => mz_f (mz_p K n (mz_mt 64 N top)) fun K => mz_f (mz_nr n) fun w => mz_f (Nat.succ n) fun n => mz_f (Nat.add top N) fun top => mz_f (Nat.succ nc) fun nc => mz_f (Nat.add ns N) fun ns => go (Nat.add pc 2) L (w :: st) M K n top nc ns) (none))) (none))
noncomputable def mz_k_na_int (own mn : String) (cc : ByteArray) (mo : Nat) (ret : Option FieldType) (e pc : Nat) : Bool := decide (decode cc pc = .ok (.newarray .int, 2) ∧ mz_wi (mz_ez e) (.arrayClass .int))
theorem mz_t_na_int (mk : mz_Mk) : mz_Lk mk mz_s_na_int mz_k_na_int := by
  intro X own cc F nL mo d hs ret r call go e pc L st M K n top nc ns ⟨C, O, hnL, hR, hD, hE, hC, hG⟩ hk h
  obtain ⟨hd, hw⟩ := of_decide_eq_true hk
  unfold mz_s_na_int at h
  obtain ⟨i, l, rfl, hp⟩ := mz_p1_ok h
  have h := hp
  obtain ⟨a0, h⟩ := mz_ift h
  rw [mz_f_eq] at h
  obtain ⟨a1, h⟩ := mz_ift h
  rw [mz_f_eq, mz_f_eq, mz_f_eq, mz_f_eq, mz_f_eq, mz_f_eq, mz_f_eq, mz_rp_eq] at h
  obtain ⟨g1, g2, g3⟩ := hG _ _ _ _ _ _ _ _ _ h
  exact ⟨Nat.le_trans (Nat.le_succ _) g1, Nat.le_trans (Nat.le_add_right _ _) g2, mz_newarr (t := 0) (aty := .int) C hd (by decide) rfl (mz_bfg C (mz_wi_ok hw)) a0 a1 (Nat.le_trans g1 hR.1) (Nat.le_trans g2 hR.2) g3⟩
noncomputable def mz_s_na_long (F : Nat → Nat × Nat) (nL mo : Nat) (hs : List mz_Hr) (call : mz_Ca) (go : mz_Go) (e pc L : Nat) (st : List Nat) (M K n top nc ns : Nat) : Option mz_Rt :=
  mz_p1 st fun i st => (mz_ci (mz_sm i) (mz_f (mz_q i) fun N => (mz_ci (mz_roomy n N top) (mz_f (mz_fl (mz_rp N 3) M top) fun M => mz_f (mz_p K n (mz_mt 65 N top)) fun K => mz_f (mz_nr n) fun w => mz_f (Nat.succ n) fun n => mz_f (Nat.add top N) fun top => mz_f (Nat.succ nc) fun nc => mz_f (Nat.add ns N) fun ns => go (Nat.add pc 2) L (w :: st) M K n top nc ns) (none))) (none))
noncomputable def mz_k_na_long (own mn : String) (cc : ByteArray) (mo : Nat) (ret : Option FieldType) (e pc : Nat) : Bool := decide (decode cc pc = .ok (.newarray .long, 2) ∧ mz_wi (mz_ez e) (.arrayClass .long))
theorem mz_t_na_long (mk : mz_Mk) : mz_Lk mk mz_s_na_long mz_k_na_long := by
  intro X own cc F nL mo d hs ret r call go e pc L st M K n top nc ns ⟨C, O, hnL, hR, hD, hE, hC, hG⟩ hk h
  obtain ⟨hd, hw⟩ := of_decide_eq_true hk
  unfold mz_s_na_long at h
  obtain ⟨i, l, rfl, hp⟩ := mz_p1_ok h
  have h := hp
  obtain ⟨a0, h⟩ := mz_ift h
  rw [mz_f_eq] at h
  obtain ⟨a1, h⟩ := mz_ift h
  rw [mz_f_eq, mz_f_eq, mz_f_eq, mz_f_eq, mz_f_eq, mz_f_eq, mz_f_eq, mz_rp_eq] at h
  obtain ⟨g1, g2, g3⟩ := hG _ _ _ _ _ _ _ _ _ h
  exact ⟨Nat.le_trans (Nat.le_succ _) g1, Nat.le_trans (Nat.le_add_right _ _) g2, mz_newarr (t := 1) (aty := .long) C hd (by decide) rfl (mz_bfg C (mz_wi_ok hw)) a0 a1 (Nat.le_trans g1 hR.1) (Nat.le_trans g2 hR.2) g3⟩
noncomputable def mz_s_na_char (F : Nat → Nat × Nat) (nL mo : Nat) (hs : List mz_Hr) (call : mz_Ca) (go : mz_Go) (e pc L : Nat) (st : List Nat) (M K n top nc ns : Nat) : Option mz_Rt :=
  mz_p1 st fun i st => (mz_ci (mz_sm i) (mz_f (mz_q i) fun N => (mz_ci (mz_roomy n N top) (mz_f (mz_fl (mz_rp N 1) M top) fun M => mz_f (mz_p K n (mz_mt 66 N top)) fun K => mz_f (mz_nr n) fun w => mz_f (Nat.succ n) fun n => mz_f (Nat.add top N) fun top => mz_f (Nat.succ nc) fun nc => mz_f (Nat.add ns N) fun ns => go (Nat.add pc 2) L (w :: st) M K n top nc ns) (none))) (none))
noncomputable def mz_k_na_char (own mn : String) (cc : ByteArray) (mo : Nat) (ret : Option FieldType) (e pc : Nat) : Bool := decide (decode cc pc = .ok (.newarray .char, 2) ∧ mz_wi (mz_ez e) (.arrayClass .char))
theorem mz_t_na_char (mk : mz_Mk) : mz_Lk mk mz_s_na_char mz_k_na_char := by
  intro X own cc F nL mo d hs ret r call go e pc L st M K n top nc ns ⟨C, O, hnL, hR, hD, hE, hC, hG⟩ hk h
  obtain ⟨hd, hw⟩ := of_decide_eq_true hk
  unfold mz_s_na_char at h
  obtain ⟨i, l, rfl, hp⟩ := mz_p1_ok h
  have h := hp
  obtain ⟨a0, h⟩ := mz_ift h
  rw [mz_f_eq] at h
  obtain ⟨a1, h⟩ := mz_ift h
  rw [mz_f_eq, mz_f_eq, mz_f_eq, mz_f_eq, mz_f_eq, mz_f_eq, mz_f_eq, mz_rp_eq] at h
  obtain ⟨g1, g2, g3⟩ := hG _ _ _ _ _ _ _ _ _ h
  exact ⟨Nat.le_trans (Nat.le_succ _) g1, Nat.le_trans (Nat.le_add_right _ _) g2, mz_newarr (t := 2) (aty := .char) C hd (by decide) rfl (mz_bfg C (mz_wi_ok hw)) a0 a1 (Nat.le_trans g1 hR.1) (Nat.le_trans g2 hR.2) g3⟩
noncomputable def mz_s_na_bool (F : Nat → Nat × Nat) (nL mo : Nat) (hs : List mz_Hr) (call : mz_Ca) (go : mz_Go) (e pc L : Nat) (st : List Nat) (M K n top nc ns : Nat) : Option mz_Rt :=
  mz_p1 st fun i st => (mz_ci (mz_sm i) (mz_f (mz_q i) fun N => (mz_ci (mz_roomy n N top) (mz_f (mz_fl (mz_rp N 1) M top) fun M => mz_f (mz_p K n (mz_mt 67 N top)) fun K => mz_f (mz_nr n) fun w => mz_f (Nat.succ n) fun n => mz_f (Nat.add top N) fun top => mz_f (Nat.succ nc) fun nc => mz_f (Nat.add ns N) fun ns => go (Nat.add pc 2) L (w :: st) M K n top nc ns) (none))) (none))
noncomputable def mz_k_na_bool (own mn : String) (cc : ByteArray) (mo : Nat) (ret : Option FieldType) (e pc : Nat) : Bool := decide (decode cc pc = .ok (.newarray .boolean, 2) ∧ mz_wi (mz_ez e) (.arrayClass .boolean))
theorem mz_t_na_bool (mk : mz_Mk) : mz_Lk mk mz_s_na_bool mz_k_na_bool := by
  intro X own cc F nL mo d hs ret r call go e pc L st M K n top nc ns ⟨C, O, hnL, hR, hD, hE, hC, hG⟩ hk h
  obtain ⟨hd, hw⟩ := of_decide_eq_true hk
  unfold mz_s_na_bool at h
  obtain ⟨i, l, rfl, hp⟩ := mz_p1_ok h
  have h := hp
  obtain ⟨a0, h⟩ := mz_ift h
  rw [mz_f_eq] at h
  obtain ⟨a1, h⟩ := mz_ift h
  rw [mz_f_eq, mz_f_eq, mz_f_eq, mz_f_eq, mz_f_eq, mz_f_eq, mz_f_eq, mz_rp_eq] at h
  obtain ⟨g1, g2, g3⟩ := hG _ _ _ _ _ _ _ _ _ h
  exact ⟨Nat.le_trans (Nat.le_succ _) g1, Nat.le_trans (Nat.le_add_right _ _) g2, mz_newarr (t := 3) (aty := .boolean) C hd (by decide) rfl (mz_bfg C (mz_wi_ok hw)) a0 a1 (Nat.le_trans g1 hR.1) (Nat.le_trans g2 hR.2) g3⟩
noncomputable def mz_s_na_double (F : Nat → Nat × Nat) (nL mo : Nat) (hs : List mz_Hr) (call : mz_Ca) (go : mz_Go) (e pc L : Nat) (st : List Nat) (M K n top nc ns : Nat) : Option mz_Rt :=
  mz_p1 st fun i st => (mz_ci (mz_sm i) (mz_f (mz_q i) fun N => (mz_ci (mz_roomy n N top) (mz_f (mz_fl (mz_rp N 8) M top) fun M => mz_f (mz_p K n (mz_mt 68 N top)) fun K => mz_f (mz_nr n) fun w => mz_f (Nat.succ n) fun n => mz_f (Nat.add top N) fun top => mz_f (Nat.succ nc) fun nc => mz_f (Nat.add ns N) fun ns => go (Nat.add pc 2) L (w :: st) M K n top nc ns) (none))) (none))
noncomputable def mz_k_na_double (own mn : String) (cc : ByteArray) (mo : Nat) (ret : Option FieldType) (e pc : Nat) : Bool := decide (decode cc pc = .ok (.newarray .double, 2) ∧ mz_wi (mz_ez e) (.arrayClass .double))
theorem mz_t_na_double (mk : mz_Mk) : mz_Lk mk mz_s_na_double mz_k_na_double := by
  intro X own cc F nL mo d hs ret r call go e pc L st M K n top nc ns ⟨C, O, hnL, hR, hD, hE, hC, hG⟩ hk h
  obtain ⟨hd, hw⟩ := of_decide_eq_true hk
  unfold mz_s_na_double at h
  obtain ⟨i, l, rfl, hp⟩ := mz_p1_ok h
  have h := hp
  obtain ⟨a0, h⟩ := mz_ift h
  rw [mz_f_eq] at h
  obtain ⟨a1, h⟩ := mz_ift h
  rw [mz_f_eq, mz_f_eq, mz_f_eq, mz_f_eq, mz_f_eq, mz_f_eq, mz_f_eq, mz_rp_eq] at h
  obtain ⟨g1, g2, g3⟩ := hG _ _ _ _ _ _ _ _ _ h
  exact ⟨Nat.le_trans (Nat.le_succ _) g1, Nat.le_trans (Nat.le_add_right _ _) g2, mz_newarr (t := 4) (aty := .double) C hd (by decide) rfl (mz_bfg C (mz_wi_ok hw)) a0 a1 (Nat.le_trans g1 hR.1) (Nat.le_trans g2 hR.2) g3⟩
