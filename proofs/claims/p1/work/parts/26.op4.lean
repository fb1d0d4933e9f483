/-! THE STEPS, 4 -/
noncomputable def mz_s_anew (F : Nat → Nat × Nat) (nL mo : Nat) (hs : List mz_Hr) (call : mz_Ca) (go : mz_Go) (e pc L : Nat) (st : List Nat) (M K n top nc ns : Nat) : Option mz_Rt :=
  mz_p1 st fun i st => (mz_ci (mz_sm i) (mz_f (mz_q i) fun N => (mz_ci (mz_roomy n N top) (mz_f (mz_fl (mz_rp N 2) M top) fun M => mz_f (mz_p K n (mz_mt (Nat.add 64 (mz_ey e)) N top)) fun K => mz_f (mz_nr n) fun w => mz_f (Nat.succ n) fun n => mz_f (Nat.add top N) fun top => mz_f (Nat.succ nc) fun nc => mz_f (Nat.add ns N) fun ns => go (Nat.add pc 3) L (w :: st) M K n top nc ns) (none))) (none))
noncomputable def mz_k_anew (own mn : String) (cc : ByteArray) (mo : Nat) (ret : Option FieldType) (e pc : Nat) : Bool := decide (decode cc pc = .ok (.anewarray (mz_ex e), 3) ∧ 5 ≤ mz_ey e ∧ mz_ey e < 9 ∧ mz_wi (mz_ez e) (.classLink own (mz_ex e) (mz_tn (mz_ey e))) ∧ Jvm.Cond.arrayOver (.object (mz_tn (mz_ey e))) ∈ lw_tbl)
theorem mz_t_anew (mk : mz_Mk) : mz_Lk mk mz_s_anew mz_k_anew := by
  intro X own cc F nL mo d hs ret r call go e pc L st M K n top nc ns ⟨C, O, hnL, hR, hD, hE, hC, hG⟩ hk h
  obtain ⟨hd, h5, h9, hw, hw2⟩ := of_decide_eq_true hk
  unfold mz_s_anew at h
  obtain ⟨i, l, rfl, hp⟩ := mz_p1_ok h
  have h := hp
  obtain ⟨a0, h⟩ := mz_ift h
  rw [mz_f_eq] at h
  obtain ⟨a1, h⟩ := mz_ift h
  rw [mz_f_eq, mz_f_eq, mz_f_eq, mz_f_eq, mz_f_eq, mz_f_eq, mz_f_eq, mz_rp_eq] at h
  obtain ⟨g1, g2, g3⟩ := hG _ _ _ _ _ _ _ _ _ h
  exact ⟨Nat.le_trans (Nat.le_succ _) g1, Nat.le_trans (Nat.le_add_right _ _) g2, mz_anewarr C hd h5 h9 (mz_tn_ok h5 h9) (mz_bfg C (mz_wi_ok hw)) (mz_bfa O hw2) a0 a1 (Nat.le_trans g1 hR.1) (Nat.le_trans g2 hR.2) g3⟩
noncomputable def mz_s_throw (F : Nat → Nat × Nat) (nL mo : Nat) (hs : List mz_Hr) (call : mz_Ca) (go : mz_Go) (e pc L : Nat) (st : List Nat) (M K n top nc ns : Nat) : Option mz_Rt :=
  (mz_ci (Nat.beq mo 0) ((mz_ci (mz_l4 st) (mz_f (Nat.succ (Nat.mod (mz_ey e) 8)) fun k => mz_f (Nat.succ nc) fun nc => mz_f (Nat.add ns 6) fun ns => some (k, none, M, K, n, top, nc, ns)) (none))) (none))
noncomputable def mz_k_throw (own mn : String) (cc : ByteArray) (mo : Nat) (ret : Option FieldType) (e pc : Nat) : Bool := (mz_xs[(Nat.mod (mz_ey e) 8)]?).elim false fun cls => decide ((decode cc pc = .ok (.new (mz_ex e), 3) ∧ decode cc (pc + 3) = .ok (.dup, 1) ∧ (((Nat.div (mz_ey e) 8) = 2 ∧ decode cc (pc + 4) = .ok (.ldc (Nat.mod (mz_ez e) 65536), 2)) ∨ ((Nat.div (mz_ey e) 8) = 3 ∧ decode cc (pc + 4) = .ok (.ldc_w (Nat.mod (mz_ez e) 65536), 3))) ∧ decode cc (pc + 4 + (Nat.div (mz_ey e) 8)) = .ok (.invokespecial (Nat.div (mz_ez e) 65536), 3) ∧ decode cc (pc + 7 + (Nat.div (mz_ey e) 8)) = .ok (.athrow, 1)) ∧ Bundle.fit cls = true ∧ (∀ w ∈ Jvm.Cond.classLink own (mz_ex e) cls :: Jvm.Cond.initialized cls :: vx_atS own (Nat.div (mz_ez e) 65536) cls mz_nms, (w ∈ mz_gG ∨ (w ∈ lw_tbl ∧ mz_nk w = true)) ∧ vx_ot w = true) ∧ ∃ q ∈ mz_msgs, q.1 = own ∧ q.2.1 = (Nat.mod (mz_ez e) 65536))
theorem mz_t_throw (mk : mz_Mk) : mz_Lk mk mz_s_throw mz_k_throw := by
  intro X own cc F nL mo d hs ret r call go e pc L st M K n top nc ns ⟨C, O, hnL, hR, hD, hE, hC, hG⟩ hk h
  obtain ⟨cls, hcls, hk⟩ := mz_elim hk
  obtain ⟨⟨d0, d3, dd, d6, d9⟩, hf, hw, ⟨o1, i1, text⟩, hm, rfl, hi⟩ := of_decide_eq_true hk
  change i1 = _ at hi
  subst hi
  unfold mz_s_throw at h
  obtain ⟨a1, h⟩ := mz_ift h
  obtain ⟨a2, h⟩ := mz_ift h
  rw [mz_f_eq, mz_f_eq, mz_f_eq] at h
  cases h
  obtain ⟨M0, K0, top0, E⟩ := hE.1 (mz_bq a1)
  have r3 : nc + 1 ≤ (mz_rm X).cells := hR.1
  have r4 : ns + 6 ≤ (mz_rm X).slots := hR.2
  exact ⟨Nat.le_succ _, Nat.le_add_right _ _, mz_throw C O E hcls hf hw hm (mz_l4_ok a2) d0 d3 dd d6 d9 ⟨by omega, by omega, r3, r4⟩⟩
noncomputable def mz_s_throwx (F : Nat → Nat × Nat) (nL mo : Nat) (hs : List mz_Hr) (call : mz_Ca) (go : mz_Go) (e pc L : Nat) (st : List Nat) (M K n top nc ns : Nat) : Option mz_Rt :=
  (mz_ci (Nat.beq mo 0) ((mz_ci (mz_l4 st) (mz_f (Nat.succ (Nat.mod (mz_ey e) 8)) fun k => mz_f (Nat.succ nc) fun nc => mz_f (Nat.add ns 6) fun ns => some (k, none, M, K, n, top, nc, ns)) (none))) (none))
noncomputable def mz_k_throwx (own mn : String) (cc : ByteArray) (mo : Nat) (ret : Option FieldType) (e pc : Nat) : Bool := (mz_xs[(Nat.mod (mz_ey e) 8)]?).elim false fun cls => decide ((decode cc pc = .ok (.new (mz_ex e), 3) ∧ decode cc (pc + 3) = .ok (.dup, 1) ∧ (((Nat.div (mz_ey e) 8) = 2 ∧ decode cc (pc + 4) = .ok (.ldc (Nat.mod (mz_ez e) 65536), 2)) ∨ ((Nat.div (mz_ey e) 8) = 3 ∧ decode cc (pc + 4) = .ok (.ldc_w (Nat.mod (mz_ez e) 65536), 3))) ∧ decode cc (pc + 4 + (Nat.div (mz_ey e) 8)) = .ok (.invokespecial (Nat.div (mz_ez e) 65536), 3) ∧ decode cc (pc + 4 + (Nat.div (mz_ey e) 8) + 3) = .ok (.athrow, 1)) ∧ Bundle.fit cls = true ∧ (∀ w ∈ Jvm.Cond.classLink own (mz_ex e) cls :: Jvm.Cond.initialized cls :: mz_atX own (Nat.div (mz_ez e) 65536) cls "java/lang/RuntimeException" mz_nix mz_nsx ["java/lang/Exception"], (w ∈ mz_gG ∨ (w ∈ lw_tbl ∧ mz_nk w = true)) ∧ vx_ot w = true) ∧ ∃ q ∈ mz_msgs, q.1 = own ∧ q.2.1 = (Nat.mod (mz_ez e) 65536))
theorem mz_t_throwx (mk : mz_Mk) : mz_Lk mk mz_s_throwx mz_k_throwx := by
  intro X own cc F nL mo d hs ret r call go e pc L st M K n top nc ns ⟨C, O, hnL, hR, hD, hE, hC, hG⟩ hk h
  obtain ⟨cls, hcls, hk⟩ := mz_elim hk
  obtain ⟨⟨d0, d3, dd, d6, d9⟩, hf, hw, ⟨o1, i1, text⟩, hm, rfl, hi⟩ := of_decide_eq_true hk
  change i1 = _ at hi
  subst hi
  unfold mz_s_throwx at h
  obtain ⟨a1, h⟩ := mz_ift h
  obtain ⟨a2, h⟩ := mz_ift h
  rw [mz_f_eq, mz_f_eq, mz_f_eq] at h
  cases h
  obtain ⟨M0, K0, top0, E⟩ := hE.1 (mz_bq a1)
  have r3 : nc + 1 ≤ (mz_rm X).cells := hR.1
  have r4 : ns + 6 ≤ (mz_rm X).slots := hR.2
  exact ⟨Nat.le_succ _, Nat.le_add_right _ _, mz_throwN C O E hcls hf mz_nsx0 mz_nsx1 mz_nsx2 mz_nsx5 hw hm (mz_l4_ok a2) d0 d3 dd d6 d9 ⟨by omega, by omega, r3, r4⟩⟩
noncomputable def mz_s_invs (F : Nat → Nat × Nat) (nL mo : Nat) (hs : List mz_Hr) (call : mz_Ca) (go : mz_Go) (e pc L : Nat) (st : List Nat) (M K n top nc ns : Nat) : Option mz_Rt :=
  mz_tk (Nat.mod (Nat.div (mz_ez e) 4096) 16) (fun as rest => (mz_ci (mz_l4 rest) (mz_bd (call (mz_ey e) as M K n top) fun r1 => mz_aft hs mo nL go 3 pc L rest nc ns r1) (none))) st []
noncomputable def mz_k_invs (mk : mz_Mk) (own mn : String) (cc : ByteArray) (mo : Nat) (ret : Option FieldType) (e pc : Nat) : Bool := decide (decode cc pc = .ok (.invokestatic (mz_ex e), 3) ∧ (mk (mz_ey e)).2.1 = (Nat.mod (Nat.div (mz_ez e) 4096) 16) ∧ (mk (mz_ey e)).2.2 = 0 ∧ mz_wi (Nat.mod (mz_ez e) 4096) (.methodLink own (mz_ex e) (mk (mz_ey e)).1.1))
theorem mz_t_invs (mk : mz_Mk) : mz_Lk mk mz_s_invs (mz_k_invs mk) := by
  intro X own cc F nL mo d hs ret r call go e pc L st M K n top nc ns ⟨C, O, hnL, hR, hD, hE, hC, hG⟩ hk h
  have hy : mz_Cy X mk cc own F nL mo d hs ret r call go := ⟨C, O, hnL, hR, hD, hE, hC, hG⟩
  have hk := of_decide_eq_true hk
  rcases hmk : mk (mz_ey e) with ⟨⟨y, by_, maxL, rt, tb, hh⟩, na, kd⟩
  rw [hmk] at hk
  obtain ⟨hd, hna, hkd, hw⟩ := hk
  change na = _ at hna
  change kd = 0 at hkd
  unfold mz_s_invs at h
  obtain ⟨as, rest, hlen, hst, h⟩ := mz_tk_ok _ _ _ h
  rw [List.append_nil] at h
  obtain ⟨a1, h⟩ := mz_ift h
  obtain ⟨r1, hcl, h⟩ := mz_bd_ok h
  obtain ⟨hSp, hcal⟩ := hC _ _ _ _ _ _ _ hcl
  rw [hmk] at hSp hcal
  obtain ⟨c1, c2, c3, c4, c5, c6, c7, c8, c9, c10⟩ := hcal
  rcases r1 with ⟨rx, rv, M1, K1, n1, top1, cc1, ss1⟩
  obtain ⟨⟨b1, b2⟩, kR, kX⟩ := mz_aft_ok hy h
  have hn : mz_na y as.length := by rw [hlen, ← hna]; exact c4
  have hcr : mz_CR X pc L st rest M K n top nc ns 3 (rx, rv, M1, K1, n1, top1, cc1, ss1) := by
    cases tb with
    | false => exact mz_crS C O hd hSp hst (mz_l4_ok a1) hn c3 c1 (mz_wi_ok hw) (c6 hkd) c2 ⟨by omega, by change maxL ≤ 40 at c5; omega, Nat.le_trans b1 hR.1, Nat.le_trans b2 hR.2⟩
    | true => exact mz_crSW C O hd hSp hst (mz_l4_ok a1) hn c3 c1 (mz_wi_ok hw) (c6 hkd) c2 ⟨by omega, by change maxL ≤ 40 at c5; omega, Nat.le_trans b1 hR.1, Nat.le_trans b2 hR.2⟩
  exact ⟨Nat.le_trans (Nat.le_add_right _ _) b1, Nat.le_trans (Nat.le_add_right _ _) b2, mz_called C (fun w hw => by rw [hst]; simp [hw]) hcr kR kX⟩
noncomputable def mz_s_invv (F : Nat → Nat × Nat) (nL mo : Nat) (hs : List mz_Hr) (call : mz_Ca) (go : mz_Go) (e pc L : Nat) (st : List Nat) (M K n top nc ns : Nat) : Option mz_Rt :=
  mz_tk (Nat.mod (Nat.div (mz_ez e) 4096) 16) (fun as rest => mz_p1 rest fun x rest => (mz_ci (mz_l4 rest) ((mz_ci (mz_ref n x) ((mz_ci (Nat.beq (mz_ct K (mz_k x)) (Nat.div (mz_ez e) 65536)) (mz_bd (call (mz_ey e) (x :: as) M K n top) fun r1 => mz_aft hs mo nL go 3 pc L rest nc ns r1) (none))) (none))) (none))) st []
noncomputable def mz_k_invv (mk : mz_Mk) (own mn : String) (cc : ByteArray) (mo : Nat) (ret : Option FieldType) (e pc : Nat) : Bool := (vwCl[(Nat.div (mz_ez e) 65536)]?).elim false fun q => decide (decode cc pc = .ok (.invokevirtual (mz_ex e), 3) ∧ (mk (mz_ey e)).2.1 = (Nat.mod (Nat.div (mz_ez e) 4096) 16) ∧ (mk (mz_ey e)).2.2 = 1 ∧ mz_wi (Nat.mod (mz_ez e) 4096) (.methodLink own (mz_ex e) (mk (mz_ey e)).1.1) ∧ (Nat.div (mz_ez e) 65536) < 64 ∧ q.1 = (mk (mz_ey e)).1.1.cls)
theorem mz_t_invv (mk : mz_Mk) : mz_Lk mk mz_s_invv (mz_k_invv mk) := by
  intro X own cc F nL mo d hs ret r call go e pc L st M K n top nc ns ⟨C, O, hnL, hR, hD, hE, hC, hG⟩ hk h
  have hy : mz_Cy X mk cc own F nL mo d hs ret r call go := ⟨C, O, hnL, hR, hD, hE, hC, hG⟩
  obtain ⟨⟨C0, T, N⟩, hc, hk⟩ := mz_elim hk
  have hk := of_decide_eq_true hk
  rcases hmk : mk (mz_ey e) with ⟨⟨y, by_, maxL, rt, tb, hh⟩, na, kd⟩
  rw [hmk] at hk
  obtain ⟨hd, hna, hkd, hw, hci, hcn⟩ := hk
  change na = _ at hna
  change kd = 1 at hkd
  change C0 = y.cls at hcn
  unfold mz_s_invv at h
  obtain ⟨as, rest2, hlen, hst, h⟩ := mz_tk_ok _ _ _ h
  rw [List.append_nil] at h
  obtain ⟨x, rest, rfl, hp⟩ := mz_p1_ok h
  have h := hp
  obtain ⟨a1, h⟩ := mz_ift h
  obtain ⟨a2, h⟩ := mz_ift h
  obtain ⟨a3, h⟩ := mz_ift h
  obtain ⟨r1, hcl, h⟩ := mz_bd_ok h
  obtain ⟨hSp, hcal⟩ := hC _ _ _ _ _ _ _ hcl
  rw [hmk] at hSp hcal
  obtain ⟨c1, c2, c3, c4, c5, c6, c7, c8, c9, c10⟩ := hcal
  rcases r1 with ⟨rx, rv, M1, K1, n1, top1, cc1, ss1⟩
  obtain ⟨⟨b1, b2⟩, kR, kX⟩ := mz_aft_ok hy h
  have hn : mz_na y as.length := by rw [hlen, ← hna]; exact c4
  obtain ⟨c71, c72, c73⟩ := c7 hkd
  change tb = false at c71
  subst c71
  have hrc := mz_Rc_new (M := M) (top := top) C a2 (mz_bq a3) hci hc
  rw [hcn] at hrc
  have hcr : mz_CR X pc L st rest M K n top nc ns 3 (rx, rv, M1, K1, n1, top1, cc1, ss1) := mz_crV C O hd hSp hst (mz_l4_ok a1) hn c3 hrc c1 (mz_wi_ok hw) c72 c73 c2 ⟨by omega, by change maxL ≤ 40 at c5; omega, Nat.le_trans b1 hR.1, Nat.le_trans b2 hR.2⟩
  exact ⟨Nat.le_trans (Nat.le_add_right _ _) b1, Nat.le_trans (Nat.le_add_right _ _) b2, mz_called C (fun w hw => by rw [hst]; simp [hw]) hcr kR kX⟩
noncomputable def mz_s_invt (F : Nat → Nat × Nat) (nL mo : Nat) (hs : List mz_Hr) (call : mz_Ca) (go : mz_Go) (e pc L : Nat) (st : List Nat) (M K n top nc ns : Nat) : Option mz_Rt :=
  mz_tk (Nat.mod (Nat.div (mz_ez e) 4096) 16) (fun as rest => mz_p1 rest fun x rest => (mz_ci (mz_l4 rest) (mz_sj x fun _ => mz_bd (call (mz_ey e) (x :: as) M K n top) fun r1 => mz_aft hs mo nL go 3 pc L rest nc ns r1) (none))) st []
noncomputable def mz_k_invt (mk : mz_Mk) (own mn : String) (cc : ByteArray) (mo : Nat) (ret : Option FieldType) (e pc : Nat) : Bool := decide (decode cc pc = .ok (.invokevirtual (mz_ex e), 3) ∧ (mk (mz_ey e)).2.1 = (Nat.mod (Nat.div (mz_ez e) 4096) 16) ∧ (mk (mz_ey e)).2.2 = 1 ∧ mz_wi (Nat.mod (mz_ez e) 4096) (.methodLink own (mz_ex e) (mk (mz_ey e)).1.1) ∧ (mk (mz_ey e)).1.1.cls = "java/lang/String")
theorem mz_t_invt (mk : mz_Mk) : mz_Lk mk mz_s_invt (mz_k_invt mk) := by
  intro X own cc F nL mo d hs ret r call go e pc L st M K n top nc ns ⟨C, O, hnL, hR, hD, hE, hC, hG⟩ hk h
  have hy : mz_Cy X mk cc own F nL mo d hs ret r call go := ⟨C, O, hnL, hR, hD, hE, hC, hG⟩
  have hk := of_decide_eq_true hk
  rcases hmk : mk (mz_ey e) with ⟨⟨y, by_, maxL, rt, tb, hh⟩, na, kd⟩
  rw [hmk] at hk
  obtain ⟨hd, hna, hkd, hw, hcn⟩ := hk
  change na = _ at hna
  change kd = 1 at hkd
  change y.cls = _ at hcn
  unfold mz_s_invt at h
  obtain ⟨as, rest2, hlen, hst, h⟩ := mz_tk_ok _ _ _ h
  rw [List.append_nil] at h
  obtain ⟨x, rest, rfl, hp⟩ := mz_p1_ok h
  have h := hp
  obtain ⟨a1, h⟩ := mz_ift h
  obtain ⟨j, q, hx, hj, h⟩ := mz_sj_ok h
  obtain ⟨r1, hcl, h⟩ := mz_bd_ok h
  obtain ⟨hSp, hcal⟩ := hC _ _ _ _ _ _ _ hcl
  rw [hmk] at hSp hcal
  obtain ⟨c1, c2, c3, c4, c5, c6, c7, c8, c9, c10⟩ := hcal
  rcases r1 with ⟨rx, rv, M1, K1, n1, top1, cc1, ss1⟩
  obtain ⟨⟨b1, b2⟩, kR, kX⟩ := mz_aft_ok hy h
  have hn : mz_na y as.length := by rw [hlen, ← hna]; exact c4
  obtain ⟨c71, c72, c73⟩ := c7 hkd
  change tb = false at c71
  subst c71
  have hrc := mz_Rc_str (X := X) (M := M) (K := K) (n := n) (top := top) O hj
  rw [← hcn, ← hx] at hrc
  have hcr : mz_CR X pc L st rest M K n top nc ns 3 (rx, rv, M1, K1, n1, top1, cc1, ss1) := mz_crV C O hd hSp hst (mz_l4_ok a1) hn c3 hrc c1 (mz_wi_ok hw) c72 c73 c2 ⟨by omega, by change maxL ≤ 40 at c5; omega, Nat.le_trans b1 hR.1, Nat.le_trans b2 hR.2⟩
  exact ⟨Nat.le_trans (Nat.le_add_right _ _) b1, Nat.le_trans (Nat.le_add_right _ _) b2, mz_called C (fun w hw => by rw [hst]; simp [hw]) hcr kR kX⟩
noncomputable def mz_s_invi (F : Nat → Nat × Nat) (nL mo : Nat) (hs : List mz_Hr) (call : mz_Ca) (go : mz_Go) (e pc L : Nat) (st : List Nat) (M K n top nc ns : Nat) : Option mz_Rt :=
  mz_tk (Nat.mod (Nat.div (mz_ez e) 4096) 16) (fun as rest => mz_p1 rest fun x rest => (mz_ci (mz_l4 rest) ((mz_ci (mz_ref n x) (mz_bd (call (mz_ey e) (x :: as) M K n top) fun r1 => (mz_ci (Nat.beq r1.1 0) (mz_aft hs mo nL go 3 pc L rest nc ns r1) (none))) (none))) (none))) st []
noncomputable def mz_k_invi (mk : mz_Mk) (own mn : String) (cc : ByteArray) (mo : Nat) (ret : Option FieldType) (e pc : Nat) : Bool := decide (decode cc pc = .ok (.invokespecial (mz_ex e), 3) ∧ (mk (mz_ey e)).2.1 = (Nat.mod (Nat.div (mz_ez e) 4096) 16) ∧ (mk (mz_ey e)).2.2 = 2 ∧ mz_wi (Nat.mod (mz_ez e) 4096) (.methodLink own (mz_ex e) (mk (mz_ey e)).1.1))
theorem mz_t_invi (mk : mz_Mk) : mz_Lk mk mz_s_invi (mz_k_invi mk) := by
  intro X own cc F nL mo d hs ret r call go e pc L st M K n top nc ns ⟨C, O, hnL, hR, hD, hE, hC, hG⟩ hk h
  have hy : mz_Cy X mk cc own F nL mo d hs ret r call go := ⟨C, O, hnL, hR, hD, hE, hC, hG⟩
  have hk := of_decide_eq_true hk
  rcases hmk : mk (mz_ey e) with ⟨⟨y, by_, maxL, rt, tb, hh⟩, na, kd⟩
  rw [hmk] at hk
  obtain ⟨hd, hna, hkd, hw⟩ := hk
  change na = _ at hna
  change kd = 2 at hkd
  unfold mz_s_invi at h
  obtain ⟨as, rest2, hlen, hst, h⟩ := mz_tk_ok _ _ _ h
  rw [List.append_nil] at h
  obtain ⟨x, rest, rfl, hp⟩ := mz_p1_ok h
  have h := hp
  obtain ⟨a1, h⟩ := mz_ift h
  obtain ⟨a2, h⟩ := mz_ift h
  obtain ⟨r1, hcl, h⟩ := mz_bd_ok h
  obtain ⟨ar0, h⟩ := mz_ift h
  obtain ⟨hSp, hcal⟩ := hC _ _ _ _ _ _ _ hcl
  rw [hmk] at hSp hcal
  obtain ⟨c1, c2, c3, c4, c5, c6, c7, c8, c9, c10⟩ := hcal
  rcases r1 with ⟨rx, rv, M1, K1, n1, top1, cc1, ss1⟩
  obtain ⟨⟨b1, b2⟩, kR, kX⟩ := mz_aft_ok hy h
  have hn : mz_na y as.length := by rw [hlen, ← hna]; exact c4
  obtain ⟨c71, c72, c73, c74⟩ := c8 hkd
  change tb = false at c71
  change rt = none at c74
  subst c71
  subst c74
  have hcr : mz_CR X pc L st rest M K n top nc ns 3 (rx, rv, M1, K1, n1, top1, cc1, ss1) := mz_crI C O hd (mz_bq ar0) hSp hst (mz_l4_ok a1) hn c3 a2 c73 c1 (mz_wi_ok hw) c72 c2 ⟨by omega, by change maxL ≤ 40 at c5; omega, Nat.le_trans b1 hR.1, Nat.le_trans b2 hR.2⟩
  exact ⟨Nat.le_trans (Nat.le_add_right _ _) b1, Nat.le_trans (Nat.le_add_right _ _) b2, mz_called C (fun w hw => by rw [hst]; simp [hw]) hcr kR kX⟩
noncomputable def mz_s_invn (F : Nat → Nat × Nat) (nL mo : Nat) (hs : List mz_Hr) (call : mz_Ca) (go : mz_Go) (e pc L : Nat) (st : List Nat) (M K n top nc ns : Nat) : Option mz_Rt :=
  mz_tk (Nat.mod (Nat.div (mz_ez e) 4096) 16) (fun as rest => mz_p1 rest fun x rest => (mz_ci (mz_l4 rest) ((mz_ci (mz_ref n x) (mz_bd (call (mz_ey e) (x :: as) M K n top) fun r1 => (mz_ci (Nat.beq r1.1 0) (mz_aft hs mo nL go 3 pc L rest nc ns r1) (none))) (none))) (none))) st []
noncomputable def mz_k_invn (mk : mz_Mk) (own mn : String) (cc : ByteArray) (mo : Nat) (ret : Option FieldType) (e pc : Nat) : Bool := decide (decode cc pc = .ok (.invokespecial (mz_ex e), 3) ∧ (mk (mz_ey e)).2.1 = (Nat.mod (Nat.div (mz_ez e) 4096) 16) ∧ (mk (mz_ey e)).2.2 = 2 ∧ lw_tbl[(Nat.mod (mz_ez e) 4096)]? = some (.methodLinkNest own (mz_ex e) (mk (mz_ey e)).1.1 "Hundredward"))
theorem mz_t_invn (mk : mz_Mk) : mz_Lk mk mz_s_invn (mz_k_invn mk) := by
  intro X own cc F nL mo d hs ret r call go e pc L st M K n top nc ns ⟨C, O, hnL, hR, hD, hE, hC, hG⟩ hk h
  have hy : mz_Cy X mk cc own F nL mo d hs ret r call go := ⟨C, O, hnL, hR, hD, hE, hC, hG⟩
  have hk := of_decide_eq_true hk
  rcases hmk : mk (mz_ey e) with ⟨⟨y, by_, maxL, rt, tb, hh⟩, na, kd⟩
  rw [hmk] at hk
  obtain ⟨hd, hna, hkd, hw⟩ := hk
  change na = _ at hna
  change kd = 2 at hkd
  unfold mz_s_invn at h
  obtain ⟨as, rest2, hlen, hst, h⟩ := mz_tk_ok _ _ _ h
  rw [List.append_nil] at h
  obtain ⟨x, rest, rfl, hp⟩ := mz_p1_ok h
  have h := hp
  obtain ⟨a1, h⟩ := mz_ift h
  obtain ⟨a2, h⟩ := mz_ift h
  obtain ⟨r1, hcl, h⟩ := mz_bd_ok h
  obtain ⟨ar0, h⟩ := mz_ift h
  obtain ⟨hSp, hcal⟩ := hC _ _ _ _ _ _ _ hcl
  rw [hmk] at hSp hcal
  obtain ⟨c1, c2, c3, c4, c5, c6, c7, c8, c9, c10⟩ := hcal
  rcases r1 with ⟨rx, rv, M1, K1, n1, top1, cc1, ss1⟩
  obtain ⟨⟨b1, b2⟩, kR, kX⟩ := mz_aft_ok hy h
  have hn : mz_na y as.length := by rw [hlen, ← hna]; exact c4
  obtain ⟨c71, c72, c73, c74⟩ := c8 hkd
  change tb = false at c71
  change rt = none at c74
  subst c71
  subst c74
  have hcr : mz_CR X pc L st rest M K n top nc ns 3 (rx, rv, M1, K1, n1, top1, cc1, ss1) := mz_crIN C O hd (mz_bq ar0) hSp hst (mz_l4_ok a1) hn c3 a2 c73 c1 (List.mem_of_getElem? hw) c72 c2 ⟨by omega, by change maxL ≤ 40 at c5; omega, Nat.le_trans b1 hR.1, Nat.le_trans b2 hR.2⟩
  exact ⟨Nat.le_trans (Nat.le_add_right _ _) b1, Nat.le_trans (Nat.le_add_right _ _) b2, mz_called C (fun w hw => by rw [hst]; simp [hw]) hcr kR kX⟩
noncomputable def mz_s_invh (F : Nat → Nat × Nat) (nL mo : Nat) (hs : List mz_Hr) (call : mz_Ca) (go : mz_Go) (e pc L : Nat) (st : List Nat) (M K n top nc ns : Nat) : Option mz_Rt :=
  mz_tk (Nat.mod (Nat.div (mz_ez e) 4096) 16) (fun as rest => mz_p1 rest fun x rest => (mz_ci (mz_l4 rest) ((mz_ci (mz_ref n x) ((mz_ci (Nat.beq (mz_ct K (mz_k x)) (Nat.div (mz_ez e) 65536)) (mz_bd (call (mz_ey e) (x :: as) M K n top) fun r1 => (mz_ci (Nat.beq r1.1 0) (mz_aft hs mo nL go 5 pc L rest nc ns r1) (none))) (none))) (none))) (none))) st []
noncomputable def mz_k_invh (mk : mz_Mk) (own mn : String) (cc : ByteArray) (mo : Nat) (ret : Option FieldType) (e pc : Nat) : Bool := (vwCl[(Nat.div (mz_ez e) 65536)]?).elim false fun q => decide (decode cc pc = .ok (.invokeinterface (mz_ex e) 1, 5) ∧ (mk (mz_ey e)).2.1 = (Nat.mod (Nat.div (mz_ez e) 4096) 16) ∧ (mk (mz_ey e)).2.2 = 3 ∧ mz_wi (Nat.mod (mz_ez e) 4096) (.methodLink own (mz_ex e) mz_hasN) ∧ (Nat.div (mz_ez e) 65536) < 64 ∧ q.1 = mz_itr)
theorem mz_t_invh (mk : mz_Mk) : mz_Lk mk mz_s_invh (mz_k_invh mk) := by
  intro X own cc F nL mo d hs ret r call go e pc L st M K n top nc ns ⟨C, O, hnL, hR, hD, hE, hC, hG⟩ hk h
  have hy : mz_Cy X mk cc own F nL mo d hs ret r call go := ⟨C, O, hnL, hR, hD, hE, hC, hG⟩
  obtain ⟨⟨C0, T, N⟩, hc, hk⟩ := mz_elim hk
  have hk := of_decide_eq_true hk
  rcases hmk : mk (mz_ey e) with ⟨⟨y, by_, maxL, rt, tb, hh⟩, na, kd⟩
  rw [hmk] at hk
  obtain ⟨hd, hna, hkd, hw, hci, hcn⟩ := hk
  change na = _ at hna
  change kd = 3 at hkd
  change C0 = mz_itr at hcn
  subst hcn
  unfold mz_s_invh at h
  obtain ⟨as, rest2, hlen, hst, h⟩ := mz_tk_ok _ _ _ h
  rw [List.append_nil] at h
  obtain ⟨x, rest, rfl, hp⟩ := mz_p1_ok h
  have h := hp
  obtain ⟨a1, h⟩ := mz_ift h
  obtain ⟨a2, h⟩ := mz_ift h
  obtain ⟨a3, h⟩ := mz_ift h
  obtain ⟨r1, hcl, h⟩ := mz_bd_ok h
  obtain ⟨ar0, h⟩ := mz_ift h
  obtain ⟨hSp, hcal⟩ := hC _ _ _ _ _ _ _ hcl
  rw [hmk] at hSp hcal
  obtain ⟨c1, c2, c3, c4, c5, c6, c7, c8, c9, c10⟩ := hcal
  rcases r1 with ⟨rx, rv, M1, K1, n1, top1, cc1, ss1⟩
  obtain ⟨⟨b1, b2⟩, kR, kX⟩ := mz_aft_ok hy h
  obtain ⟨c71, c72, c73, c74, c75⟩ := c9 hkd
  have hn : mz_na mz_hasN as.length := by rw [hlen, ← hna]; exact c75
  change tb = false at c71
  subst c71
  have hcr : mz_CR X pc L st rest M K n top nc ns 5 (rx, rv, M1, K1, n1, top1, cc1, ss1) := mz_crF C O hd (mz_bq ar0) hSp hst (mz_l4_ok a1) hn (by decide +kernel) (Or.inl ⟨rfl, c73⟩) a2 (mz_bq a3) hci hc c1 (mz_wi_ok hw) c72 c74 c2 ⟨by omega, by change maxL ≤ 40 at c5; omega, Nat.le_trans b1 hR.1, Nat.le_trans b2 hR.2⟩
  exact ⟨Nat.le_trans (Nat.le_add_right _ _) b1, Nat.le_trans (Nat.le_add_right _ _) b2, mz_called C (fun w hw => by rw [hst]; simp [hw]) hcr kR kX⟩
noncomputable def mz_s_invx (F : Nat → Nat × Nat) (nL mo : Nat) (hs : List mz_Hr) (call : mz_Ca) (go : mz_Go) (e pc L : Nat) (st : List Nat) (M K n top nc ns : Nat) : Option mz_Rt :=
  mz_tk (Nat.mod (Nat.div (mz_ez e) 4096) 16) (fun as rest => mz_p1 rest fun x rest => (mz_ci (mz_l4 rest) ((mz_ci (mz_ref n x) ((mz_ci (Nat.beq (mz_ct K (mz_k x)) (Nat.div (mz_ez e) 65536)) (mz_bd (call (mz_ey e) (x :: as) M K n top) fun r1 => (mz_ci (Nat.beq r1.1 0) (mz_aft hs mo nL go 5 pc L rest nc ns r1) (none))) (none))) (none))) (none))) st []
noncomputable def mz_k_invx (mk : mz_Mk) (own mn : String) (cc : ByteArray) (mo : Nat) (ret : Option FieldType) (e pc : Nat) : Bool := (vwCl[(Nat.div (mz_ez e) 65536)]?).elim false fun q => decide (decode cc pc = .ok (.invokeinterface (mz_ex e) 1, 5) ∧ (mk (mz_ey e)).2.1 = (Nat.mod (Nat.div (mz_ez e) 4096) 16) ∧ (mk (mz_ey e)).2.2 = 4 ∧ mz_wi (Nat.mod (mz_ez e) 4096) (.methodLink own (mz_ex e) mz_nextN) ∧ (Nat.div (mz_ez e) 65536) < 64 ∧ q.1 = mz_itr)
theorem mz_t_invx (mk : mz_Mk) : mz_Lk mk mz_s_invx (mz_k_invx mk) := by
  intro X own cc F nL mo d hs ret r call go e pc L st M K n top nc ns ⟨C, O, hnL, hR, hD, hE, hC, hG⟩ hk h
  have hy : mz_Cy X mk cc own F nL mo d hs ret r call go := ⟨C, O, hnL, hR, hD, hE, hC, hG⟩
  obtain ⟨⟨C0, T, N⟩, hc, hk⟩ := mz_elim hk
  have hk := of_decide_eq_true hk
  rcases hmk : mk (mz_ey e) with ⟨⟨y, by_, maxL, rt, tb, hh⟩, na, kd⟩
  rw [hmk] at hk
  obtain ⟨hd, hna, hkd, hw, hci, hcn⟩ := hk
  change na = _ at hna
  change kd = 4 at hkd
  change C0 = mz_itr at hcn
  subst hcn
  unfold mz_s_invx at h
  obtain ⟨as, rest2, hlen, hst, h⟩ := mz_tk_ok _ _ _ h
  rw [List.append_nil] at h
  obtain ⟨x, rest, rfl, hp⟩ := mz_p1_ok h
  have h := hp
  obtain ⟨a1, h⟩ := mz_ift h
  obtain ⟨a2, h⟩ := mz_ift h
  obtain ⟨a3, h⟩ := mz_ift h
  obtain ⟨r1, hcl, h⟩ := mz_bd_ok h
  obtain ⟨ar0, h⟩ := mz_ift h
  obtain ⟨hSp, hcal⟩ := hC _ _ _ _ _ _ _ hcl
  rw [hmk] at hSp hcal
  obtain ⟨c1, c2, c3, c4, c5, c6, c7, c8, c9, c10⟩ := hcal
  rcases r1 with ⟨rx, rv, M1, K1, n1, top1, cc1, ss1⟩
  obtain ⟨⟨b1, b2⟩, kR, kX⟩ := mz_aft_ok hy h
  obtain ⟨c71, c72, c73, c74, c75⟩ := c10 hkd
  have hn : mz_na mz_nextN as.length := by rw [hlen, ← hna]; exact c75
  change tb = false at c71
  subst c71
  have hcr : mz_CR X pc L st rest M K n top nc ns 5 (rx, rv, M1, K1, n1, top1, cc1, ss1) := mz_crF C O hd (mz_bq ar0) hSp hst (mz_l4_ok a1) hn (by decide +kernel) (Or.inr ⟨rfl, c73⟩) a2 (mz_bq a3) hci hc c1 (mz_wi_ok hw) c72 c74 c2 ⟨by omega, by change maxL ≤ 40 at c5; omega, Nat.le_trans b1 hR.1, Nat.le_trans b2 hR.2⟩
  exact ⟨Nat.le_trans (Nat.le_add_right _ _) b1, Nat.le_trans (Nat.le_add_right _ _) b2, mz_called C (fun w hw => by rw [hst]; simp [hw]) hcr kR kX⟩
noncomputable def mz_s_oinit (F : Nat → Nat × Nat) (nL mo : Nat) (hs : List mz_Hr) (call : mz_Ca) (go : mz_Go) (e pc L : Nat) (st : List Nat) (M K n top nc ns : Nat) : Option mz_Rt :=
  mz_p1 st fun x l => (mz_ci (mz_ref n x) ((mz_ci (mz_l4 l) (go (Nat.add pc 3) L l M K n top nc ns) (none))) (none))
noncomputable def mz_k_oinit (own mn : String) (cc : ByteArray) (mo : Nat) (ret : Option FieldType) (e pc : Nat) : Bool := decide (decode cc pc = .ok (.invokespecial (mz_ex e), 3) ∧ mz_wi (mz_ez e) (.methodLink own (mz_ex e) Lib.objectInit) ∧ Jvm.Cond.instanceMethod Lib.objectInit ∈ mz_gG ∧ Jvm.Cond.code Lib.objectInit ⟨#[0xb1]⟩ 1 none ∈ mz_gG)
theorem mz_t_oinit (mk : mz_Mk) : mz_Lk mk mz_s_oinit mz_k_oinit := by
  intro X own cc F nL mo d hs ret r call go e pc L st M K n top nc ns ⟨C, O, hnL, hR, hD, hE, hC, hG⟩ hk h
  obtain ⟨hd, hw, hw2, hw3⟩ := of_decide_eq_true hk
  unfold mz_s_oinit at h
  obtain ⟨x, l, rfl, hp⟩ := mz_p1_ok h
  have h := hp
  obtain ⟨a1, h⟩ := mz_ift h
  obtain ⟨a2, h⟩ := mz_ift h
  obtain ⟨g1, g2, g3⟩ := hG _ _ _ _ _ _ _ _ _ h
  exact ⟨g1, g2, mz_objinit C hd a1 (mz_l4_ok a2) (mz_wi_ok hw) hw2 hw3 ⟨by omega, by omega⟩ g3⟩
noncomputable def mz_s_copy (F : Nat → Nat × Nat) (nL mo : Nat) (hs : List mz_Hr) (call : mz_Ca) (go : mz_Go) (e pc L : Nat) (st : List Nat) (M K n top nc ns : Nat) : Option mz_Rt :=
  mz_p1 st fun w l => mz_p1 l fun i1 l => mz_p1 l fun x1 l => mz_p1 l fun i0 l => mz_p1 l fun x0 l => (mz_ci (mz_l4 l) ((mz_ci (mz_ref n x0) ((mz_ci (mz_ref n x1) ((mz_ci (Nat.beq (mz_ct K (mz_k x0)) 64) ((mz_ci (Nat.beq (mz_ct K (mz_k x1)) 64) ((mz_ci (mz_sm i0) ((mz_ci (mz_sm i1) ((mz_ci (mz_sm w) ((mz_ci (Nat.ble (Nat.add (mz_q i0) (mz_q w)) (mz_cn K (mz_k x0))) ((mz_ci (Nat.ble (Nat.add (mz_q i1) (mz_q w)) (mz_cn K (mz_k x1))) (mz_f (mz_fl (mz_rd M (mz_q w) (Nat.add (mz_cb K (mz_k x0)) (mz_q i0))) M (Nat.add (mz_cb K (mz_k x1)) (mz_q i1))) fun M => go (Nat.add pc 3) L l M K n top nc ns) (none))) (none))) (none))) (none))) (none))) (none))) (none))) (none))) (none))) (none))
noncomputable def mz_k_copy (own mn : String) (cc : ByteArray) (mo : Nat) (ret : Option FieldType) (e pc : Nat) : Bool := decide (decode cc pc = .ok (.invokestatic (mz_ex e), 3) ∧ mz_wi (mz_ez e) (.methodLink own (mz_ex e) arraycopyName) ∧ Jvm.Cond.native arraycopyName ∈ mz_gG ∧ Jvm.Cond.static arraycopyName ∈ mz_gG ∧ Jvm.Cond.initialized "java/lang/System" ∈ mz_gG)
theorem mz_t_copy (mk : mz_Mk) : mz_Lk mk mz_s_copy mz_k_copy := by
  intro X own cc F nL mo d hs ret r call go e pc L st M K n top nc ns ⟨C, O, hnL, hR, hD, hE, hC, hG⟩ hk h
  obtain ⟨hd, hw, hw2, hw3, hw4⟩ := of_decide_eq_true hk
  unfold mz_s_copy at h
  obtain ⟨w, l, rfl, h1⟩ := mz_p1_ok h
  obtain ⟨i1, l, rfl, h2⟩ := mz_p1_ok h1
  obtain ⟨x1, l, rfl, h3⟩ := mz_p1_ok h2
  obtain ⟨i0, l, rfl, h4⟩ := mz_p1_ok h3
  obtain ⟨x0, l, rfl, h5⟩ := mz_p1_ok h4
  have h := h5
  obtain ⟨b0, h⟩ := mz_ift h
  obtain ⟨b1, h⟩ := mz_ift h
  obtain ⟨b2, h⟩ := mz_ift h
  obtain ⟨b3, h⟩ := mz_ift h
  obtain ⟨b4, h⟩ := mz_ift h
  obtain ⟨b5, h⟩ := mz_ift h
  obtain ⟨b6, h⟩ := mz_ift h
  obtain ⟨b7, h⟩ := mz_ift h
  obtain ⟨b8, h⟩ := mz_ift h
  obtain ⟨b9, h⟩ := mz_ift h
  rw [mz_f_eq] at h
  obtain ⟨g1, g2, g3⟩ := hG _ _ _ _ _ _ _ _ _ h
  have hn5 : nativeFrameWords "java/lang/System" "arraycopy" 5 ≤ 100 := by decide +kernel
  exact ⟨g1, g2, mz_copy C hd (mz_wi_ok hw) hw2 hw3 hw4 b1 b2 (mz_bq b3) (mz_bq b4) b5 b6 b7 (mz_bl b8) (mz_bl b9) (mz_l4_ok b0) ⟨by omega, by omega⟩ g3⟩
noncomputable def mz_s_mmax (F : Nat → Nat × Nat) (nL mo : Nat) (hs : List mz_Hr) (call : mz_Ca) (go : mz_Go) (e pc L : Nat) (st : List Nat) (M K n top nc ns : Nat) : Option mz_Rt :=
  mz_p1 st fun y l => mz_p1 l fun x l => (mz_ci (mz_l4 l) (mz_lt F x y fun b => mz_f ((mz_ci (b) (y) (x))) fun w => go (Nat.add pc 3) L (w :: l) M K n top nc ns) (none))
noncomputable def mz_k_mmax (own mn : String) (cc : ByteArray) (mo : Nat) (ret : Option FieldType) (e pc : Nat) : Bool := decide (decode cc pc = .ok (.invokestatic (mz_ex e), 3) ∧ mz_wi (mz_ez e) (.methodLink own (mz_ex e) Lib.Math.max.name) ∧ Jvm.Cond.static Lib.Math.max.name ∈ mz_gG ∧ Jvm.Cond.initialized "java/lang/Math" ∈ mz_gG ∧ Jvm.Cond.code Lib.Math.max.name Lib.Math.max.code 2 (some .int) ∈ mz_gG)
theorem mz_t_mmax (mk : mz_Mk) : mz_Lk mk mz_s_mmax mz_k_mmax := by
  intro X own cc F nL mo d hs ret r call go e pc L st M K n top nc ns ⟨C, O, hnL, hR, hD, hE, hC, hG⟩ hk h
  obtain ⟨hd, hw, hw2, hw3, hw4⟩ := of_decide_eq_true hk
  have hF : mz_F F (mz_rho X) := mz_CF C
  unfold mz_s_mmax at h
  obtain ⟨y, l, rfl, hp⟩ := mz_p1_ok h
  obtain ⟨x, l, rfl, hq⟩ := mz_p1_ok hp
  have h := hq
  obtain ⟨a0, h⟩ := mz_ift h
  obtain ⟨a1, a2, b, h, a3⟩ := mz_lt_ok hF h
  rw [mz_f_eq] at h
  obtain ⟨g1, g2, g3⟩ := hG _ _ _ _ _ _ _ _ _ h
  exact ⟨g1, g2, mz_mmaxG C hd (mz_wi_ok hw) hw2 hw3 hw4 a1 a2 (mz_pickI a1 a2) (mz_pick a3) (mz_l4_ok a0) ⟨by omega, by omega, Nat.le_trans g1 hR.1, Nat.le_trans g2 hR.2⟩ g3⟩
noncomputable def mz_s_mmin (F : Nat → Nat × Nat) (nL mo : Nat) (hs : List mz_Hr) (call : mz_Ca) (go : mz_Go) (e pc L : Nat) (st : List Nat) (M K n top nc ns : Nat) : Option mz_Rt :=
  mz_p1 st fun y l => mz_p1 l fun x l => (mz_ci (mz_l4 l) (mz_lt F y x fun b => mz_f ((mz_ci (b) (y) (x))) fun w => go (Nat.add pc 3) L (w :: l) M K n top nc ns) (none))
noncomputable def mz_k_mmin (own mn : String) (cc : ByteArray) (mo : Nat) (ret : Option FieldType) (e pc : Nat) : Bool := decide (decode cc pc = .ok (.invokestatic (mz_ex e), 3) ∧ mz_wi (mz_ez e) (.methodLink own (mz_ex e) Lib.Math.min.name) ∧ Jvm.Cond.static Lib.Math.min.name ∈ mz_gG ∧ Jvm.Cond.initialized "java/lang/Math" ∈ mz_gG ∧ Jvm.Cond.code Lib.Math.min.name Lib.Math.min.code 2 (some .int) ∈ mz_gG)
theorem mz_t_mmin (mk : mz_Mk) : mz_Lk mk mz_s_mmin mz_k_mmin := by
  intro X own cc F nL mo d hs ret r call go e pc L st M K n top nc ns ⟨C, O, hnL, hR, hD, hE, hC, hG⟩ hk h
  obtain ⟨hd, hw, hw2, hw3, hw4⟩ := of_decide_eq_true hk
  have hF : mz_F F (mz_rho X) := mz_CF C
  unfold mz_s_mmin at h
  obtain ⟨y, l, rfl, hp⟩ := mz_p1_ok h
  obtain ⟨x, l, rfl, hq⟩ := mz_p1_ok hp
  have h := hq
  obtain ⟨a0, h⟩ := mz_ift h
  obtain ⟨a1, a2, b, h, a3⟩ := mz_lt_ok hF h
  rw [mz_f_eq] at h
  obtain ⟨g1, g2, g3⟩ := hG _ _ _ _ _ _ _ _ _ h
  exact ⟨g1, g2, mz_mminG C hd (mz_wi_ok hw) hw2 hw3 hw4 a2 a1 (mz_pickI a2 a1) (mz_pick a3) (mz_l4_ok a0) ⟨by omega, by omega, Nat.le_trans g1 hR.1, Nat.le_trans g2 hR.2⟩ g3⟩
noncomputable def mz_s_mabs (F : Nat → Nat × Nat) (nL mo : Nat) (hs : List mz_Hr) (call : mz_Ca) (go : mz_Go) (e pc L : Nat) (st : List Nat) (M K n top nc ns : Nat) : Option mz_Rt :=
  mz_p1 st fun x l => (mz_ci (mz_l4 l) (mz_lt F x 1 fun b => (mz_ci (b) (mz_oneg x fun w => go (Nat.add pc 3) L (w :: l) M K n top nc ns) (go (Nat.add pc 3) L (x :: l) M K n top nc ns))) (none))
noncomputable def mz_k_mabs (own mn : String) (cc : ByteArray) (mo : Nat) (ret : Option FieldType) (e pc : Nat) : Bool := decide (decode cc pc = .ok (.invokestatic (mz_ex e), 3) ∧ mz_wi (mz_ez e) (.methodLink own (mz_ex e) Lib.Math.abs.name) ∧ Jvm.Cond.static Lib.Math.abs.name ∈ mz_gG ∧ Jvm.Cond.initialized "java/lang/Math" ∈ mz_gG ∧ Jvm.Cond.code Lib.Math.abs.name Lib.Math.abs.code 1 (some .int) ∈ mz_gG)
theorem mz_t_mabs (mk : mz_Mk) : mz_Lk mk mz_s_mabs mz_k_mabs := by
  intro X own cc F nL mo d hs ret r call go e pc L st M K n top nc ns ⟨C, O, hnL, hR, hD, hE, hC, hG⟩ hk h
  obtain ⟨hd, hw, hw2, hw3, hw4⟩ := of_decide_eq_true hk
  have hF : mz_F F (mz_rho X) := mz_CF C
  unfold mz_s_mabs at h
  obtain ⟨x, l, rfl, hp⟩ := mz_p1_ok h
  have h := hp
  obtain ⟨a0, h⟩ := mz_ift h
  obtain ⟨a1, a2, b, h, a3⟩ := mz_lt_ok hF h
  have e1 : mz_i (mz_rho X) 1 = nI 0 := (mz_nw (ρ := mz_rho X) 0).2
  rw [e1] at a3
  rcases mz_if h with ⟨hb, h⟩ | ⟨hb, h⟩
  · obtain ⟨b1, w, h, b3, b4⟩ := mz_oneg_ok (ρ := mz_rho X) h
    obtain ⟨g1, g2, g3⟩ := hG _ _ _ _ _ _ _ _ _ h
    exact ⟨g1, g2, mz_mabsG C hd (mz_wi_ok hw) hw2 hw3 hw4 a1 b3 (by rw [mz_absI a3, if_pos hb, b4]) (mz_l4_ok a0) ⟨by omega, by omega, Nat.le_trans g1 hR.1, Nat.le_trans g2 hR.2⟩ g3⟩
  · obtain ⟨g1, g2, g3⟩ := hG _ _ _ _ _ _ _ _ _ h
    exact ⟨g1, g2, mz_mabsG C hd (mz_wi_ok hw) hw2 hw3 hw4 a1 a1 (by rw [mz_absI a3, if_neg (by rw [hb]; decide)]) (mz_l4_ok a0) ⟨by omega, by omega, Nat.le_trans g1 hR.1, Nat.le_trans g2 hR.2⟩ g3⟩
noncomputable def mz_s_ret (F : Nat → Nat × Nat) (nL mo : Nat) (hs : List mz_Hr) (call : mz_Ca) (go : mz_Go) (e pc L : Nat) (st : List Nat) (M K n top nc ns : Nat) : Option mz_Rt :=
  List.rec (motive := fun _ => Option mz_Rt) (some (0, none, M, K, n, top, nc, ns)) (fun _ _ _ => none) st
noncomputable def mz_k_ret (own mn : String) (cc : ByteArray) (mo : Nat) (ret : Option FieldType) (e pc : Nat) : Bool := decide (decode cc pc = .ok (.return_, 1) ∧ mo ≤ 1 ∧ ret = none)
theorem mz_t_ret (mk : mz_Mk) : mz_Lk mk mz_s_ret mz_k_ret := by
  intro X own cc F nL mo d hs ret r call go e pc L st M K n top nc ns ⟨C, O, hnL, hR, hD, hE, hC, hG⟩ hk h
  obtain ⟨hd, hm, hr⟩ := of_decide_eq_true hk
  have hmx : ∃ tb M0 K0 top0, mz_MX X ret tb (mz_hh hs) M0 K0 top0 r := by
    obtain h0 | h0 : mo = 0 ∨ mo = 1 := by omega
    · exact ⟨false, hE.1 h0⟩
    · exact ⟨true, (hE.2.1 h0).1⟩
  obtain ⟨tb, M0, K0, top0, E⟩ := hmx
  unfold mz_s_ret at h
  cases st with
  | cons w l => cases h
  | nil =>
    cases h
    exact ⟨Nat.le_refl _, Nat.le_refl _, mz_vret C E hd hr⟩
noncomputable def mz_s_iret_int (F : Nat → Nat × Nat) (nL mo : Nat) (hs : List mz_Hr) (call : mz_Ca) (go : mz_Go) (e pc L : Nat) (st : List Nat) (M K n top nc ns : Nat) : Option mz_Rt :=
  mz_p1 st fun w l => (mz_ci (mz_I w) ((mz_ci (mz_rfit .int w) (List.rec (motive := fun _ => Option mz_Rt) (some (0, some w, M, K, n, top, nc, ns)) (fun _ _ _ => none) l) (none))) (none))
noncomputable def mz_k_iret_int (own mn : String) (cc : ByteArray) (mo : Nat) (ret : Option FieldType) (e pc : Nat) : Bool := decide (decode cc pc = .ok (.ireturn, 1) ∧ mo ≤ 1 ∧ ret = some .int)
theorem mz_t_iret_int (mk : mz_Mk) : mz_Lk mk mz_s_iret_int mz_k_iret_int := by
  intro X own cc F nL mo d hs ret r call go e pc L st M K n top nc ns ⟨C, O, hnL, hR, hD, hE, hC, hG⟩ hk h
  obtain ⟨hd, hm, hr⟩ := of_decide_eq_true hk
  have hmx : ∃ tb M0 K0 top0, mz_MX X ret tb (mz_hh hs) M0 K0 top0 r := by
    obtain h0 | h0 : mo = 0 ∨ mo = 1 := by omega
    · exact ⟨false, hE.1 h0⟩
    · exact ⟨true, (hE.2.1 h0).1⟩
  obtain ⟨tb, M0, K0, top0, E⟩ := hmx
  unfold mz_s_iret_int at h
  obtain ⟨w, l, rfl, hp⟩ := mz_p1_ok h
  have h := hp
  obtain ⟨a1, h⟩ := mz_ift h
  obtain ⟨a2, h⟩ := mz_ift h
  cases l with
  | cons v l => cases h
  | nil =>
    cases h
    exact ⟨Nat.le_refl _, Nat.le_refl _, mz_iret C E hd hr a1 a2⟩
noncomputable def mz_s_iret_bool (F : Nat → Nat × Nat) (nL mo : Nat) (hs : List mz_Hr) (call : mz_Ca) (go : mz_Go) (e pc L : Nat) (st : List Nat) (M K n top nc ns : Nat) : Option mz_Rt :=
  mz_p1 st fun w l => (mz_ci (mz_I w) ((mz_ci (mz_rfit .boolean w) (List.rec (motive := fun _ => Option mz_Rt) (some (0, some w, M, K, n, top, nc, ns)) (fun _ _ _ => none) l) (none))) (none))
noncomputable def mz_k_iret_bool (own mn : String) (cc : ByteArray) (mo : Nat) (ret : Option FieldType) (e pc : Nat) : Bool := decide (decode cc pc = .ok (.ireturn, 1) ∧ mo ≤ 1 ∧ ret = some .boolean)
theorem mz_t_iret_bool (mk : mz_Mk) : mz_Lk mk mz_s_iret_bool mz_k_iret_bool := by
  intro X own cc F nL mo d hs ret r call go e pc L st M K n top nc ns ⟨C, O, hnL, hR, hD, hE, hC, hG⟩ hk h
  obtain ⟨hd, hm, hr⟩ := of_decide_eq_true hk
  have hmx : ∃ tb M0 K0 top0, mz_MX X ret tb (mz_hh hs) M0 K0 top0 r := by
    obtain h0 | h0 : mo = 0 ∨ mo = 1 := by omega
    · exact ⟨false, hE.1 h0⟩
    · exact ⟨true, (hE.2.1 h0).1⟩
  obtain ⟨tb, M0, K0, top0, E⟩ := hmx
  unfold mz_s_iret_bool at h
  obtain ⟨w, l, rfl, hp⟩ := mz_p1_ok h
  have h := hp
  obtain ⟨a1, h⟩ := mz_ift h
  obtain ⟨a2, h⟩ := mz_ift h
  cases l with
  | cons v l => cases h
  | nil =>
    cases h
    exact ⟨Nat.le_refl _, Nat.le_refl _, mz_iret C E hd hr a1 a2⟩
noncomputable def mz_s_iret_char (F : Nat → Nat × Nat) (nL mo : Nat) (hs : List mz_Hr) (call : mz_Ca) (go : mz_Go) (e pc L : Nat) (st : List Nat) (M K n top nc ns : Nat) : Option mz_Rt :=
  mz_p1 st fun w l => (mz_ci (mz_I w) ((mz_ci (mz_rfit .char w) (List.rec (motive := fun _ => Option mz_Rt) (some (0, some w, M, K, n, top, nc, ns)) (fun _ _ _ => none) l) (none))) (none))
noncomputable def mz_k_iret_char (own mn : String) (cc : ByteArray) (mo : Nat) (ret : Option FieldType) (e pc : Nat) : Bool := decide (decode cc pc = .ok (.ireturn, 1) ∧ mo ≤ 1 ∧ ret = some .char)
theorem mz_t_iret_char (mk : mz_Mk) : mz_Lk mk mz_s_iret_char mz_k_iret_char := by
  intro X own cc F nL mo d hs ret r call go e pc L st M K n top nc ns ⟨C, O, hnL, hR, hD, hE, hC, hG⟩ hk h
  obtain ⟨hd, hm, hr⟩ := of_decide_eq_true hk
  have hmx : ∃ tb M0 K0 top0, mz_MX X ret tb (mz_hh hs) M0 K0 top0 r := by
    obtain h0 | h0 : mo = 0 ∨ mo = 1 := by omega
    · exact ⟨false, hE.1 h0⟩
    · exact ⟨true, (hE.2.1 h0).1⟩
  obtain ⟨tb, M0, K0, top0, E⟩ := hmx
  unfold mz_s_iret_char at h
  obtain ⟨w, l, rfl, hp⟩ := mz_p1_ok h
  have h := hp
  obtain ⟨a1, h⟩ := mz_ift h
  obtain ⟨a2, h⟩ := mz_ift h
  cases l with
  | cons v l => cases h
  | nil =>
    cases h
    exact ⟨Nat.le_refl _, Nat.le_refl _, mz_iret C E hd hr a1 a2⟩
noncomputable def mz_s_iret_byte (F : Nat → Nat × Nat) (nL mo : Nat) (hs : List mz_Hr) (call : mz_Ca) (go : mz_Go) (e pc L : Nat) (st : List Nat) (M K n top nc ns : Nat) : Option mz_Rt :=
  mz_p1 st fun w l => (mz_ci (mz_I w) ((mz_ci (mz_rfit .byte w) (List.rec (motive := fun _ => Option mz_Rt) (some (0, some w, M, K, n, top, nc, ns)) (fun _ _ _ => none) l) (none))) (none))
noncomputable def mz_k_iret_byte (own mn : String) (cc : ByteArray) (mo : Nat) (ret : Option FieldType) (e pc : Nat) : Bool := decide (decode cc pc = .ok (.ireturn, 1) ∧ mo ≤ 1 ∧ ret = some .byte)
theorem mz_t_iret_byte (mk : mz_Mk) : mz_Lk mk mz_s_iret_byte mz_k_iret_byte := by
  intro X own cc F nL mo d hs ret r call go e pc L st M K n top nc ns ⟨C, O, hnL, hR, hD, hE, hC, hG⟩ hk h
  obtain ⟨hd, hm, hr⟩ := of_decide_eq_true hk
  have hmx : ∃ tb M0 K0 top0, mz_MX X ret tb (mz_hh hs) M0 K0 top0 r := by
    obtain h0 | h0 : mo = 0 ∨ mo = 1 := by omega
    · exact ⟨false, hE.1 h0⟩
    · exact ⟨true, (hE.2.1 h0).1⟩
  obtain ⟨tb, M0, K0, top0, E⟩ := hmx
  unfold mz_s_iret_byte at h
  obtain ⟨w, l, rfl, hp⟩ := mz_p1_ok h
  have h := hp
  obtain ⟨a1, h⟩ := mz_ift h
  obtain ⟨a2, h⟩ := mz_ift h
  cases l with
  | cons v l => cases h
  | nil =>
    cases h
    exact ⟨Nat.le_refl _, Nat.le_refl _, mz_iret C E hd hr a1 a2⟩
noncomputable def mz_s_iret_law (F : Nat → Nat × Nat) (nL mo : Nat) (hs : List mz_Hr) (call : mz_Ca) (go : mz_Go) (e pc L : Nat) (st : List Nat) (M K n top nc ns : Nat) : Option mz_Rt :=
  mz_p1 st fun w l => (mz_ci (mz_I w) (List.rec (motive := fun _ => Option mz_Rt) (some (0, some w, M, K, n, top, nc, ns)) (fun _ _ _ => none) l) (none))
noncomputable def mz_k_iret_law (own mn : String) (cc : ByteArray) (mo : Nat) (ret : Option FieldType) (e pc : Nat) : Bool := decide (decode cc pc = .ok (.ireturn, 1) ∧ 2 ≤ mo)
theorem mz_t_iret_law (mk : mz_Mk) : mz_Lk mk mz_s_iret_law mz_k_iret_law := by
  intro X own cc F nL mo d hs ret r call go e pc L st M K n top nc ns ⟨C, O, hnL, hR, hD, hE, hC, hG⟩ hk h
  obtain ⟨hd, hm⟩ := of_decide_eq_true hk
  have E := hE.2.2 (mo - 2) (by omega)
  unfold mz_s_iret_law at h
  obtain ⟨w, l, rfl, hp⟩ := mz_p1_ok h
  have h := hp
  obtain ⟨a1, h⟩ := mz_ift h
  cases l with
  | cons v l => cases h
  | nil =>
    cases h
    exact ⟨Nat.le_refl _, Nat.le_refl _, (mz_LXr E hd rfl a1)⟩
noncomputable def mz_s_lret (F : Nat → Nat × Nat) (nL mo : Nat) (hs : List mz_Hr) (call : mz_Ca) (go : mz_Go) (e pc L : Nat) (st : List Nat) (M K n top nc ns : Nat) : Option mz_Rt :=
  mz_p1 st fun w l => (mz_ci (mz_L w) (List.rec (motive := fun _ => Option mz_Rt) (some (0, some w, M, K, n, top, nc, ns)) (fun _ _ _ => none) l) (none))
noncomputable def mz_k_lret (own mn : String) (cc : ByteArray) (mo : Nat) (ret : Option FieldType) (e pc : Nat) : Bool := decide (decode cc pc = .ok (.lreturn, 1) ∧ mo ≤ 1 ∧ ret = some .long)
theorem mz_t_lret (mk : mz_Mk) : mz_Lk mk mz_s_lret mz_k_lret := by
  intro X own cc F nL mo d hs ret r call go e pc L st M K n top nc ns ⟨C, O, hnL, hR, hD, hE, hC, hG⟩ hk h
  obtain ⟨hd, hm, hr⟩ := of_decide_eq_true hk
  have hmx : ∃ tb M0 K0 top0, mz_MX X ret tb (mz_hh hs) M0 K0 top0 r := by
    obtain h0 | h0 : mo = 0 ∨ mo = 1 := by omega
    · exact ⟨false, hE.1 h0⟩
    · exact ⟨true, (hE.2.1 h0).1⟩
  obtain ⟨tb, M0, K0, top0, E⟩ := hmx
  unfold mz_s_lret at h
  obtain ⟨w, l, rfl, hp⟩ := mz_p1_ok h
  have h := hp
  obtain ⟨a1, h⟩ := mz_ift h
  cases l with
  | cons v l => cases h
  | nil =>
    cases h
    exact ⟨Nat.le_refl _, Nat.le_refl _, mz_lret C E hd hr a1⟩
