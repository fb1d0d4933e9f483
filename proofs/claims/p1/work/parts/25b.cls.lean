/-! THE CLASSES: their words are in the tables, their fields' kinds, no two fields of one name -/
theorem mz_inG {L : List Jvm.Cond} (h : ∀ w ∈ L, w ∈ lw_tbl ∧ goodWord w = true) : ∀ w ∈ L, w ∈ mz_gG := fun w hw => List.mem_filter.mpr (h w hw)
theorem mz_cw0 : ∀ w ∈ u_ws RJ0 TJ0 2, w ∈ lw_tbl ∧ goodWord w = true := by decide +kernel
theorem mz_cw1 : ∀ w ∈ u_ws RJ6 TJ6 1, w ∈ lw_tbl ∧ goodWord w = true := by decide +kernel
theorem mz_cw2 : ∀ w ∈ u_ws RJx00060 TJx00060 6, w ∈ lw_tbl ∧ goodWord w = true := by decide +kernel
theorem mz_cw3 : ∀ w ∈ u_ws RJx35411 TJx35411 4, w ∈ lw_tbl ∧ goodWord w = true := by decide +kernel
theorem mz_cw4 : ∀ w ∈ u_ws RJx4a65c TJx4a65c 3, w ∈ lw_tbl ∧ goodWord w = true := by decide +kernel
theorem mz_cw5 : ∀ w ∈ u_ws RX0 TX0 4, w ∈ lw_tbl ∧ goodWord w = true := by decide +kernel
theorem mz_cw6 : ∀ w ∈ u_ws RX2 TX2 10, w ∈ lw_tbl ∧ goodWord w = true := by decide +kernel
theorem mz_cw7 : ∀ w ∈ u_ws RX3 TX3 11, w ∈ lw_tbl ∧ goodWord w = true := by decide +kernel
theorem mz_cw8 : ∀ w ∈ u_ws RX4 TX4 3, w ∈ lw_tbl ∧ goodWord w = true := by decide +kernel
theorem mz_cw9 : ∀ w ∈ u_ws RX5 TX5 3, w ∈ lw_tbl ∧ goodWord w = true := by decide +kernel
theorem mz_cw10 : ∀ w ∈ u_ws RX6 TX6 2, w ∈ lw_tbl ∧ goodWord w = true := by decide +kernel
theorem mz_cw11 : ∀ w ∈ u_ws RX7 TX7 15, w ∈ lw_tbl ∧ goodWord w = true := by decide +kernel
theorem mz_cw12 : ∀ w ∈ u_ws RX9 TX9 14, w ∈ lw_tbl ∧ goodWord w = true := by decide +kernel
theorem mz_cw13 : ∀ w ∈ u_ws RX11 TX11 1, w ∈ lw_tbl ∧ goodWord w = true := by decide +kernel
theorem mz_cw14 : ∀ w ∈ u_ws RX12 TX12 3, w ∈ lw_tbl ∧ goodWord w = true := by decide +kernel
theorem mz_cw15 : ∀ w ∈ u_ws RX13 TX13 8, w ∈ lw_tbl ∧ goodWord w = true := by decide +kernel
theorem mz_cw16 : ∀ w ∈ u_ws RX14 TX14 8, w ∈ lw_tbl ∧ goodWord w = true := by decide +kernel
theorem mz_cw17 : ∀ w ∈ u_ws RX15 TX15 19, w ∈ lw_tbl ∧ goodWord w = true := by decide +kernel
noncomputable def mz_cls : List (Nat → FieldType) := [tyJ0, tyJ6, tyJx00060, tyJx35411, tyJx4a65c, tyX0, tyX2, tyX3, tyX4, tyX5, tyX6, tyX7, tyX9, tyX11, tyX12, tyX13, tyX14, tyX15]
noncomputable def mz_tyc (ci : Nat) : Nat → FieldType := mz_cls.getD ci fun _ => .int
theorem mz_clf : ∀ (ci : Nat) (q : vw_C), vwCl[ci]? = some q → (∀ w ∈ u_ws q.1 q.2.1 q.2.2, w ∈ mz_gG) ∧ (∀ k, k < q.2.2 → parseFieldDescriptor (q.2.1 k).2.2.1 = some (mz_tyc ci k)) ∧ ∀ a, a < q.2.2 → ∀ b, b < q.2.2 → a ≠ b → (q.2.1 a).2.1 ≠ (q.2.1 b).2.1
  | 0, q, h => by cases h; exact ⟨mz_inG mz_cw0, tyJ0_ok, nmJ0⟩
  | 1, q, h => by cases h; exact ⟨mz_inG mz_cw1, tyJ6_ok, nmJ6⟩
  | 2, q, h => by cases h; exact ⟨mz_inG mz_cw2, tyJx00060_ok, nmJx00060⟩
  | 3, q, h => by cases h; exact ⟨mz_inG mz_cw3, tyJx35411_ok, nmJx35411⟩
  | 4, q, h => by cases h; exact ⟨mz_inG mz_cw4, tyJx4a65c_ok, nmJx4a65c⟩
  | 5, q, h => by cases h; exact ⟨mz_inG mz_cw5, tyX0_ok, nmX0⟩
  | 6, q, h => by cases h; exact ⟨mz_inG mz_cw6, tyX2_ok, nmX2⟩
  | 7, q, h => by cases h; exact ⟨mz_inG mz_cw7, tyX3_ok, nmX3⟩
  | 8, q, h => by cases h; exact ⟨mz_inG mz_cw8, tyX4_ok, nmX4⟩
  | 9, q, h => by cases h; exact ⟨mz_inG mz_cw9, tyX5_ok, nmX5⟩
  | 10, q, h => by cases h; exact ⟨mz_inG mz_cw10, tyX6_ok, nmX6⟩
  | 11, q, h => by cases h; exact ⟨mz_inG mz_cw11, tyX7_ok, nmX7⟩
  | 12, q, h => by cases h; exact ⟨mz_inG mz_cw12, tyX9_ok, nmX9⟩
  | 13, q, h => by cases h; exact ⟨mz_inG mz_cw13, tyX11_ok, nmX11⟩
  | 14, q, h => by cases h; exact ⟨mz_inG mz_cw14, tyX12_ok, nmX12⟩
  | 15, q, h => by cases h; exact ⟨mz_inG mz_cw15, tyX13_ok, nmX13⟩
  | 16, q, h => by cases h; exact ⟨mz_inG mz_cw16, tyX14_ok, nmX14⟩
  | 17, q, h => by cases h; exact ⟨mz_inG mz_cw17, tyX15_ok, nmX15⟩
  | k + 18, q, h => by
    rw [List.getElem?_eq_none (by simp [vwCl])] at h
    cases h
noncomputable def mz_dlt : Nat → Nat × List Nat := (mz_nd 8 (mz_nd 3 (mz_nd 1 (mz_nd 0 (mz_lf (2, [2, 1])) (mz_lf (1, [1]))) (mz_nd 2 (mz_lf (6, [2, 2, 2, 2, 1, 2])) (mz_lf (4, [1, 1, 1, 2])))) (mz_nd 5 (mz_nd 4 (mz_lf (3, [1, 2, 1])) (mz_lf (4, [2, 2, 2, 1]))) (mz_nd 6 (mz_lf (10, [1, 1, 1, 2, 1, 1, 1, 1, 1, 1])) (mz_nd 7 (mz_lf (11, [1, 1, 1, 1, 2, 2, 1, 2, 2, 1, 1])) (mz_lf (3, [2, 2, 1])))))) (mz_nd 12 (mz_nd 10 (mz_nd 9 (mz_lf (3, [1, 1, 1])) (mz_lf (2, [2, 1]))) (mz_nd 11 (mz_lf (15, [1, 2, 1, 1, 1, 2, 1, 2, 1, 1, 1, 1, 1, 1, 1])) (mz_lf (14, [2, 2, 2, 2, 2, 2, 1, 1, 1, 1, 1, 1, 1, 1])))) (mz_nd 14 (mz_nd 13 (mz_lf (1, [2])) (mz_lf (3, [1, 1, 1]))) (mz_nd 15 (mz_lf (8, [1, 1, 1, 1, 1, 1, 1, 1])) (mz_nd 16 (mz_lf (8, [1, 1, 1, 1, 1, 1, 1, 2])) (mz_lf (19, [1, 2, 2, 2, 2, 2, 2, 1, 1, 1, 1, 1, 2, 2, 2, 2, 1, 1, 1])))))))
theorem mz_dlt_ok : ∀ (ci : Nat) (q : vw_C), vwCl[ci]? = some q → mz_dlt ci = (q.2.2, (List.range q.2.2).map fun j => mz_dw (mz_tyc ci j))
  | 0, q, h => by cases h; decide +kernel
  | 1, q, h => by cases h; decide +kernel
  | 2, q, h => by cases h; decide +kernel
  | 3, q, h => by cases h; decide +kernel
  | 4, q, h => by cases h; decide +kernel
  | 5, q, h => by cases h; decide +kernel
  | 6, q, h => by cases h; decide +kernel
  | 7, q, h => by cases h; decide +kernel
  | 8, q, h => by cases h; decide +kernel
  | 9, q, h => by cases h; decide +kernel
  | 10, q, h => by cases h; decide +kernel
  | 11, q, h => by cases h; decide +kernel
  | 12, q, h => by cases h; decide +kernel
  | 13, q, h => by cases h; decide +kernel
  | 14, q, h => by cases h; decide +kernel
  | 15, q, h => by cases h; decide +kernel
  | 16, q, h => by cases h; decide +kernel
  | 17, q, h => by cases h; decide +kernel
  | k + 18, q, h => by
    rw [List.getElem?_eq_none (by simp [vwCl])] at h
    cases h
/-- the law's switch: where it goes else, and by number -/
noncomputable def mz_sw : Nat × List Nat := (2189, [208, 276, 332, 409, 465, 521, 598, 656, 712, 768, 824, 880, 943, 1011, 1079, 1135, 1215, 1295, 1351, 1407, 1463, 1519, 1575, 1631, 1687, 1743, 1799, 1855, 1911, 1924, 1992, 2005, 2018, 2031, 2045, 2111, 2176])
/-- an object of the class ci goes into an array of the kind t -/
noncomputable def mz_acl (t ci : Nat) : Bool := (mz_ci (Nat.beq t 8) (Nat.ble (Nat.succ ci) 18) ((mz_ci (Nat.beq t 7) (Nat.beq ci 6) ((mz_ci (Nat.beq t 6) (Nat.beq ci 7) ((mz_ci (Nat.beq t 5) (Nat.beq ci 11) (false))))))))
theorem mz_acl_ok : ∀ (t ci : Nat), mz_acl t ci = true → ∃ r : vw_C, vwCl[ci]? = some r ∧ (mz_ty.getD t .int = .object r.1 ∨ (mz_ty.getD t .int = .object "java/lang/Object" ∧ Jvm.Cond.castable r.1 "java/lang/Object" ∈ lw_tbl)) := fun t ci h => by
  unfold mz_acl at h
  rcases mz_ifB h with ⟨h1, h⟩ | ⟨-, h⟩
  · rw [mz_bq h1]
    have h2 := mz_bl h
    have q : ∀ i : Fin 18, ∃ r : vw_C, vwCl[i.val]? = some r ∧ Jvm.Cond.castable r.1 "java/lang/Object" ∈ lw_tbl := fun i => by
      match i with
      | ⟨0, _⟩ => exact ⟨_, rfl, by decide +kernel⟩
      | ⟨1, _⟩ => exact ⟨_, rfl, by decide +kernel⟩
      | ⟨2, _⟩ => exact ⟨_, rfl, by decide +kernel⟩
      | ⟨3, _⟩ => exact ⟨_, rfl, by decide +kernel⟩
      | ⟨4, _⟩ => exact ⟨_, rfl, by decide +kernel⟩
      | ⟨5, _⟩ => exact ⟨_, rfl, by decide +kernel⟩
      | ⟨6, _⟩ => exact ⟨_, rfl, by decide +kernel⟩
      | ⟨7, _⟩ => exact ⟨_, rfl, by decide +kernel⟩
      | ⟨8, _⟩ => exact ⟨_, rfl, by decide +kernel⟩
      | ⟨9, _⟩ => exact ⟨_, rfl, by decide +kernel⟩
      | ⟨10, _⟩ => exact ⟨_, rfl, by decide +kernel⟩
      | ⟨11, _⟩ => exact ⟨_, rfl, by decide +kernel⟩
      | ⟨12, _⟩ => exact ⟨_, rfl, by decide +kernel⟩
      | ⟨13, _⟩ => exact ⟨_, rfl, by decide +kernel⟩
      | ⟨14, _⟩ => exact ⟨_, rfl, by decide +kernel⟩
      | ⟨15, _⟩ => exact ⟨_, rfl, by decide +kernel⟩
      | ⟨16, _⟩ => exact ⟨_, rfl, by decide +kernel⟩
      | ⟨17, _⟩ => exact ⟨_, rfl, by decide +kernel⟩
      | ⟨k + 18, hk⟩ => exact absurd hk (by omega)
    obtain ⟨r, a1, a2⟩ := q ⟨ci, h2⟩
    exact ⟨r, a1, Or.inr ⟨rfl, a2⟩⟩
  rcases mz_ifB h with ⟨h1, h⟩ | ⟨-, h⟩
  · rw [mz_bq h1, mz_bq h]
    exact ⟨_, rfl, Or.inl rfl⟩
  rcases mz_ifB h with ⟨h1, h⟩ | ⟨-, h⟩
  · rw [mz_bq h1, mz_bq h]
    exact ⟨_, rfl, Or.inl rfl⟩
  rcases mz_ifB h with ⟨h1, h⟩ | ⟨-, h⟩
  · rw [mz_bq h1, mz_bq h]
    exact ⟨_, rfl, Or.inl rfl⟩
  cases h
noncomputable def mz_aok (n K v t : Nat) : Bool := (mz_ci (mz_R v) ((mz_ci (Nat.beq (mz_q v) 0) (true) ((mz_ci (mz_ref n v) (mz_acl t (mz_ct K (mz_k v))) (false))))) (false))
theorem mz_acl_lt {t ci : Nat} (h : mz_acl t ci = true) : ci < 64 := by
  obtain ⟨r, h1, -⟩ := mz_acl_ok t ci h
  exact Nat.lt_of_lt_of_le (List.getElem?_eq_some_iff.mp h1).1 (by decide)
theorem mz_aok_ok {X : mz_Xt} (O : mz_OX X) {n K v t : Nat} (h : mz_aok n K v t = true) : (mz_R v = true ∧ mz_q v = 0) ∨ (mz_ref n v = true ∧ ∃ (ci : Nat) (r : vw_C), mz_ct K (mz_k v) = ci ∧ ci < 64 ∧ vwCl[ci]? = some r ∧ (mz_ty.getD t .int = .object r.1 ∨ ∃ E : String, mz_ty.getD t .int = .object E ∧ mz_bf X (Jvm.Cond.castable r.1 E))) := by
  obtain ⟨h1, h⟩ := mz_bft h
  rcases mz_ifB h with ⟨h2, -⟩ | ⟨-, h⟩
  · exact Or.inl ⟨h1, mz_bq h2⟩
  · obtain ⟨h2, h⟩ := mz_bft h
    obtain ⟨r, g1, g2⟩ := mz_acl_ok _ _ h
    refine Or.inr ⟨h2, _, r, rfl, mz_acl_lt h, g1, ?_⟩
    rcases g2 with g2 | ⟨g2, g3⟩
    · exact Or.inl g2
    · exact Or.inr ⟨_, g2, mz_bfn O g3 rfl⟩
theorem mz_toInt {z : Int32} {k : Nat} (h : ¬ z < 0) (h2 : z.toNatClampNeg = k) : z.toInt = (k : Int) := by
  have hz0 : (0 : Int) ≤ z.toInt := by
    have := Int32.not_lt.mp h
    simpa using Int32.le_iff_toInt_le.mp this
  subst h2
  show z.toInt = ((z.toInt.toNat : Nat) : Int)
  omega
theorem mz_LXr {X : mz_Xt} {cc : ByteArray} {r : mz_Rt} {Ls pc L M K n top nc ns w : Nat} (E : mz_LX X cc r Ls) (hd : decode cc pc = .ok (.ireturn, 1)) (hr : r = (0, some w, M, K, n, top, nc, ns)) (hw : mz_I w = true) : mz_G X pc L [w] M K n top nc ns := by
  obtain ⟨p, l, e, R, s, m, args, below, meth, c, nL, D, cA, ao, ρ, A, n0, ad0, Q⟩ := X
  exact E.2 _ _ _ _ _ _ _ _ _ hd hr hw
noncomputable def mz_nix : Nat := 13
noncomputable def mz_nsx : ByteArray := prog_50_method_4_code
theorem mz_nsx0 : decode mz_nsx 0 = .ok (.aload_n 0, 1) := by decide +kernel
theorem mz_nsx1 : decode mz_nsx 1 = .ok (.aload_n 1, 1) := by decide +kernel
theorem mz_nsx2 : decode mz_nsx 2 = .ok (.invokespecial mz_nix, 3) := by decide +kernel
theorem mz_nsx5 : decode mz_nsx 5 = .ok (.return_, 1) := by decide +kernel
