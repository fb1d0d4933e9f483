/-! THE STEPS, 5 -/
noncomputable def mz_s_fret (F : Nat → Nat × Nat) (nL mo : Nat) (hs : List mz_Hr) (call : mz_Ca) (go : mz_Go) (e pc L : Nat) (st : List Nat) (M K n top nc ns : Nat) : Option mz_Rt :=
  mz_p1 st fun w l => (mz_ci (Nat.beq w 7) (List.rec (motive := fun _ => Option mz_Rt) (some (0, some 7, M, K, n, top, nc, ns)) (fun _ _ _ => none) l) (none))
noncomputable def mz_k_fret (own mn : String) (cc : ByteArray) (mo : Nat) (ret : Option FieldType) (e pc : Nat) : Bool := decide (decode cc pc = .ok (.freturn, 1) ∧ mo ≤ 1 ∧ ret = some .float)
theorem mz_t_fret (mk : mz_Mk) : mz_Lk mk mz_s_fret mz_k_fret := by
  intro X own cc F nL mo d hs ret r call go e pc L st M K n top nc ns ⟨C, O, hnL, hR, hD, hE, hC, hG⟩ hk h
  obtain ⟨hd, hm, hr⟩ := of_decide_eq_true hk
  have hmx : ∃ tb M0 K0 top0, mz_MX X ret tb (mz_hh hs) M0 K0 top0 r := by
    obtain h0 | h0 : mo = 0 ∨ mo = 1 := by omega
    · exact ⟨false, hE.1 h0⟩
    · exact ⟨true, (hE.2.1 h0).1⟩
  obtain ⟨tb, M0, K0, top0, E⟩ := hmx
  unfold mz_s_fret at h
  obtain ⟨w, l, rfl, hp⟩ := mz_p1_ok h
  have h := hp
  obtain ⟨a1, h⟩ := mz_ift h
  have a1 := mz_bq a1
  cases l with
  | cons v l => cases h
  | nil =>
    cases h
    exact ⟨Nat.le_refl _, Nat.le_refl _, (by subst a1; exact mz_fret C E hd hr)⟩
noncomputable def mz_s_dret (F : Nat → Nat × Nat) (nL mo : Nat) (hs : List mz_Hr) (call : mz_Ca) (go : mz_Go) (e pc L : Nat) (st : List Nat) (M K n top nc ns : Nat) : Option mz_Rt :=
  mz_p1 st fun w l => (mz_ci (Nat.beq w 8) (List.rec (motive := fun _ => Option mz_Rt) (some (0, some 8, M, K, n, top, nc, ns)) (fun _ _ _ => none) l) (none))
noncomputable def mz_k_dret (own mn : String) (cc : ByteArray) (mo : Nat) (ret : Option FieldType) (e pc : Nat) : Bool := decide (decode cc pc = .ok (.dreturn, 1) ∧ mo ≤ 1 ∧ ret = some .double)
theorem mz_t_dret (mk : mz_Mk) : mz_Lk mk mz_s_dret mz_k_dret := by
  intro X own cc F nL mo d hs ret r call go e pc L st M K n top nc ns ⟨C, O, hnL, hR, hD, hE, hC, hG⟩ hk h
  obtain ⟨hd, hm, hr⟩ := of_decide_eq_true hk
  have hmx : ∃ tb M0 K0 top0, mz_MX X ret tb (mz_hh hs) M0 K0 top0 r := by
    obtain h0 | h0 : mo = 0 ∨ mo = 1 := by omega
    · exact ⟨false, hE.1 h0⟩
    · exact ⟨true, (hE.2.1 h0).1⟩
  obtain ⟨tb, M0, K0, top0, E⟩ := hmx
  unfold mz_s_dret at h
  obtain ⟨w, l, rfl, hp⟩ := mz_p1_ok h
  have h := hp
  obtain ⟨a1, h⟩ := mz_ift h
  have a1 := mz_bq a1
  cases l with
  | cons v l => cases h
  | nil =>
    cases h
    exact ⟨Nat.le_refl _, Nat.le_refl _, (by subst a1; exact mz_dret C E hd hr)⟩
noncomputable def mz_s_aret (F : Nat → Nat × Nat) (nL mo : Nat) (hs : List mz_Hr) (call : mz_Ca) (go : mz_Go) (e pc L : Nat) (st : List Nat) (M K n top nc ns : Nat) : Option mz_Rt :=
  mz_p1 st fun w l => (mz_ci (mz_R w) (List.rec (motive := fun _ => Option mz_Rt) (some (0, some w, M, K, n, top, nc, ns)) (fun _ _ _ => none) l) (none))
noncomputable def mz_k_aret (own mn : String) (cc : ByteArray) (mo : Nat) (ret : Option FieldType) (e pc : Nat) : Bool := ret.elim false fun ty => decide (decode cc pc = .ok (.areturn, 1) ∧ mo ≤ 1 ∧ mz_oty ty = true)
theorem mz_t_aret (mk : mz_Mk) : mz_Lk mk mz_s_aret mz_k_aret := by
  intro X own cc F nL mo d hs ret r call go e pc L st M K n top nc ns ⟨C, O, hnL, hR, hD, hE, hC, hG⟩ hk h
  obtain ⟨ty, hr, hk⟩ := mz_elim hk
  obtain ⟨hd, hm, ho⟩ := of_decide_eq_true hk
  have hmx : ∃ tb M0 K0 top0, mz_MX X ret tb (mz_hh hs) M0 K0 top0 r := by
    obtain h0 | h0 : mo = 0 ∨ mo = 1 := by omega
    · exact ⟨false, hE.1 h0⟩
    · exact ⟨true, (hE.2.1 h0).1⟩
  obtain ⟨tb, M0, K0, top0, E⟩ := hmx
  unfold mz_s_aret at h
  obtain ⟨w, l, rfl, hp⟩ := mz_p1_ok h
  have h := hp
  obtain ⟨a1, h⟩ := mz_ift h
  cases l with
  | cons v l => cases h
  | nil =>
    cases h
    exact ⟨Nat.le_refl _, Nat.le_refl _, mz_aret C E hd hr a1 ho⟩
noncomputable def mz_s_tsw (F : Nat → Nat × Nat) (nL mo : Nat) (hs : List mz_Hr) (call : mz_Ca) (go : mz_Go) (e pc L : Nat) (st : List Nat) (M K n top nc ns : Nat) : Option mz_Rt :=
  mz_p1 st fun x l => (mz_ci (mz_sm x) (go (mz_pk mz_sw.2 mz_sw.1 (mz_q x)) L l M K n top nc ns) (none))
noncomputable def mz_k_tsw (own mn : String) (cc : ByteArray) (mo : Nat) (ret : Option FieldType) (e pc : Nat) : Bool := decide (decode cc pc = .ok (.tableswitch ((mz_sw.1 : Int) - (pc : Int)) 0 ((mz_sw.2.length : Int) - 1) (mz_sw.2.map fun t => Int.ofNat t - (pc : Int)).toArray, mz_ex e))
theorem mz_t_tsw (mk : mz_Mk) : mz_Lk mk mz_s_tsw mz_k_tsw := by
  intro X own cc F nL mo d hs ret r call go e pc L st M K n top nc ns ⟨C, O, hnL, hR, hD, hE, hC, hG⟩ hk h
  have hd := of_decide_eq_true hk
  unfold mz_s_tsw at h
  obtain ⟨x, l, rfl, hp⟩ := mz_p1_ok h
  have h := hp
  obtain ⟨a1, h⟩ := mz_ift h
  obtain ⟨g1, g2, g3⟩ := hG _ _ _ _ _ _ _ _ _ h
  refine ⟨g1, g2, ?_⟩
  obtain ⟨b1, b2, b3⟩ := mz_sm_n (ρ := mz_rho X) a1
  have b4 : (mz_i (mz_rho X) x).toInt = (mz_q x : Int) := mz_toInt b2 b3
  by_cases hq : mz_q x < mz_sw.2.length
  · have g := mz_pk_in mz_sw.2 mz_sw.1 (mz_q x) hq
    exact mz_switchIn (off := ((mz_pk mz_sw.2 mz_sw.1 (mz_q x) : Nat) : Int) - (pc : Int)) C hd b1 (by rw [b4]; omega) (by rw [b4]; omega) (by
      rw [b4, show ((mz_q x : Int) - 0).toNat = mz_q x by omega, List.getElem?_toArray, List.getElem?_map, g]; rfl) (by omega) g3
  · rw [mz_pk_out _ _ _ (Nat.le_of_not_lt hq)] at g3
    exact mz_switchOut C hd b1 (Or.inr (by rw [b4]; omega)) (by omega) g3
