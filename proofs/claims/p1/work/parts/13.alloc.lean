/-! NEW CELLS -/
noncomputable def mz_fl (l : List Nat) : Nat → Nat → Nat := List.rec (motive := fun _ => Nat → Nat → Nat) (fun M _ => M) (fun w _ ih M b => mz_f (mz_p M b w) (fun M' => ih M' (Nat.succ b))) l
theorem mz_fl_cons (w : Nat) (l : List Nat) (M b : Nat) : mz_fl (w :: l) M b = mz_fl l (mz_p M b w) (b + 1) := by
  show mz_f (mz_p M b w) (fun M' => mz_fl l M' (Nat.succ b)) = _
  rw [mz_f_eq]
theorem mz_fl_g : ∀ (l : List Nat) (M b j : Nat), (∀ w ∈ l, w < mz_B) → mz_g (mz_fl l M b) j = if b ≤ j ∧ j < b + l.length then l.getD (j - b) 0 else mz_g M j := by
  intro l
  induction l with
  | nil =>
    intro M b j _
    rw [if_neg (by simp)]; rfl
  | cons w l ih =>
    intro M b j h
    obtain ⟨h1, h2⟩ := List.forall_mem_cons.mp h
    rw [mz_fl_cons, ih _ _ _ h2]
    by_cases q : b ≤ j ∧ j < b + (w :: l).length
    · rw [if_pos q]
      rw [List.length_cons] at q
      by_cases q2 : j = b
      · subst q2
        rw [if_neg (by omega), mz_gp h1, if_pos rfl, Nat.sub_self]; rfl
      · rw [if_pos (by omega), show j - b = (j - (b + 1)) + 1 by omega]; rfl
    · rw [if_neg q]
      rw [List.length_cons] at q
      rw [if_neg (by omega), mz_gp h1, if_neg (by omega)]
noncomputable def mz_ad (ad : Nat → Nat) (n q : Nat) : Nat → Nat := fun k => if k = n then q else ad k
theorem mz_ad_lt {ad : Nat → Nat} {n q : Nat} : ∀ k, k < n → mz_ad ad n q k = ad k := fun k h => by unfold mz_ad; rw [if_neg (by omega)]
theorem mz_ad_at {ad : Nat → Nat} {n q : Nat} : mz_ad ad n q n = q := by unfold mz_ad; rw [if_pos rfl]
/-- a row of the table of cells -/
noncomputable def mz_mt (tag len top : Nat) : Nat := Nat.add tag (Nat.mul 256 (Nat.add len (Nat.mul 65536 top)))
theorem mz_mt_ok {tag len top : Nat} (h1 : tag < 256) (h2 : len < 65536) : mz_mt tag len top % 256 = tag ∧ mz_mt tag len top / 256 % 65536 = len ∧ mz_mt tag len top / 16777216 = top := by
  show (tag + 256 * (len + 65536 * top)) % 256 = tag ∧ (tag + 256 * (len + 65536 * top)) / 256 % 65536 = len ∧ (tag + 256 * (len + 65536 * top)) / 16777216 = top
  omega
/-- room in the small memory for one cell more -/
noncomputable def mz_roomy (n len top : Nat) : Bool := (mz_ci (Nat.ble (Nat.succ len) 65536) ((mz_ci (Nat.ble (Nat.succ top) 16777216) (Nat.ble (Nat.succ n) 1048576) (false))) (false))
theorem mz_roomy_ok {n len top : Nat} (h : mz_roomy n len top = true) : len < 65536 ∧ top < 16777216 ∧ n < 1048576 := by
  unfold mz_roomy at h
  cases h1 : Nat.ble (Nat.succ len) 65536 with
  | false => rw [h1] at h; cases h
  | true =>
    rw [h1] at h
    cases h2 : Nat.ble (Nat.succ top) 16777216 with
    | false => rw [h2] at h; cases h
    | true =>
      rw [h2] at h
      exact ⟨mz_bl h1, mz_bl h2, mz_bl h⟩
section MZ7
variable {M K n top : Nat}
theorem mz_mt_lt {tag len : Nat} (h0 : tag < 256) (h : mz_roomy n len top = true) : mz_mt tag len top < mz_B := by
  obtain ⟨h1, h2, h3⟩ := mz_roomy_ok h
  show tag + 256 * (len + 65536 * top) < mz_B
  unfold mz_B
  omega
theorem mz_K_old {tag len k : Nat} (h0 : tag < 256) (h : mz_roomy n len top = true) (hk : k ≠ n) : mz_ct (mz_p K n (mz_mt tag len top)) k = mz_ct K k ∧ mz_cn (mz_p K n (mz_mt tag len top)) k = mz_cn K k ∧ mz_cb (mz_p K n (mz_mt tag len top)) k = mz_cb K k := by
  unfold mz_ct mz_cn mz_cb
  rw [mz_gp (mz_mt_lt h0 h), if_neg hk]
  exact ⟨rfl, rfl, rfl⟩
theorem mz_K_new {tag len : Nat} (h0 : tag < 256) (h : mz_roomy n len top = true) : mz_ct (mz_p K n (mz_mt tag len top)) n = tag ∧ mz_cn (mz_p K n (mz_mt tag len top)) n = len ∧ mz_cb (mz_p K n (mz_mt tag len top)) n = top := by
  obtain ⟨g1, g2, g3⟩ := mz_mt_ok (top := top) h0 (mz_roomy_ok h).1
  unfold mz_ct mz_cn mz_cb
  rw [mz_gp (mz_mt_lt h0 h), if_pos rfl]
  exact ⟨g1, g2, g3⟩
theorem mz_K_push {tag len : Nat} (hW : mz_K n K top) (h0 : tag < 256) (h : mz_roomy n len top = true) : mz_K (n + 1) (mz_p K n (mz_mt tag len top)) (top + len) := by
  obtain ⟨-, n2, n3⟩ := mz_K_new (K := K) h0 h
  refine ⟨fun i j hij hj => ?_, fun i hi => ?_⟩
  · obtain ⟨-, i2, i3⟩ := mz_K_old (K := K) h0 h (show i ≠ n by omega)
    rw [i2, i3]
    by_cases q : j = n
    · subst q
      rw [n3]; exact hW.2 i hij
    · obtain ⟨-, j2, j3⟩ := mz_K_old (K := K) h0 h q
      rw [j3]; exact hW.1 i j hij (by omega)
  · by_cases q : i = n
    · subst q
      rw [n2, n3]; exact Nat.le_refl _
    · obtain ⟨-, i2, i3⟩ := mz_K_old (K := K) h0 h q
      rw [i2, i3]
      have := hW.2 i (by omega)
      omega
variable {cA : Nat → ClassId} {ad ao : Nat → Nat} {ρ : Nat → Int32}
theorem mz_w_push {tag q : Nat} {l : List Nat} (hW : mz_K n K top) (h0 : tag < 256) (h : mz_roomy n l.length top = true) (hl : ∀ w ∈ l, w < mz_B) (hC : ∀ i, mz_cl n (mz_g M i) = true) :
    mz_w cA (mz_ad ad n q) ao ρ (mz_fl l M top) (mz_p K n (mz_mt tag l.length top)) (n + 1) = mz_w cA ad ao ρ M K n ++ [(q, mz_e cA tag l.length fun j => mz_c (mz_ad ad n q) ao ρ (l.getD j 0))] := by
  obtain ⟨n1, n2, n3⟩ := mz_K_new (K := K) h0 h
  have e1 : mz_w cA (mz_ad ad n q) ao ρ (mz_fl l M top) (mz_p K n (mz_mt tag l.length top)) (n + 1) = ((List.range n).map fun k => (mz_ad ad n q k, mz_E cA (mz_ad ad n q) ao ρ (mz_fl l M top) (mz_p K n (mz_mt tag l.length top)) k)) ++ [(mz_ad ad n q n, mz_E cA (mz_ad ad n q) ao ρ (mz_fl l M top) (mz_p K n (mz_mt tag l.length top)) n)] := by
    unfold mz_w
    rw [List.range_succ, List.map_append]; rfl
  rw [e1]
  congr 1
  · unfold mz_w
    refine List.map_congr_left fun k hk => ?_
    have hk := List.mem_range.mp hk
    obtain ⟨k1, k2, k3⟩ := mz_K_old (K := K) h0 h (show k ≠ n by omega)
    rw [mz_ad_lt k hk]
    congr 1
    unfold mz_E
    rw [k1, k2, k3]
    refine mz_e_congr fun j hj => ?_
    have := hW.2 k hk
    rw [mz_fl_g _ _ _ _ hl, if_neg (by omega), mz_c_ad (hC _) mz_ad_lt]
  · rw [mz_ad_at]
    congr 2
    unfold mz_E
    rw [n1, n2, n3]
    refine mz_e_congr fun j hj => ?_
    rw [mz_fl_g _ _ _ _ hl, if_pos (by omega), show top + j - top = j by omega]
theorem mz_fl_cl {l : List Nat} (hl : ∀ w ∈ l, w < mz_B) (hl2 : ∀ w ∈ l, mz_cl 0 w = true) (hC : ∀ i, mz_cl n (mz_g M i) = true) (i : Nat) : mz_cl (n + 1) (mz_g (mz_fl l M top) i) = true := by
  rw [mz_fl_g _ _ _ _ hl]
  by_cases q : top ≤ i ∧ i < top + l.length
  · rw [if_pos q]
    have h : l.getD (i - top) 0 ∈ l := by
      have hz : i - top < l.length := by omega
      rw [List.getD_eq_getElem?_getD, List.getElem?_eq_getElem hz]
      exact List.getElem_mem _
    exact mz_cl_mono (Nat.zero_le _) (hl2 _ h)
  · rw [if_neg q]
    exact mz_cl_mono (Nat.le_succ _) (hC i)
theorem mz_ls_ad {nL q : Nat} {ls : Array Slot} {L : Nat} (h : mz_ls ad ao ρ n nL ls L) : mz_ls (mz_ad ad n q) ao ρ (n + 1) nL ls L :=
  ⟨h.1, h.2.1, fun i hi => by rw [mz_c_ad (h.2.2.2 i) mz_ad_lt]; exact h.2.2.1 i hi, fun i => mz_cl_mono (Nat.le_succ _) (h.2.2.2 i)⟩
/-- the word of the new cell -/
noncomputable def mz_nr (n : Nat) : Nat := Nat.add 2 (Nat.mul 16 (Nat.succ n))
theorem mz_nr_ok {q : Nat} (hn : n < 1048576) : mz_c (mz_ad ad n q) ao ρ (mz_nr n) = .ref q ∧ mz_cl (n + 1) (mz_nr n) = true ∧ mz_R (mz_nr n) = true := by
  obtain ⟨h1, h2⟩ := mz_tag 2 (n + 1) (by decide)
  have hR : mz_R (mz_nr n) = true := by
    show Nat.beq ((2 + 16 * (n + 1)) % 16) 2 = true
    rw [h1]; rfl
  refine ⟨?_, mz_cl_of fun _ => Or.inl ?_, hR⟩
  · rw [mz_cR hR, show mz_nr n / 16 = n + 1 from h2, mz_r_new (by omega) (by omega), show n + 1 - 1 = n by omega, mz_ad_at]
  · rw [show mz_nr n / 16 = n + 1 from h2]; exact Nat.le_refl _
end MZ7
/-- a type's first word -/
noncomputable def mz_dw : FieldType → Nat
  | .long => 3
  | .float => 7
  | .double => 8
  | .object _ => 2
  | .array _ => 2
  | _ => 1
theorem mz_dw_ok (ty : FieldType) (ad ao : Nat → Nat) (ρ : Nat → Int32) : mz_c ad ao ρ (mz_dw ty) = defaultValue ty ∧ mz_dw ty < mz_B ∧ mz_cl 0 (mz_dw ty) = true := by
  have h : mz_dw ty = 1 ∨ mz_dw ty = 2 ∨ mz_dw ty = 3 ∨ mz_dw ty = 7 ∨ mz_dw ty = 8 := by cases ty <;> simp [mz_dw]
  refine ⟨?_, ?_, ?_⟩
  · cases ty <;> simp [mz_dw, mz_c, defaultValue, mz_r] <;> rfl
  · rcases h with h | h | h | h | h <;> rw [h] <;> decide
  · rcases h with h | h | h | h | h <;> rw [h] <;> decide
section MZ8
variable {X : mz_Xt} {cc : ByteArray} {own : String} {Ts : List Jvm.Cond} {F : Nat → Nat × Nat} {pc L M K n top nc ns : Nat} {st : List Nat}
/-- the room of the walk -/
noncomputable def mz_rm : mz_Xt → Room
  | (p, l, e, R, s, m, args, below, meth, c, nL, D, cA, ao, ρ, A, n0, ad0, Q) => R
theorem mz_new {ci idx N : Nat} {C0 : String} {T : u_T} {ty0 : Nat → FieldType} (C : mz_Cx X cc own Ts F) (hd : decode cc pc = .ok (.new idx, 3)) (hc : vwCl[ci]? = some (C0, T, N)) (hin : ∀ w ∈ u_ws C0 T N, w ∈ Ts) (hci : ci < 64)
    (hty : ∀ k, k < N → parseFieldDescriptor (T k).2.2.1 = some (ty0 k)) (h1 : mz_bf X (Jvm.Cond.classLink own idx C0)) (h2 : mz_bf X (Jvm.Cond.instantiable C0 N)) (h3 : mz_bf X (Jvm.Cond.initialized C0))
    (hr : mz_roomy n N top = true) (hcells : nc + 1 ≤ (mz_rm X).cells) (hslots : ns + N ≤ (mz_rm X).slots)
    (k : mz_G X (pc + 3) L (mz_nr n :: st) (mz_fl ((List.range N).map fun j => mz_dw (ty0 j)) M top) (mz_p K n (mz_mt ci N top)) (n + 1) (top + N) (nc + 1) (ns + N)) : mz_G X pc L st M K n top nc ns := by
  obtain ⟨p, l, e, R, s, m, args, below, meth, c, nL, D, cA, ao, ρ, A, n0, ad0, Q⟩ := X
  obtain ⟨hex, hb, hml, hown, hts, hK, hA, hF, hV⟩ := C
  intro ad ls H locs hn had hZ hls hst
  obtain ⟨hP, hD, hS, hW, hC⟩ := hZ
  have hnlt := (mz_roomy_ok hr).2.2
  have hl1 : ∀ w ∈ ((List.range N).map fun j => mz_dw (ty0 j)), w < mz_B := fun w hw => by
    obtain ⟨j, -, rfl⟩ := List.mem_map.mp hw
    exact (mz_dw_ok _ ad ao ρ).2.1
  have hl2 : ∀ w ∈ ((List.range N).map fun j => mz_dw (ty0 j)), mz_cl 0 w = true := fun w hw => by
    obtain ⟨j, -, rfl⟩ := List.mem_map.mp hw
    exact (mz_dw_ok _ ad ao ρ).2.2
  have hlen : ((List.range N).map fun j => mz_dw (ty0 j)).length = N := by simp
  refine va_new (fs := (List.range N).map fun j => defaultValue (ty0 j)) hex hb hts hin ty0 hty hown h1 h2 h3 hK hP hD hS hA hc (fun j hj => by unfold vp_V; rw [List.getD_eq_getElem?_getD, mz_rm_at hj]; rfl) hcells hslots hd fun q H1 hP1 hD1 hS1 => ?_
  have ew := mz_w_push (cA := cA) (ad := ad) (ao := ao) (ρ := ρ) (M := M) (K := K) (tag := ci) (q := q) (l := (List.range N).map fun j => mz_dw (ty0 j)) hW (by omega) (by rw [hlen]; exact hr) hl1 hC
  rw [hlen] at ew
  have ee : mz_e cA ci N (fun j => mz_c (mz_ad ad n q) ao ρ (((List.range N).map fun j => mz_dw (ty0 j)).getD j 0)) = .inr (ci, (List.range N).map fun j => defaultValue (ty0 j)) := by
    unfold mz_e
    rw [if_pos hci]
    congr 2
    refine List.map_congr_left fun j hj => ?_
    rw [List.getD_eq_getElem?_getD, mz_rm_at (List.mem_range.mp hj)]
    exact (mz_dw_ok _ _ ao ρ).1
  rw [ee] at ew
  rw [← ew] at hP1 hD1
  obtain ⟨r1, r2, r3⟩ := mz_nr_ok (ad := ad) (ao := ao) (ρ := ρ) (q := q) hnlt
  have z := k (mz_ad ad n q) ls H1 locs (by omega) (fun i hi => (mz_ad_lt i (by omega)).trans (had i hi)) ⟨hP1, hD1, hS1, mz_K_push hW (by omega) hr, fun i => mz_fl_cl hl1 hl2 hC i⟩ (mz_ls_ad hls) (mz_hd r2 fun w hw => mz_cl_mono (Nat.le_succ _) (hst w hw))
  rw [List.map_cons, r1, mz_st_ad hst mz_ad_lt] at z
  exact z
end MZ8
