/-! THE CELLS: a table of them (tag, length, where the words begin), their words in the memory; the world that they mean -/
noncomputable def mz_ct (K k : Nat) : Nat := Nat.mod (mz_g K k) 256
noncomputable def mz_cn (K k : Nat) : Nat := Nat.mod (Nat.div (mz_g K k) 256) 65536
noncomputable def mz_cb (K k : Nat) : Nat := Nat.div (mz_g K k) 16777216
/-- the kinds of arrays: of the tag 64 and more -/
noncomputable def mz_ty : List FieldType := [.int, .long, .char, .boolean, .double, .object "Hundredward$Plot", .object "Hundredward$Household", .object "Hundredward$Firm", .object "java/lang/Object"]
noncomputable def mz_tys (cA : Nat → ClassId) : List (ClassId × FieldType) := (List.range 9).map fun t => (cA t, mz_ty.getD t .int)
theorem mz_tys_at {cA : Nat → ClassId} {t : Nat} (h : t < 9) : (mz_tys cA)[t]? = some (cA t, mz_ty.getD t .int) := by
  unfold mz_tys
  rw [List.getElem?_map, List.getElem?_range h]; rfl
noncomputable def mz_toI : Value → Int32
  | .int x => x
  | _ => 0
noncomputable def mz_toL : Value → Int64
  | .long x => x
  | _ => 0
noncomputable def mz_toD : Value → UInt64
  | .double x => x
  | _ => 0
noncomputable def mz_toR : Value → Option Nat
  | .ref x => some x
  | _ => none
noncomputable def mz_pic (t n : Nat) (f : Nat → Value) : (Nat → Int32) ⊕ (Nat → Int64) ⊕ (Nat → UInt32) ⊕ (Nat → UInt64) ⊕ (Nat → Option Nat) :=
  if t = 1 then .inr (.inl fun j => if j < n then mz_toL (f j) else 0) else if t = 4 then .inr (.inr (.inr (.inl fun j => if j < n then mz_toD (f j) else 0)))
  else if t < 5 then .inl fun j => if j < n then mz_toI (f j) else 0 else .inr (.inr (.inr (.inr fun j => if j < n then mz_toR (f j) else none)))
theorem mz_pic_congr {t n : Nat} {f g : Nat → Value} (h : ∀ j, j < n → f j = g j) : mz_pic t n f = mz_pic t n g := by
  have e : ∀ {β : Type} (u : Value → β) (d : β), (fun j => if j < n then u (f j) else d) = (fun j => if j < n then u (g j) else d) := fun u d => by
    funext j
    by_cases hj : j < n
    · rw [if_pos hj, if_pos hj, h j hj]
    · rw [if_neg hj, if_neg hj]
  unfold mz_pic
  rw [e, e, e, e]
noncomputable def mz_e (cA : Nat → ClassId) (t n : Nat) (f : Nat → Value) : va_E := if t < 64 then .inr (t, (List.range n).map f) else .inl (cA (t - 64), n, mz_pic (t - 64) n f)
theorem mz_e_congr {cA : Nat → ClassId} {t n : Nat} {f g : Nat → Value} (h : ∀ j, j < n → f j = g j) : mz_e cA t n f = mz_e cA t n g := by
  unfold mz_e
  rw [mz_pic_congr h, List.map_congr_left fun j hj => h j (List.mem_range.mp hj)]
noncomputable def mz_E (cA : Nat → ClassId) (ad ao : Nat → Nat) (ρ : Nat → Int32) (M K k : Nat) : va_E := mz_e cA (mz_ct K k) (mz_cn K k) fun j => mz_c ad ao ρ (mz_g M (mz_cb K k + j))
noncomputable def mz_w (cA : Nat → ClassId) (ad ao : Nat → Nat) (ρ : Nat → Int32) (M K n : Nat) : va_W := (List.range n).map fun k => (ad k, mz_E cA ad ao ρ M K k)
/-- the cells lie apart in the memory, all below top -/
noncomputable def mz_K (n K top : Nat) : Prop := (∀ i j, i < j → j < n → mz_cb K i + mz_cn K i ≤ mz_cb K j) ∧ ∀ i, i < n → mz_cb K i + mz_cn K i ≤ top
section MZW
variable {cA : Nat → ClassId} {ad ad' ao : Nat → Nat} {ρ : Nat → Int32} {M K n top : Nat}
theorem mz_w_at {k : Nat} (h : k < n) : (mz_w cA ad ao ρ M K n)[k]? = some (ad k, mz_E cA ad ao ρ M K k) := by
  unfold mz_w
  rw [List.getElem?_map, List.getElem?_range h]; rfl
theorem mz_w_len : (mz_w cA ad ao ρ M K n).length = n := by unfold mz_w; simp
theorem mz_apart (h : mz_K n K top) {i k j q : Nat} (hi : i < n) (hk : k < n) (hne : i ≠ k) (hj : j < mz_cn K i) (hq : q < mz_cn K k) : mz_cb K i + j ≠ mz_cb K k + q := by
  rcases Nat.lt_or_gt_of_ne hne with z | z
  · have := h.1 i k z hk; omega
  · have := h.1 k i z hi; omega
theorem mz_E_other (h : mz_K n K top) {i k j v : Nat} (hi : i < n) (hk : k < n) (hne : i ≠ k) (hj : j < mz_cn K k) (hv : v < mz_B) : mz_E cA ad ao ρ (mz_p M (mz_cb K k + j) v) K i = mz_E cA ad ao ρ M K i := by
  refine mz_e_congr fun q hq => ?_
  rw [mz_gp hv, if_neg (mz_apart h hi hk hne hq hj)]
theorem mz_w_set (h : mz_K n K top) {k j v : Nat} {e : va_E} (hk : k < n) (hj : j < mz_cn K k) (hv : v < mz_B) (he : e = mz_E cA ad ao ρ (mz_p M (mz_cb K k + j) v) K k) :
    (mz_w cA ad ao ρ M K n).set k (ad k, e) = mz_w cA ad ao ρ (mz_p M (mz_cb K k + j) v) K n := by
  subst he
  refine List.ext_getElem? fun i => ?_
  rw [List.getElem?_set]
  by_cases hik : k = i
  · subst hik
    rw [if_pos rfl, if_pos (by rw [mz_w_len]; exact hk), mz_w_at hk]
  · rw [if_neg hik]
    by_cases hi : i < n
    · rw [mz_w_at hi, mz_w_at hi, mz_E_other h hi hk (Ne.symm hik) hj hv]
    · rw [List.getElem?_eq_none (by rw [mz_w_len]; omega), List.getElem?_eq_none (by rw [mz_w_len]; omega)]
/-- no reference to a cell that isn't there -/
noncomputable def mz_cl (n w : Nat) : Bool := (mz_ci (Nat.beq (Nat.mod w 16) 2) ((mz_ci (Nat.ble (Nat.div w 16) n) (true) (Nat.ble 1048577 (Nat.div w 16)))) (true))
theorem mz_cl_of {n w : Nat} (h : w % 16 = 2 → w / 16 ≤ n ∨ 1048577 ≤ w / 16) : mz_cl n w = true := by
  unfold mz_cl
  cases h1 : Nat.beq (Nat.mod w 16) 2 with
  | false => rfl
  | true =>
    show ((mz_ci (Nat.ble (Nat.div w 16) n) (true) (Nat.ble 1048577 (Nat.div w 16)))) = true
    rcases h (mz_bq h1) with q | q
    · rw [show Nat.ble (Nat.div w 16) n = true from Nat.ble_eq_true_of_le q]; rfl
    · rw [show Nat.ble 1048577 (Nat.div w 16) = true from Nat.ble_eq_true_of_le q]
      cases Nat.ble (Nat.div w 16) n <;> rfl
theorem mz_cl_or {n w : Nat} (h : mz_cl n w = true) (h2 : w % 16 = 2) : w / 16 ≤ n ∨ 1048577 ≤ w / 16 := by
  unfold mz_cl at h
  rw [show Nat.mod w 16 = 2 from h2] at h
  cases h1 : Nat.ble (Nat.div w 16) n with
  | true => exact Or.inl (mz_bl h1)
  | false =>
    rw [h1] at h
    exact Or.inr (mz_bl h)
theorem mz_cl_mono {n n' w : Nat} (hn : n ≤ n') (h : mz_cl n w = true) : mz_cl n' w = true := mz_cl_of fun h2 => (mz_cl_or h h2).imp (fun q => Nat.le_trans q hn) id
theorem mz_cl_I {n w : Nat} (h : mz_I w = true) : mz_cl n w = true := mz_cl_of fun h2 => by
  rcases mz_I_or h with q | q | q | q <;> omega
theorem mz_cl_L {n w : Nat} (h : mz_L w = true) : mz_cl n w = true := mz_cl_of fun h2 => by
  rcases mz_L_or h with q | q <;> omega
theorem mz_cl_t {n w : Nat} (h : w % 16 ≠ 2) : mz_cl n w = true := mz_cl_of fun h2 => absurd h2 h
theorem mz_c_ad {n w : Nat} (h : mz_cl n w = true) (ha : ∀ k, k < n → ad' k = ad k) : mz_c ad' ao ρ w = mz_c ad ao ρ w := by
  by_cases h2 : w % 16 = 2
  · have e1 : mz_c ad' ao ρ w = mz_r ad' ao (w / 16) := by simp [mz_c, h2]
    have e2 : mz_c ad ao ρ w = mz_r ad ao (w / 16) := by simp [mz_c, h2]
    rw [e1, e2]
    unfold mz_r
    by_cases q0 : w / 16 = 0
    · rw [if_pos q0, if_pos q0]
    · rw [if_neg q0, if_neg q0]
      by_cases q1 : w / 16 ≤ 1048576
      · rw [if_pos q1, if_pos q1]
        rcases mz_cl_or h h2 with q | q
        · rw [ha _ (by omega)]
        · omega
      · rw [if_neg q1, if_neg q1]
  · simp [mz_c, h2]
theorem mz_E_ad (hC : ∀ i, mz_cl n (mz_g M i) = true) (ha : ∀ k, k < n → ad' k = ad k) (k : Nat) : mz_E cA ad' ao ρ M K k = mz_E cA ad ao ρ M K k :=
  mz_e_congr fun _ _ => mz_c_ad (hC _) ha
theorem mz_w_ad (hC : ∀ i, mz_cl n (mz_g M i) = true) (ha : ∀ k, k < n → ad' k = ad k) : mz_w cA ad' ao ρ M K n = mz_w cA ad ao ρ M K n := by
  unfold mz_w
  refine List.map_congr_left fun k hk => ?_
  rw [ha k (List.mem_range.mp hk), mz_E_ad hC ha]
theorem mz_st_ad {st : List Nat} (hC : ∀ w ∈ st, mz_cl n w = true) (ha : ∀ k, k < n → ad' k = ad k) : st.map (mz_c ad' ao ρ) = st.map (mz_c ad ao ρ) :=
  List.map_congr_left fun w hw => mz_c_ad (hC w hw) ha
theorem mz_gp_cl {n i v j : Nat} (hv : v < mz_B) (hc : mz_cl n v = true) (hC : ∀ i, mz_cl n (mz_g M i) = true) : mz_cl n (mz_g (mz_p M i v) j) = true := by
  rw [mz_gp hv]
  by_cases q : j = i
  · rw [if_pos q]; exact hc
  · rw [if_neg q]; exact hC j
end MZW
