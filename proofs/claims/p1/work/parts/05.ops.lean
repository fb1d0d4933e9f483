section MZO
variable {ad ao : Nat → Nat} {ρ : Nat → Int32} {α : Type}
/-- the word of a number -/
noncomputable def mz_n (a : Nat) : Nat := Nat.add 1 (Nat.mul 16 a)
noncomputable def mz_v (t i o : Nat) : Nat := Nat.add t (Nat.mul 16 (Nat.add i (Nat.mul 32 o)))
theorem mz_nw (a : Nat) : mz_I (mz_n a) = true ∧ mz_i ρ (mz_n a) = nI a := mz_i1 a
theorem mz_vw4 {i : Nat} (h : i < 32) (o : Nat) : mz_I (mz_v 4 i o) = true ∧ mz_i ρ (mz_v 4 i o) = ρ i + nI o := mz_i4 h o
theorem mz_vw6 {i : Nat} (h : i < 32) (o : Nat) : mz_I (mz_v 6 i o) = true ∧ mz_i ρ (mz_v 6 i o) = (ρ i ||| nI o) := mz_i6 h o
theorem mz_vw9 {i : Nat} (h : i < 32) (o : Nat) : mz_I (mz_v 9 i o) = true ∧ mz_i ρ (mz_v 9 i o) = nI o - ρ i := mz_i9 h o
/-- a variable's word; its number, where its bounds meet -/
noncomputable def mz_var (F : Nat → Nat × Nat) (i : Nat) (k : Nat → Option α) : Option α :=
  (mz_ci (Nat.beq (F i).1 (F i).2) (mz_f (mz_n (Nat.mod (Nat.add (F i).1 2147483648) 4294967296)) k) (mz_f (mz_v 4 i 0) k))
theorem mz_var_ok {F : Nat → Nat × Nat} (hF : mz_F F ρ) {i : Nat} (hi : i < 32) {k : Nat → Option α} {r : α} (h : mz_var F i k = some r) : ∃ w, k w = some r ∧ mz_I w = true ∧ mz_i ρ w = ρ i := by
  obtain ⟨f1, f2⟩ := hF i
  rcases mz_if h with ⟨h1, h⟩ | ⟨-, h⟩
  · rw [mz_f_eq] at h
    obtain ⟨g1, g2⟩ := mz_nw (ρ := ρ) (Nat.mod (Nat.add (F i).1 2147483648) 4294967296)
    have q := mz_bq h1
    have e : mz_b (ρ i) = (F i).1 := by omega
    exact ⟨_, h, g1, by rw [g2, mz_b_un (ρ i), e]; rfl⟩
  · rw [mz_f_eq] at h
    obtain ⟨g1, g2⟩ := mz_vw4 (ρ := ρ) hi 0
    exact ⟨_, h, g1, by rw [g2]; exact mz_ext (by rw [mz_add_bv]; exact Nat.mod_eq_of_lt (mz_bv_lt _))⟩
noncomputable def mz_t1 (w : Nat) : Bool := Nat.beq (Nat.mod w 16) 1
noncomputable def mz_t4 (w : Nat) : Bool := Nat.beq (Nat.mod w 16) 4
noncomputable def mz_t9 (w : Nat) : Bool := Nat.beq (Nat.mod w 16) 9
noncomputable def mz_q (w : Nat) : Nat := Nat.div w 16
noncomputable def mz_x (w : Nat) : Nat := Nat.mod (Nat.div w 16) 32
noncomputable def mz_o (w : Nat) : Nat := Nat.div w 512
theorem mz_x_lt (w : Nat) : mz_x w < 32 := Nat.mod_lt _ (by decide)
theorem mz_s1 {w : Nat} (h : mz_t1 w = true) : mz_I w = true ∧ mz_i ρ w = nI (mz_q w) := mz_is1 h
theorem mz_s4 {w : Nat} (h : mz_t4 w = true) : mz_I w = true ∧ mz_i ρ w = ρ (mz_x w) + nI (mz_o w) := mz_is4 h
theorem mz_s9 {w : Nat} (h : mz_t9 w = true) : mz_I w = true ∧ mz_i ρ w = nI (mz_o w) - ρ (mz_x w) := mz_is9 h
noncomputable def mz_oadd (x y : Nat) (k : Nat → Option α) : Option α :=
  (mz_ci (mz_t1 x) ((mz_ci (mz_t1 y) (mz_f (mz_n (Nat.mod (Nat.add (mz_q x) (mz_q y)) 4294967296)) k) ((mz_ci (mz_t4 y) (mz_f (mz_v 4 (mz_x y) (Nat.mod (Nat.add (mz_o y) (mz_q x)) 4294967296)) k) ((mz_ci (mz_t9 y) (mz_f (mz_v 9 (mz_x y) (Nat.mod (Nat.add (mz_o y) (mz_q x)) 4294967296)) k) (none))))))) ((mz_ci (mz_t1 y) ((mz_ci (mz_t4 x) (mz_f (mz_v 4 (mz_x x) (Nat.mod (Nat.add (mz_o x) (mz_q y)) 4294967296)) k) ((mz_ci (mz_t9 x) (mz_f (mz_v 9 (mz_x x) (Nat.mod (Nat.add (mz_o x) (mz_q y)) 4294967296)) k) (none))))) (none))))
theorem mz_oadd_ok {x y : Nat} {k : Nat → Option α} {r : α} (h : mz_oadd x y k = some r) : mz_I x = true ∧ mz_I y = true ∧ ∃ w, k w = some r ∧ mz_I w = true ∧ mz_i ρ w = mz_i ρ x + mz_i ρ y := by
  rcases mz_if h with ⟨h1, h⟩ | ⟨-, h⟩
  · obtain ⟨a1, a2⟩ := mz_s1 (ρ := ρ) h1
    rcases mz_if h with ⟨h2, h⟩ | ⟨-, h⟩
    · obtain ⟨b1, b2⟩ := mz_s1 (ρ := ρ) h2
      rw [mz_f_eq] at h
      obtain ⟨g1, g2⟩ := mz_nw (ρ := ρ) (Nat.mod (Nat.add (mz_q x) (mz_q y)) 4294967296)
      exact ⟨a1, b1, _, h, g1, by rw [g2, a2, b2, mz_add]; rfl⟩
    · rcases mz_if h with ⟨h2, h⟩ | ⟨-, h⟩
      · obtain ⟨b1, b2⟩ := mz_s4 (ρ := ρ) h2
        rw [mz_f_eq] at h
        obtain ⟨g1, g2⟩ := mz_vw4 (ρ := ρ) (mz_x_lt y) (Nat.mod (Nat.add (mz_o y) (mz_q x)) 4294967296)
        exact ⟨a1, b1, _, h, g1, by rw [g2, a2, b2, mz_xadd]; rfl⟩
      · obtain ⟨h2, h⟩ := mz_ift h
        obtain ⟨b1, b2⟩ := mz_s9 (ρ := ρ) h2
        rw [mz_f_eq] at h
        obtain ⟨g1, g2⟩ := mz_vw9 (ρ := ρ) (mz_x_lt y) (Nat.mod (Nat.add (mz_o y) (mz_q x)) 4294967296)
        exact ⟨a1, b1, _, h, g1, by rw [g2, a2, b2, mz_addm]; rfl⟩
  · obtain ⟨h2, h⟩ := mz_ift h
    obtain ⟨b1, b2⟩ := mz_s1 (ρ := ρ) h2
    rcases mz_if h with ⟨h1, h⟩ | ⟨-, h⟩
    · obtain ⟨a1, a2⟩ := mz_s4 (ρ := ρ) h1
      rw [mz_f_eq] at h
      obtain ⟨g1, g2⟩ := mz_vw4 (ρ := ρ) (mz_x_lt x) (Nat.mod (Nat.add (mz_o x) (mz_q y)) 4294967296)
      exact ⟨a1, b1, _, h, g1, by rw [g2, a2, b2, mz_addx]; rfl⟩
    · obtain ⟨h1, h⟩ := mz_ift h
      obtain ⟨a1, a2⟩ := mz_s9 (ρ := ρ) h1
      rw [mz_f_eq] at h
      obtain ⟨g1, g2⟩ := mz_vw9 (ρ := ρ) (mz_x_lt x) (Nat.mod (Nat.add (mz_o x) (mz_q y)) 4294967296)
      exact ⟨a1, b1, _, h, g1, by rw [g2, a2, b2, mz_maddm]; rfl⟩
noncomputable def mz_osub (x y : Nat) (k : Nat → Option α) : Option α :=
  (mz_ci (mz_t1 y) ((mz_ci (mz_t1 x) (mz_f (mz_n (Nat.mod (Nat.add (mz_q x) (Nat.sub 4294967296 (Nat.mod (mz_q y) 4294967296))) 4294967296)) k) ((mz_ci (mz_t4 x) (mz_f (mz_v 4 (mz_x x) (Nat.mod (Nat.add (mz_o x) (Nat.sub 4294967296 (Nat.mod (mz_q y) 4294967296))) 4294967296)) k) (none))))) (none))
theorem mz_osub_ok {x y : Nat} {k : Nat → Option α} {r : α} (h : mz_osub x y k = some r) : mz_I x = true ∧ mz_I y = true ∧ ∃ w, k w = some r ∧ mz_I w = true ∧ mz_i ρ w = mz_i ρ x - mz_i ρ y := by
  obtain ⟨h2, h⟩ := mz_ift h
  obtain ⟨b1, b2⟩ := mz_s1 (ρ := ρ) h2
  rcases mz_if h with ⟨h1, h⟩ | ⟨-, h⟩
  · obtain ⟨a1, a2⟩ := mz_s1 (ρ := ρ) h1
    rw [mz_f_eq] at h
    obtain ⟨g1, g2⟩ := mz_nw (ρ := ρ) (Nat.mod (Nat.add (mz_q x) (Nat.sub 4294967296 (Nat.mod (mz_q y) 4294967296))) 4294967296)
    exact ⟨a1, b1, _, h, g1, by rw [g2, a2, b2, mz_sub]; rfl⟩
  · obtain ⟨h1, h⟩ := mz_ift h
    obtain ⟨a1, a2⟩ := mz_s4 (ρ := ρ) h1
    rw [mz_f_eq] at h
    obtain ⟨g1, g2⟩ := mz_vw4 (ρ := ρ) (mz_x_lt x) (Nat.mod (Nat.add (mz_o x) (Nat.sub 4294967296 (Nat.mod (mz_q y) 4294967296))) 4294967296)
    exact ⟨a1, b1, _, h, g1, by rw [g2, a2, b2, mz_subx]; rfl⟩
noncomputable def mz_omul (x y : Nat) (k : Nat → Option α) : Option α :=
  (mz_ci (mz_t1 x) ((mz_ci (mz_t1 y) (mz_f (mz_n (Nat.mod (Nat.mul (mz_q x) (mz_q y)) 4294967296)) k) (none))) (none))
theorem mz_omul_ok {x y : Nat} {k : Nat → Option α} {r : α} (h : mz_omul x y k = some r) : mz_I x = true ∧ mz_I y = true ∧ ∃ w, k w = some r ∧ mz_I w = true ∧ mz_i ρ w = mz_i ρ x * mz_i ρ y := by
  obtain ⟨h1, h⟩ := mz_ift h
  obtain ⟨h2, h⟩ := mz_ift h
  obtain ⟨a1, a2⟩ := mz_s1 (ρ := ρ) h1
  obtain ⟨b1, b2⟩ := mz_s1 (ρ := ρ) h2
  rw [mz_f_eq] at h
  obtain ⟨g1, g2⟩ := mz_nw (ρ := ρ) (Nat.mod (Nat.mul (mz_q x) (mz_q y)) 4294967296)
  exact ⟨a1, b1, _, h, g1, by rw [g2, a2, b2, mz_mul]; rfl⟩
/-- a small number that isn't negative -/
noncomputable def mz_sm (w : Nat) : Bool := (mz_ci (mz_t1 w) (Nat.ble (Nat.succ (mz_q w)) 2147483648) (false))
theorem mz_sm_ok {w : Nat} (h : mz_sm w = true) : mz_t1 w = true ∧ mz_q w < 2147483648 := by
  unfold mz_sm at h
  cases h1 : mz_t1 w with
  | true => rw [h1] at h; exact ⟨rfl, mz_bl h⟩
  | false => rw [h1] at h; cases h
noncomputable def mz_odiv (x y : Nat) (k : Nat → Option α) : Option α :=
  (mz_ci (mz_sm x) ((mz_ci (mz_sm y) ((mz_ci (Nat.beq (mz_q y) 0) (none) (mz_f (mz_n (Nat.div (mz_q x) (mz_q y))) k))) (none))) (none))
theorem mz_odiv_ok {x y : Nat} {k : Nat → Option α} {r : α} (h : mz_odiv x y k = some r) : mz_I x = true ∧ mz_I y = true ∧ ¬ mz_i ρ y = 0 ∧ ∃ w, k w = some r ∧ mz_I w = true ∧ mz_i ρ w = mz_i ρ x / mz_i ρ y := by
  obtain ⟨h1, h⟩ := mz_ift h
  obtain ⟨h2, h⟩ := mz_ift h
  obtain ⟨h1, q1⟩ := mz_sm_ok h1
  obtain ⟨h2, q2⟩ := mz_sm_ok h2
  rcases mz_if h with ⟨-, h⟩ | ⟨h3, h⟩
  · cases h
  · have q3 := mz_bn h3
    obtain ⟨a1, a2⟩ := mz_s1 (ρ := ρ) h1
    obtain ⟨b1, b2⟩ := mz_s1 (ρ := ρ) h2
    rw [mz_f_eq] at h
    obtain ⟨g1, g2⟩ := mz_nw (ρ := ρ) (Nat.div (mz_q x) (mz_q y))
    exact ⟨a1, b1, by rw [b2]; exact nI_ne0 (by omega) q2, _, h, g1, by rw [g2, a2, b2, pk_div q1 (by omega) q2]; rfl⟩
noncomputable def mz_orem (x y : Nat) (k : Nat → Option α) : Option α :=
  (mz_ci (mz_sm x) ((mz_ci (mz_sm y) ((mz_ci (Nat.beq (mz_q y) 0) (none) (mz_f (mz_n (Nat.mod (mz_q x) (mz_q y))) k))) (none))) (none))
theorem mz_orem_ok {x y : Nat} {k : Nat → Option α} {r : α} (h : mz_orem x y k = some r) : mz_I x = true ∧ mz_I y = true ∧ ¬ mz_i ρ y = 0 ∧ ∃ w, k w = some r ∧ mz_I w = true ∧ mz_i ρ w = mz_i ρ x - mz_i ρ x / mz_i ρ y * mz_i ρ y := by
  obtain ⟨h1, h⟩ := mz_ift h
  obtain ⟨h2, h⟩ := mz_ift h
  obtain ⟨h1, q1⟩ := mz_sm_ok h1
  obtain ⟨h2, q2⟩ := mz_sm_ok h2
  rcases mz_if h with ⟨-, h⟩ | ⟨h3, h⟩
  · cases h
  · have q3 := mz_bn h3
    obtain ⟨a1, a2⟩ := mz_s1 (ρ := ρ) h1
    obtain ⟨b1, b2⟩ := mz_s1 (ρ := ρ) h2
    rw [mz_f_eq] at h
    obtain ⟨g1, g2⟩ := mz_nw (ρ := ρ) (Nat.mod (mz_q x) (mz_q y))
    exact ⟨a1, b1, by rw [b2]; exact nI_ne0 (by omega) q2, _, h, g1, by rw [g2, a2, b2, pk_rem q1 (by omega) q2]; rfl⟩
noncomputable def mz_oand (F : Nat → Nat × Nat) (x y : Nat) (k : Nat → Option α) : Option α :=
  (mz_ci (mz_t1 y) ((mz_ci (mz_t1 x) (mz_f (mz_n (Nat.land (mz_q x) (mz_q y))) k) ((mz_ci (mz_t4 x) ((mz_ci (Nat.beq (mz_o x) 0) ((mz_ci (Nat.ble (Nat.succ (mz_x x)) 4) ((mz_ci (Nat.beq (mz_q y) 63) (mz_var F (Nat.add (mz_x x) 8) k) (none))) (none))) (none))) (none))))) (none))
theorem mz_oand_ok {F : Nat → Nat × Nat} (hF : mz_F F ρ) (hV : mz_V ρ) {x y : Nat} {k : Nat → Option α} {r : α} (h : mz_oand F x y k = some r) : mz_I x = true ∧ mz_I y = true ∧ ∃ w, k w = some r ∧ mz_I w = true ∧ mz_i ρ w = (mz_i ρ x &&& mz_i ρ y) := by
  obtain ⟨h2, h⟩ := mz_ift h
  obtain ⟨b1, b2⟩ := mz_s1 (ρ := ρ) h2
  rcases mz_if h with ⟨h1, h⟩ | ⟨-, h⟩
  · obtain ⟨a1, a2⟩ := mz_s1 (ρ := ρ) h1
    rw [mz_f_eq] at h
    obtain ⟨g1, g2⟩ := mz_nw (ρ := ρ) (Nat.land (mz_q x) (mz_q y))
    exact ⟨a1, b1, _, h, g1, by rw [g2, a2, b2, mz_and]; rfl⟩
  · obtain ⟨h1, h⟩ := mz_ift h
    obtain ⟨h3, h⟩ := mz_ift h
    obtain ⟨h4, h⟩ := mz_ift h
    obtain ⟨h5, h⟩ := mz_ift h
    obtain ⟨a1, a2⟩ := mz_s4 (ρ := ρ) h1
    have q3 := mz_bq h3
    have q4 : mz_x x + 1 ≤ 4 := mz_bl h4
    have q5 := mz_bq h5
    obtain ⟨w, g0, g1, g2⟩ := mz_var_ok hF (show Nat.add (mz_x x) 8 < 32 by show mz_x x + 8 < 32; omega) h
    refine ⟨a1, b1, w, g0, g1, ?_⟩
    rw [g2, a2, b2, q3, q5]
    have e : ρ (mz_x x) + nI 0 = ρ (mz_x x) := mz_ext (by rw [mz_add_bv]; exact Nat.mod_eq_of_lt (mz_bv_lt _))
    rw [e]
    exact (hV (mz_x x) (by omega)).2
noncomputable def mz_oor (x y : Nat) (k : Nat → Option α) : Option α :=
  (mz_ci (mz_t1 x) ((mz_ci (mz_t1 y) (mz_f (mz_n (Nat.lor (mz_q x) (mz_q y))) k) ((mz_ci (mz_t4 y) ((mz_ci (Nat.beq (mz_o y) 0) (mz_f (mz_v 6 (mz_x y) (mz_q x)) k) (none))) (none))))) (none))
theorem mz_oor_ok {x y : Nat} {k : Nat → Option α} {r : α} (h : mz_oor x y k = some r) : mz_I x = true ∧ mz_I y = true ∧ ∃ w, k w = some r ∧ mz_I w = true ∧ mz_i ρ w = (mz_i ρ x ||| mz_i ρ y) := by
  obtain ⟨h1, h⟩ := mz_ift h
  obtain ⟨a1, a2⟩ := mz_s1 (ρ := ρ) h1
  rcases mz_if h with ⟨h2, h⟩ | ⟨-, h⟩
  · obtain ⟨b1, b2⟩ := mz_s1 (ρ := ρ) h2
    rw [mz_f_eq] at h
    obtain ⟨g1, g2⟩ := mz_nw (ρ := ρ) (Nat.lor (mz_q x) (mz_q y))
    exact ⟨a1, b1, _, h, g1, by rw [g2, a2, b2, mz_or]; rfl⟩
  · obtain ⟨h2, h⟩ := mz_ift h
    obtain ⟨h3, h⟩ := mz_ift h
    obtain ⟨b1, b2⟩ := mz_s4 (ρ := ρ) h2
    have q3 := mz_bq h3
    rw [mz_f_eq] at h
    obtain ⟨g1, g2⟩ := mz_vw6 (ρ := ρ) (mz_x_lt y) (mz_q x)
    refine ⟨a1, b1, _, h, g1, ?_⟩
    have e : ρ (mz_x y) + nI 0 = ρ (mz_x y) := mz_ext (by rw [mz_add_bv]; exact Nat.mod_eq_of_lt (mz_bv_lt _))
    rw [g2, a2, b2, q3, e, Int32.or_comm]
noncomputable def mz_oshl (x y : Nat) (k : Nat → Option α) : Option α :=
  (mz_ci (mz_t1 x) ((mz_ci (mz_t1 y) ((mz_ci (Nat.ble (Nat.succ (mz_q y)) 32) ((mz_ci (Nat.ble (Nat.succ (Nat.mul (mz_q x) (Nat.pow 2 (mz_q y)))) 4294967296) (mz_f (mz_n (Nat.mul (mz_q x) (Nat.pow 2 (mz_q y)))) k) (none))) (none))) (none))) (none))
theorem mz_oshl_ok {x y : Nat} {k : Nat → Option α} {r : α} (h : mz_oshl x y k = some r) : mz_I x = true ∧ mz_I y = true ∧ ∃ w, k w = some r ∧ mz_I w = true ∧ mz_i ρ w = mz_i ρ x <<< mz_i ρ y := by
  obtain ⟨h1, h⟩ := mz_ift h
  obtain ⟨h2, h⟩ := mz_ift h
  obtain ⟨h3, h⟩ := mz_ift h
  obtain ⟨h4, h⟩ := mz_ift h
  obtain ⟨a1, a2⟩ := mz_s1 (ρ := ρ) h1
  obtain ⟨b1, b2⟩ := mz_s1 (ρ := ρ) h2
  rw [mz_f_eq] at h
  obtain ⟨g1, g2⟩ := mz_nw (ρ := ρ) (Nat.mul (mz_q x) (Nat.pow 2 (mz_q y)))
  exact ⟨a1, b1, _, h, g1, by rw [g2, a2, b2, mz_shl (mz_bl h3) (mz_bl h4)]; rfl⟩
noncomputable def mz_oshr (x y : Nat) (k : Nat → Option α) : Option α :=
  (mz_ci (mz_sm x) ((mz_ci (mz_t1 y) ((mz_ci (Nat.ble (Nat.succ (mz_q y)) 32) (mz_f (mz_n (Nat.div (mz_q x) (Nat.pow 2 (mz_q y)))) k) (none))) (none))) (none))
theorem mz_oshr_ok {x y : Nat} {k : Nat → Option α} {r : α} (h : mz_oshr x y k = some r) : mz_I x = true ∧ mz_I y = true ∧ ∃ w, k w = some r ∧ mz_I w = true ∧ mz_i ρ w = mz_i ρ x >>> mz_i ρ y := by
  obtain ⟨h1, h⟩ := mz_ift h
  obtain ⟨h2, h⟩ := mz_ift h
  obtain ⟨h3, h⟩ := mz_ift h
  obtain ⟨h1, q1⟩ := mz_sm_ok h1
  obtain ⟨a1, a2⟩ := mz_s1 (ρ := ρ) h1
  obtain ⟨b1, b2⟩ := mz_s1 (ρ := ρ) h2
  rw [mz_f_eq] at h
  obtain ⟨g1, g2⟩ := mz_nw (ρ := ρ) (Nat.div (mz_q x) (Nat.pow 2 (mz_q y)))
  exact ⟨a1, b1, _, h, g1, by rw [g2, a2, b2, mz_shr (mz_bl h3) q1]; rfl⟩
noncomputable def mz_oneg (x : Nat) (k : Nat → Option α) : Option α :=
  (mz_ci (mz_t1 x) (mz_f (mz_n (Nat.mod (Nat.sub 4294967296 (Nat.mod (mz_q x) 4294967296)) 4294967296)) k) ((mz_ci (mz_t4 x) (mz_f (mz_v 9 (mz_x x) (Nat.mod (Nat.sub 4294967296 (Nat.mod (mz_o x) 4294967296)) 4294967296)) k) (none))))
theorem mz_oneg_ok {x : Nat} {k : Nat → Option α} {r : α} (h : mz_oneg x k = some r) : mz_I x = true ∧ ∃ w, k w = some r ∧ mz_I w = true ∧ mz_i ρ w = -mz_i ρ x := by
  rcases mz_if h with ⟨h1, h⟩ | ⟨-, h⟩
  · obtain ⟨a1, a2⟩ := mz_s1 (ρ := ρ) h1
    rw [mz_f_eq] at h
    obtain ⟨g1, g2⟩ := mz_nw (ρ := ρ) (Nat.mod (Nat.sub 4294967296 (Nat.mod (mz_q x) 4294967296)) 4294967296)
    exact ⟨a1, _, h, g1, by rw [g2, a2, mz_neg]; rfl⟩
  · obtain ⟨h1, h⟩ := mz_ift h
    obtain ⟨a1, a2⟩ := mz_s4 (ρ := ρ) h1
    rw [mz_f_eq] at h
    obtain ⟨g1, g2⟩ := mz_vw9 (ρ := ρ) (mz_x_lt x) (Nat.mod (Nat.sub 4294967296 (Nat.mod (mz_o x) 4294967296)) 4294967296)
    exact ⟨a1, _, h, g1, by rw [g2, a2, mz_negx]; rfl⟩
noncomputable def mz_oi2c (F : Nat → Nat × Nat) (x : Nat) (k : Nat → Option α) : Option α :=
  (mz_ci (mz_t1 x) (mz_f (mz_n (Nat.mod (mz_q x) 65536)) k) ((mz_ci (mz_t4 x) ((mz_ci (Nat.beq (mz_o x) 0) ((mz_ci (Nat.ble (Nat.succ (mz_x x)) 4) (mz_var F (Nat.add (mz_x x) 4) k) (none))) (none))) (none))))
theorem mz_oi2c_ok {F : Nat → Nat × Nat} (hF : mz_F F ρ) (hV : mz_V ρ) {x : Nat} {k : Nat → Option α} {r : α} (h : mz_oi2c F x k = some r) : mz_I x = true ∧ ∃ w, k w = some r ∧ mz_I w = true ∧ mz_i ρ w = ((mz_i ρ x).toUInt32 % 65536).toInt32 := by
  rcases mz_if h with ⟨h1, h⟩ | ⟨-, h⟩
  · obtain ⟨a1, a2⟩ := mz_s1 (ρ := ρ) h1
    rw [mz_f_eq] at h
    obtain ⟨g1, g2⟩ := mz_nw (ρ := ρ) (Nat.mod (mz_q x) 65536)
    exact ⟨a1, _, h, g1, by rw [g2, a2, mz_i2c]; rfl⟩
  · obtain ⟨h1, h⟩ := mz_ift h
    obtain ⟨h3, h⟩ := mz_ift h
    obtain ⟨h4, h⟩ := mz_ift h
    obtain ⟨a1, a2⟩ := mz_s4 (ρ := ρ) h1
    have q3 := mz_bq h3
    have q4 : mz_x x + 1 ≤ 4 := mz_bl h4
    obtain ⟨w, g0, g1, g2⟩ := mz_var_ok hF (show Nat.add (mz_x x) 4 < 32 by show mz_x x + 4 < 32; omega) h
    have e : ρ (mz_x x) + nI 0 = ρ (mz_x x) := mz_ext (by rw [mz_add_bv]; exact Nat.mod_eq_of_lt (mz_bv_lt _))
    exact ⟨a1, w, g0, g1, by rw [g2, a2, q3, e]; exact (hV (mz_x x) (by omega)).1⟩
noncomputable def mz_oi2b (F : Nat → Nat × Nat) (x : Nat) (k : Nat → Option α) : Option α :=
  mz_rg F x fun a b => (mz_ci (Nat.ble 2147483648 a) ((mz_ci (Nat.ble (Nat.succ b) 2147483776) (k x) ((mz_ci (Nat.ble 2147483776 a) ((mz_ci (Nat.ble (Nat.succ b) 2147483904) (mz_oadd x (mz_n 4294967040) k) (none))) (none))))) (none))
theorem mz_oi2b_ok {F : Nat → Nat × Nat} (hF : mz_F F ρ) {x : Nat} {k : Nat → Option α} {r : α} (h : mz_oi2b F x k = some r) : mz_I x = true ∧ ∃ w, k w = some r ∧ mz_I w = true ∧ mz_i ρ w = (mz_i ρ x).toInt8.toInt32 := by
  obtain ⟨a1, a, b, h, l1, l2⟩ := mz_rg_ok hF h
  obtain ⟨h1, h⟩ := mz_ift h
  have q1 := mz_bl h1
  rcases mz_if h with ⟨h2, h⟩ | ⟨-, h⟩
  · have q2 : b + 1 ≤ 2147483776 := mz_bl h2
    exact ⟨a1, x, h, a1, (mz_i2b (by omega) (by omega)).symm⟩
  · obtain ⟨h2, h⟩ := mz_ift h
    obtain ⟨h3, h⟩ := mz_ift h
    have q2 := mz_bl h2
    have q3 : b + 1 ≤ 2147483904 := mz_bl h3
    obtain ⟨-, -, w, g0, g1, g2⟩ := mz_oadd_ok (ρ := ρ) h
    exact ⟨a1, w, g0, g1, by rw [g2, (mz_nw (ρ := ρ) 4294967040).2, mz_i2bh (by omega) (by omega)]⟩
noncomputable def mz_oi2l (x : Nat) (k : Nat → Option α) : Option α :=
  (mz_ci (mz_t1 x) (mz_f (Nat.add x 2) k) ((mz_ci (mz_t4 x) (mz_f (Nat.add x 1) k) (none))))
theorem mz_oi2l_ok {x : Nat} {k : Nat → Option α} {r : α} (h : mz_oi2l x k = some r) : mz_I x = true ∧ ∃ w, k w = some r ∧ mz_L w = true ∧ mz_l ρ w = (mz_i ρ x).toInt64 := by
  rcases mz_if h with ⟨h1, h⟩ | ⟨-, h⟩
  · obtain ⟨a1, a2⟩ := mz_s1 (ρ := ρ) h1
    have q1 : x % 16 = 1 := mz_bq h1
    rw [mz_f_eq] at h
    have e1 : (x + 2) % 16 = 3 := by omega
    have e2 : (x + 2) / 16 = x / 16 := by omega
    refine ⟨a1, x + 2, h, ?_, ?_⟩
    · unfold mz_L; rw [show Nat.beq (Nat.mod (x + 2) 16) 3 = true by rw [show Nat.mod (x + 2) 16 = 3 from e1]; rfl]; rfl
    · rw [a2]; unfold mz_l; rw [if_pos e1, e2]; rfl
  · obtain ⟨h1, h⟩ := mz_ift h
    obtain ⟨a1, a2⟩ := mz_s4 (ρ := ρ) h1
    have q1 : x % 16 = 4 := mz_bq h1
    rw [mz_f_eq] at h
    have e1 : (x + 1) % 16 = 5 := by omega
    have e2 : (x + 1) / 16 = x / 16 := by omega
    have e3 : (x + 1) / 512 = x / 512 := by omega
    refine ⟨a1, x + 1, h, ?_, ?_⟩
    · unfold mz_L; rw [show Nat.mod (x + 1) 16 = 5 from e1]; rfl
    · rw [a2]; unfold mz_l; rw [if_neg (by omega), e2, e3]; rfl
/-- longs that are small numbers -/
noncomputable def mz_oladd (x y : Nat) (k : Nat → Option α) : Option α :=
  (mz_ci (Nat.beq (Nat.mod x 16) 3) ((mz_ci (Nat.beq (Nat.mod y 16) 3) ((mz_ci (Nat.ble (mz_q x) 1000000000) ((mz_ci (Nat.ble (mz_q y) 1000000000) (mz_f (Nat.add 3 (Nat.mul 16 (Nat.add (mz_q x) (mz_q y)))) k) (none))) (none))) (none))) (none))
theorem mz_oladd_ok {x y : Nat} {k : Nat → Option α} {r : α} (h : mz_oladd x y k = some r) : mz_L x = true ∧ mz_L y = true ∧ ∃ w, k w = some r ∧ mz_L w = true ∧ mz_l ρ w = mz_l ρ x + mz_l ρ y := by
  obtain ⟨h1, h⟩ := mz_ift h
  obtain ⟨h2, h⟩ := mz_ift h
  obtain ⟨h3, h⟩ := mz_ift h
  obtain ⟨h4, h⟩ := mz_ift h
  have q1 : x % 16 = 3 := mz_bq h1
  have q2 : y % 16 = 3 := mz_bq h2
  have q3 : x / 16 ≤ 1000000000 := mz_bl h3
  have q4 : y / 16 ≤ 1000000000 := mz_bl h4
  rw [mz_f_eq] at h
  have L3 : ∀ z : Nat, z % 16 = 3 → mz_L z = true := fun z hz => by unfold mz_L; rw [show Nat.mod z 16 = 3 from hz]; rfl
  obtain ⟨e1, e2⟩ := mz_tag 3 (x / 16 + y / 16) (by decide)
  refine ⟨L3 x q1, L3 y q2, 3 + 16 * (x / 16 + y / 16), h, L3 _ e1, ?_⟩
  unfold mz_l
  rw [if_pos e1, if_pos q1, if_pos q2, e2, nI_l (by omega), nI_l (by omega), nI_l (by omega), lN_add]
end MZO
