noncomputable def mz_r (ad ao : Nat → Nat) (q : Nat) : Value := if q = 0 then .null else if q ≤ 1048576 then .ref (ad (q - 1)) else .ref (ao (q - 1048577))
/-- what a word means -/
noncomputable def mz_c (ad ao : Nat → Nat) (ρ : Nat → Int32) (w : Nat) : Value :=
  if w % 16 = 1 then .int (nI (w / 16)) else if w % 16 = 2 then mz_r ad ao (w / 16) else if w % 16 = 3 then .long (nI (w / 16)).toInt64
  else if w % 16 = 4 then .int (ρ (w / 16 % 32) + nI (w / 512)) else if w % 16 = 5 then .long (ρ (w / 16 % 32) + nI (w / 512)).toInt64
  else if w % 16 = 6 then .int (ρ (w / 16 % 32) ||| nI (w / 512)) else if w % 16 = 7 then .float 0 else if w % 16 = 8 then .double 0
  else if w % 16 = 9 then .int (nI (w / 512) - ρ (w / 16 % 32)) else .null
/-- an int's word -/
noncomputable def mz_i (ρ : Nat → Int32) (w : Nat) : Int32 :=
  if w % 16 = 1 then nI (w / 16) else if w % 16 = 4 then ρ (w / 16 % 32) + nI (w / 512) else if w % 16 = 6 then ρ (w / 16 % 32) ||| nI (w / 512) else nI (w / 512) - ρ (w / 16 % 32)
noncomputable def mz_I (w : Nat) : Bool := (mz_ci (Nat.beq (Nat.mod w 16) 1) (true) ((mz_ci (Nat.beq (Nat.mod w 16) 4) (true) ((mz_ci (Nat.beq (Nat.mod w 16) 6) (true) (Nat.beq (Nat.mod w 16) 9))))))
/-- a long's word -/
noncomputable def mz_l (ρ : Nat → Int32) (w : Nat) : Int64 := if w % 16 = 3 then (nI (w / 16)).toInt64 else (ρ (w / 16 % 32) + nI (w / 512)).toInt64
noncomputable def mz_L (w : Nat) : Bool := (mz_ci (Nat.beq (Nat.mod w 16) 3) (true) (Nat.beq (Nat.mod w 16) 5))
noncomputable def mz_R (w : Nat) : Bool := Nat.beq (Nat.mod w 16) 2
theorem mz_bq {a b : Nat} (h : Nat.beq a b = true) : a = b := Nat.eq_of_beq_eq_true h
theorem mz_bn {a b : Nat} (h : Nat.beq a b = false) : a ≠ b := Nat.ne_of_beq_eq_false h
theorem mz_bl {a b : Nat} (h : Nat.ble a b = true) : a ≤ b := Nat.le_of_ble_eq_true h
theorem mz_bg {a b : Nat} (h : Nat.ble a b = false) : b < a := by
  rcases Nat.lt_or_ge b a with q | q
  · exact q
  · rw [Nat.ble_eq_true_of_le q] at h; cases h
theorem mz_if {α : Type} {c : Bool} {a b : Option α} {r : α} (h : ((mz_ci (c) (a) (b))) = some r) : (c = true ∧ a = some r) ∨ (c = false ∧ b = some r) := by
  cases c
  · exact Or.inr ⟨rfl, h⟩
  · exact Or.inl ⟨rfl, h⟩
theorem mz_ift {α : Type} {c : Bool} {a : Option α} {r : α} (h : ((mz_ci (c) (a) (none))) = some r) : c = true ∧ a = some r := by
  cases c
  · cases h
  · exact ⟨rfl, h⟩
theorem mz_I_or {w : Nat} (h : mz_I w = true) : w % 16 = 1 ∨ w % 16 = 4 ∨ w % 16 = 6 ∨ w % 16 = 9 := by
  unfold mz_I at h
  cases h1 : Nat.beq (Nat.mod w 16) 1 with
  | true => exact Or.inl (mz_bq h1)
  | false =>
    cases h2 : Nat.beq (Nat.mod w 16) 4 with
    | true => exact Or.inr (Or.inl (mz_bq h2))
    | false =>
      cases h3 : Nat.beq (Nat.mod w 16) 6 with
      | true => exact Or.inr (Or.inr (Or.inl (mz_bq h3)))
      | false =>
        rw [h1, h2, h3] at h
        exact Or.inr (Or.inr (Or.inr (mz_bq h)))
theorem mz_I_of {w : Nat} (h : w % 16 = 1 ∨ w % 16 = 4 ∨ w % 16 = 6 ∨ w % 16 = 9) : mz_I w = true := by
  unfold mz_I
  show ((mz_ci (Nat.beq (w % 16) 1) (true) ((mz_ci (Nat.beq (w % 16) 4) (true) ((mz_ci (Nat.beq (w % 16) 6) (true) (Nat.beq (w % 16) 9))))))) = true
  rcases h with h | h | h | h <;> rw [h] <;> rfl
section MZS
variable {ad ao : Nat → Nat} {ρ : Nat → Int32}
theorem mz_cI {w : Nat} (h : mz_I w = true) : mz_c ad ao ρ w = .int (mz_i ρ w) := by
  rcases mz_I_or h with h | h | h | h <;> simp [mz_c, mz_i, h]
theorem mz_L_or {w : Nat} (h : mz_L w = true) : w % 16 = 3 ∨ w % 16 = 5 := by
  unfold mz_L at h
  cases h1 : Nat.beq (Nat.mod w 16) 3 with
  | true => exact Or.inl (mz_bq h1)
  | false => rw [h1] at h; exact Or.inr (mz_bq h)
theorem mz_cL {w : Nat} (h : mz_L w = true) : mz_c ad ao ρ w = .long (mz_l ρ w) := by
  rcases mz_L_or h with h | h <;> simp [mz_c, mz_l, h]
theorem mz_cR {w : Nat} (h : mz_R w = true) : mz_c ad ao ρ w = mz_r ad ao (w / 16) := by
  have h1 : w % 16 = 2 := mz_bq h
  simp [mz_c, h1]
theorem mz_tag (t q : Nat) (h : t < 16) : (t + 16 * q) % 16 = t ∧ (t + 16 * q) / 16 = q := by omega
theorem mz_i1 (a : Nat) : mz_I (1 + 16 * a) = true ∧ mz_i ρ (1 + 16 * a) = nI a := by
  obtain ⟨h1, h2⟩ := mz_tag 1 a (by decide)
  exact ⟨mz_I_of (Or.inl h1), by unfold mz_i; rw [if_pos h1, h2]⟩
theorem mz_pay {i o : Nat} (h : i < 32) : (i + 32 * o) % 32 = i ∧ (i + 32 * o) / 32 = o := by omega
theorem mz_div512 (w : Nat) : w / 512 = w / 16 / 32 := by omega
theorem mz_i4 {i : Nat} (h : i < 32) (o : Nat) : mz_I (4 + 16 * (i + 32 * o)) = true ∧ mz_i ρ (4 + 16 * (i + 32 * o)) = ρ i + nI o := by
  obtain ⟨h1, h2⟩ := mz_tag 4 (i + 32 * o) (by decide)
  obtain ⟨h3, h4⟩ := mz_pay (o := o) h
  exact ⟨mz_I_of (Or.inr (Or.inl h1)), by unfold mz_i; rw [if_neg (by omega), if_pos h1, mz_div512, h2, h3, h4]⟩
theorem mz_i6 {i : Nat} (h : i < 32) (o : Nat) : mz_I (6 + 16 * (i + 32 * o)) = true ∧ mz_i ρ (6 + 16 * (i + 32 * o)) = (ρ i ||| nI o) := by
  obtain ⟨h1, h2⟩ := mz_tag 6 (i + 32 * o) (by decide)
  obtain ⟨h3, h4⟩ := mz_pay (o := o) h
  exact ⟨mz_I_of (Or.inr (Or.inr (Or.inl h1))), by unfold mz_i; rw [if_neg (by omega), if_neg (by omega), if_pos h1, mz_div512, h2, h3, h4]⟩
theorem mz_i9 {i : Nat} (h : i < 32) (o : Nat) : mz_I (9 + 16 * (i + 32 * o)) = true ∧ mz_i ρ (9 + 16 * (i + 32 * o)) = nI o - ρ i := by
  obtain ⟨h1, h2⟩ := mz_tag 9 (i + 32 * o) (by decide)
  obtain ⟨h3, h4⟩ := mz_pay (o := o) h
  exact ⟨mz_I_of (Or.inr (Or.inr (Or.inr h1))), by unfold mz_i; rw [if_neg (by omega), if_neg (by omega), if_neg (by omega), mz_div512, h2, h3, h4]⟩
theorem mz_is1 {w : Nat} (h : Nat.beq (Nat.mod w 16) 1 = true) : mz_I w = true ∧ mz_i ρ w = nI (w / 16) := by
  have h1 : w % 16 = 1 := mz_bq h
  exact ⟨mz_I_of (Or.inl h1), by unfold mz_i; rw [if_pos h1]⟩
theorem mz_is4 {w : Nat} (h : Nat.beq (Nat.mod w 16) 4 = true) : mz_I w = true ∧ mz_i ρ w = ρ (w / 16 % 32) + nI (w / 512) := by
  have h1 : w % 16 = 4 := mz_bq h
  exact ⟨mz_I_of (Or.inr (Or.inl h1)), by unfold mz_i; rw [if_neg (by omega), if_pos h1]⟩
theorem mz_is9 {w : Nat} (h : Nat.beq (Nat.mod w 16) 9 = true) : mz_I w = true ∧ mz_i ρ w = nI (w / 512) - ρ (w / 16 % 32) := by
  have h1 : w % 16 = 9 := mz_bq h
  exact ⟨mz_I_of (Or.inr (Or.inr (Or.inr h1))), by unfold mz_i; rw [if_neg (by omega), if_neg (by omega), if_neg (by omega)]⟩
/-- the variables' bounds, as they are compared -/
noncomputable def mz_F (F : Nat → Nat × Nat) (ρ : Nat → Int32) : Prop := ∀ i, (F i).1 ≤ mz_b (ρ i) ∧ mz_b (ρ i) ≤ (F i).2
/-- the variables: 0 to 3 the script's ints, 4 to 7 the same as chars, 8 to 11 their six lowest bits -/
noncomputable def mz_V (ρ : Nat → Int32) : Prop := ∀ i, i < 4 → ρ (i + 4) = ((ρ i).toUInt32 % 65536).toInt32 ∧ ρ (i + 8) = (ρ i &&& nI 63)
noncomputable def mz_rg {α : Type} (F : Nat → Nat × Nat) (w : Nat) (k : Nat → Nat → Option α) : Option α :=
  (mz_ci (Nat.beq (Nat.mod w 16) 1) (mz_f (Nat.mod (Nat.add (Nat.div w 16) 2147483648) 4294967296) (fun b => k b b)) ((mz_ci (Nat.beq (Nat.mod w 16) 4) ((mz_ci (Nat.beq (Nat.div (Nat.add (F (Nat.mod (Nat.div w 16) 32)).1 (Nat.div w 512)) 4294967296) (Nat.div (Nat.add (F (Nat.mod (Nat.div w 16) 32)).2 (Nat.div w 512)) 4294967296)) (mz_f (Nat.mod (Nat.add (F (Nat.mod (Nat.div w 16) 32)).1 (Nat.div w 512)) 4294967296) (fun a => mz_f (Nat.mod (Nat.add (F (Nat.mod (Nat.div w 16) 32)).2 (Nat.div w 512)) 4294967296) (fun b => k a b))) (none))) (none))))
theorem mz_rg_ok {α : Type} {F : Nat → Nat × Nat} (hF : mz_F F ρ) {w : Nat} {k : Nat → Nat → Option α} {r : α} (h : mz_rg F w k = some r) :
    mz_I w = true ∧ ∃ a b, k a b = some r ∧ a ≤ mz_b (mz_i ρ w) ∧ mz_b (mz_i ρ w) ≤ b := by
  unfold mz_rg at h
  rcases mz_if h with ⟨h1, h⟩ | ⟨-, h⟩
  · obtain ⟨g1, g2⟩ := mz_is1 (ρ := ρ) h1
    rw [mz_f_eq] at h
    refine ⟨g1, _, _, h, ?_, ?_⟩ <;> rw [g2, mz_b_nI] <;> exact Nat.le_refl _
  · obtain ⟨h1, h⟩ := mz_ift h
    obtain ⟨h2, h⟩ := mz_ift h
    obtain ⟨g1, g2⟩ := mz_is4 (ρ := ρ) h1
    have h3 : ((F (w / 16 % 32)).1 + w / 512) / 4294967296 = ((F (w / 16 % 32)).2 + w / 512) / 4294967296 := mz_bq h2
    rw [mz_f_eq, mz_f_eq] at h
    obtain ⟨f1, f2⟩ := hF (w / 16 % 32)
    refine ⟨g1, _, _, h, ?_, ?_⟩
    · rw [g2, mz_b_add]
      show ((F (w / 16 % 32)).1 + w / 512) % 4294967296 ≤ _
      omega
    · rw [g2, mz_b_add]
      show _ ≤ ((F (w / 16 % 32)).2 + w / 512) % 4294967296
      omega
noncomputable def mz_lt {α : Type} (F : Nat → Nat × Nat) (x y : Nat) (k : Bool → Option α) : Option α :=
  mz_rg F x fun xa xb => mz_rg F y fun ya yb => (mz_ci (Nat.ble (Nat.succ xb) ya) (k true) ((mz_ci (Nat.ble yb xa) (k false) (none))))
theorem mz_lt_ok {α : Type} {F : Nat → Nat × Nat} (hF : mz_F F ρ) {x y : Nat} {k : Bool → Option α} {r : α} (h : mz_lt F x y k = some r) :
    mz_I x = true ∧ mz_I y = true ∧ ∃ b, k b = some r ∧ (b = true ↔ mz_i ρ x < mz_i ρ y) := by
  obtain ⟨g1, xa, xb, h, a1, a2⟩ := mz_rg_ok hF h
  obtain ⟨g2, ya, yb, h, b1, b2⟩ := mz_rg_ok hF h
  refine ⟨g1, g2, ?_⟩
  rcases mz_if h with ⟨h1, h⟩ | ⟨-, h⟩
  · have q : xb + 1 ≤ ya := mz_bl h1
    exact ⟨true, h, ⟨fun _ => mz_b_lt.mpr (by omega), fun _ => rfl⟩⟩
  · obtain ⟨h1, h⟩ := mz_ift h
    have q : yb ≤ xa := mz_bl h1
    exact ⟨false, h, ⟨fun z => (by cases z), fun z => absurd (mz_b_lt.mp z) (by omega)⟩⟩
noncomputable def mz_eq {α : Type} (F : Nat → Nat × Nat) (x y : Nat) (k : Bool → Option α) : Option α :=
  mz_rg F x fun xa xb => mz_rg F y fun ya yb => (mz_ci (Nat.beq x y) (k true) ((mz_ci (Nat.ble (Nat.succ xb) ya) (k false) ((mz_ci (Nat.ble (Nat.succ yb) xa) (k false) ((mz_ci (Nat.beq xa xb) ((mz_ci (Nat.beq ya yb) ((mz_ci (Nat.beq xa ya) (k true) (none))) (none))) (none))))))))
theorem mz_eq_ok {α : Type} {F : Nat → Nat × Nat} (hF : mz_F F ρ) {x y : Nat} {k : Bool → Option α} {r : α} (h : mz_eq F x y k = some r) :
    mz_I x = true ∧ mz_I y = true ∧ ∃ b, k b = some r ∧ (b = true ↔ mz_i ρ x = mz_i ρ y) := by
  obtain ⟨g1, xa, xb, h, a1, a2⟩ := mz_rg_ok hF h
  obtain ⟨g2, ya, yb, h, b1, b2⟩ := mz_rg_ok hF h
  refine ⟨g1, g2, ?_⟩
  rcases mz_if h with ⟨h1, h⟩ | ⟨-, h⟩
  · exact ⟨true, h, ⟨fun _ => by rw [mz_bq h1], fun _ => rfl⟩⟩
  · rcases mz_if h with ⟨h1, h⟩ | ⟨-, h⟩
    · have q : xb + 1 ≤ ya := mz_bl h1
      exact ⟨false, h, ⟨fun z => (by cases z), fun z => absurd (mz_b_eq.mp z) (by omega)⟩⟩
    · rcases mz_if h with ⟨h1, h⟩ | ⟨-, h⟩
      · have q : yb + 1 ≤ xa := mz_bl h1
        exact ⟨false, h, ⟨fun z => (by cases z), fun z => absurd (mz_b_eq.mp z) (by omega)⟩⟩
      · obtain ⟨h1, h⟩ := mz_ift h
        obtain ⟨h2, h⟩ := mz_ift h
        obtain ⟨h3, h⟩ := mz_ift h
        have q1 := mz_bq h1
        have q2 := mz_bq h2
        have q3 := mz_bq h3
        exact ⟨true, h, ⟨fun _ => mz_b_eq.mpr (by omega), fun _ => rfl⟩⟩
end MZS
