/-! THE SMALL MACHINE. Its memory is one number, 48 bits a word; the lowest word counts the writings, so that no two memories are alike. -/
/-- a choice, by the recursor itself -/
noncomputable def mz_ci {α : Type} (c : Bool) (a b : α) : α := Bool.rec (motive := fun _ => α) b a c
noncomputable def mz_f {α : Type} (n : Nat) (k : Nat → α) : α := Nat.rec (motive := fun _ => α) (k 0) (fun m _ => k m) (Nat.add n 1)
theorem mz_f_eq {α : Type} (n : Nat) (k : Nat → α) : mz_f n k = k n := rfl
def mz_B : Nat := 281474976710656
theorem mz_B2 : mz_B = 2 ^ 48 := by decide
/-- the word i -/
def mz_g (M i : Nat) : Nat := Nat.mod (Nat.shiftRight M (Nat.mul 48 (Nat.succ i))) 281474976710656
/-- the word i written -/
def mz_p (M i v : Nat) : Nat :=
  Nat.add (Nat.shiftLeft (Nat.add (Nat.sub (Nat.shiftRight M 48) (Nat.shiftLeft (mz_g M i) (Nat.mul 48 i))) (Nat.shiftLeft v (Nat.mul 48 i))) 48) (Nat.mod (Nat.succ M) 281474976710656)
def mz_d (H i : Nat) : Nat := H / mz_B ^ i % mz_B
theorem mz_Bp : 0 < mz_B := by decide
theorem mz_g_eq (M i : Nat) : mz_g M i = mz_d (M / mz_B) i := by
  show (M >>> (48 * (i + 1))) % 281474976710656 = M / mz_B / mz_B ^ i % mz_B
  rw [Nat.shiftRight_eq_div_pow, Nat.div_div_eq_div_mul, Nat.pow_mul, ← mz_B2, Nat.pow_succ, Nat.mul_comm]
  rfl
theorem mz_d_lt (H i : Nat) : mz_d H i < mz_B := Nat.mod_lt _ mz_Bp
theorem mz_d_split (H i : Nat) : ∃ a r : Nat, r < mz_B ^ i ∧ H = r + mz_B ^ i * (mz_d H i + mz_B * a) := by
  refine ⟨H / mz_B ^ i / mz_B, H % mz_B ^ i, Nat.mod_lt _ (Nat.pow_pos mz_Bp), ?_⟩
  unfold mz_d
  rw [Nat.mod_add_div, Nat.mod_add_div]
theorem mz_d_at {r a d i : Nat} (hr : r < mz_B ^ i) (hd : d < mz_B) : mz_d (r + mz_B ^ i * (d + mz_B * a)) i = d := by
  unfold mz_d
  rw [Nat.add_mul_div_left _ _ (Nat.pow_pos mz_Bp), Nat.div_eq_of_lt hr, Nat.zero_add, Nat.add_mul_mod_self_left, Nat.mod_eq_of_lt hd]
theorem mz_d_lo {r x y i j : Nat} (h : j < i) : mz_d (r + mz_B ^ i * x) j = mz_d (r + mz_B ^ i * y) j := by
  obtain ⟨k, rfl⟩ : ∃ k, i = j + 1 + k := ⟨i - (j + 1), by omega⟩
  have e : ∀ z : Nat, mz_B ^ (j + 1 + k) * z = mz_B ^ j * (mz_B * (mz_B ^ k * z)) := fun z => by
    rw [Nat.pow_add, Nat.pow_succ, Nat.mul_assoc, Nat.mul_assoc]
  unfold mz_d
  rw [e x, e y, Nat.add_mul_div_left _ _ (Nat.pow_pos mz_Bp), Nat.add_mul_div_left _ _ (Nat.pow_pos mz_Bp), Nat.add_mul_mod_self_left, Nat.add_mul_mod_self_left]
theorem mz_d_hi {r a d i j : Nat} (h : i < j) (hr : r < mz_B ^ i) (hd : d < mz_B) : mz_d (r + mz_B ^ i * (d + mz_B * a)) j = mz_d a (j - (i + 1)) := by
  obtain ⟨k, rfl⟩ : ∃ k, j = i + 1 + k := ⟨j - (i + 1), by omega⟩
  unfold mz_d
  rw [Nat.pow_add, Nat.pow_succ, ← Nat.div_div_eq_div_mul, ← Nat.div_div_eq_div_mul, Nat.add_mul_div_left _ _ (Nat.pow_pos mz_Bp), Nat.div_eq_of_lt hr, Nat.zero_add, Nat.add_mul_div_left _ _ mz_Bp, Nat.div_eq_of_lt hd, Nat.zero_add]
  rw [show i + 1 + k - (i + 1) = k by omega]
theorem mz_d_put {H i j v : Nat} (hv : v < mz_B) : mz_d (H - mz_d H i * mz_B ^ i + v * mz_B ^ i) j = if j = i then v else mz_d H j := by
  obtain ⟨a, r, hr, e⟩ := mz_d_split H i
  have e2 : H - mz_d H i * mz_B ^ i + v * mz_B ^ i = r + mz_B ^ i * (v + mz_B * a) := by
    have h1 : mz_B ^ i * (mz_d H i + mz_B * a) = mz_d H i * mz_B ^ i + mz_B ^ i * (mz_B * a) := by rw [Nat.mul_add, Nat.mul_comm (mz_B ^ i) (mz_d H i)]
    have h2 : mz_B ^ i * (v + mz_B * a) = v * mz_B ^ i + mz_B ^ i * (mz_B * a) := by rw [Nat.mul_add, Nat.mul_comm (mz_B ^ i) v]
    generalize mz_d H i * mz_B ^ i = P at *
    generalize v * mz_B ^ i = P2 at *
    generalize mz_B ^ i * (mz_B * a) = P3 at *
    omega
  rw [e2]
  by_cases hj : j = i
  · subst hj
    rw [if_pos rfl, mz_d_at hr hv]
  · rw [if_neg hj]
    rcases Nat.lt_or_gt_of_ne hj with q | q
    · rw [mz_d_lo (y := mz_d H i + mz_B * a) q, ← e]
    · rw [mz_d_hi q hr hv]
      have h3 := mz_d_hi (a := a) q hr (mz_d_lt H i)
      rw [← e] at h3
      exact h3.symm
theorem mz_gp {M i j v : Nat} (hv : v < mz_B) : mz_g (mz_p M i v) j = if j = i then v else mz_g M j := by
  have e : mz_p M i v / mz_B = M / mz_B - mz_d (M / mz_B) i * mz_B ^ i + v * mz_B ^ i := by
    show ((((M >>> 48) - ((mz_g M i) <<< (48 * i))) + (v <<< (48 * i))) <<< 48 + (M + 1) % mz_B) / mz_B = _
    rw [Nat.shiftRight_eq_div_pow, Nat.shiftLeft_eq, Nat.shiftLeft_eq, Nat.shiftLeft_eq, mz_g_eq, Nat.pow_mul, ← mz_B2, Nat.mul_comm _ mz_B, Nat.mul_add_div mz_Bp, Nat.div_eq_of_lt (Nat.mod_lt _ mz_Bp), Nat.add_zero]
  rw [mz_g_eq, e, mz_d_put hv, mz_g_eq]
theorem mz_g_lt (M i : Nat) : mz_g M i < mz_B := by rw [mz_g_eq]; exact mz_d_lt _ _
