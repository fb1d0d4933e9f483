section MZ6
variable {X : mz_Xt} {cc : ByteArray} {own : String} {Ts : List Jvm.Cond} {F : Nat → Nat × Nat} {pc L M K n top nc ns : Nat} {st : List Nat}
theorem mz_E_arr {cA : Nat → ClassId} {ad ao : Nat → Nat} {ρ : Nat → Int32} {k t : Nat} (ht : mz_ct K k = 64 + t) : mz_E cA ad ao ρ M K k = .inl (cA t, mz_cn K k, mz_pic t (mz_cn K k) fun j => mz_c ad ao ρ (mz_g M (mz_cb K k + j))) := by
  unfold mz_E mz_e
  rw [ht, if_neg (by omega), show 64 + t - 64 = t by omega]
theorem mz_pic_i {t N : Nat} {f : Nat → Value} (h : t = 0 ∨ t = 2 ∨ t = 3) : mz_pic t N f = .inl fun j => if j < N then mz_toI (f j) else 0 := by
  unfold mz_pic
  rw [if_neg (by omega), if_neg (by omega), if_pos (by omega)]
theorem mz_pic_l {N : Nat} {f : Nat → Value} : mz_pic 1 N f = .inr (.inl fun j => if j < N then mz_toL (f j) else 0) := rfl
theorem mz_pic_q {t N : Nat} {f : Nat → Value} (h : 5 ≤ t) : mz_pic t N f = .inr (.inr (.inr (.inr fun j => if j < N then mz_toR (f j) else none))) := by
  unfold mz_pic
  rw [if_neg (by omega), if_neg (by omega), if_neg (by omega)]
/-- a small index -/
theorem mz_ix {ρ : Nat → Int32} {i N : Nat} (hi : mz_sm i = true) (hN : mz_q i < N) : mz_I i = true ∧ vp_in (mz_i ρ i) N ∧ (mz_i ρ i).toNatClampNeg = mz_q i := by
  obtain ⟨h1, h2⟩ := mz_sm_ok hi
  obtain ⟨g1, g2⟩ := mz_s1 (ρ := ρ) h1
  refine ⟨g1, ?_, ?_⟩
  · rw [g2]
    unfold vp_in
    rintro (q | q)
    · exact nI_pos h2 q
    · rw [nI_clamp h2] at q; omega
  · rw [g2, nI_clamp h2]
theorem mz_toR_r {ad ao : Nat → Nat} (q : Nat) : mz_toR (mz_r ad ao q) = mz_ro ad ao q := by
  rw [mz_r_rf]
  cases mz_ro ad ao q <;> rfl
/-- an int, char or boolean of an array -/
theorem mz_xald {x i t : Nat} {ins : Instr} (C : mz_Cx X cc own Ts F) (hd : decode cc pc = .ok (ins, 1)) (hi2 : (ins = .iaload ∧ t = 0) ∨ (ins = .caload ∧ t = 2) ∨ (ins = .baload ∧ t = 3)) (hx : mz_ref n x = true) (ht : mz_ct K (mz_k x) = 64 + t) (hi : mz_sm i = true) (hl : mz_q i < mz_cn K (mz_k x))
    (hw : mz_I (mz_g M (mz_cb K (mz_k x) + mz_q i)) = true) (k : mz_G X (pc + 1) L (mz_g M (mz_cb K (mz_k x) + mz_q i) :: st) M K n top nc ns) : mz_G X pc L (i :: x :: st) M K n top nc ns := by
  obtain ⟨p, l, e, R, s, m, args, below, meth, c, nL, D, cA, ao, ρ, A, n0, ad0, Q⟩ := X
  obtain ⟨hex, hb, hml, hown, hts, hK, hA, hF, hV⟩ := C
  intro ad ls H locs hn had hZ hls hst
  obtain ⟨hP, hD, hS, hW, hC⟩ := hZ
  obtain ⟨e1, hk⟩ := mz_ref_c (ad := ad) (ao := ao) (ρ := ρ) hx
  obtain ⟨i1, i2, i3⟩ := mz_ix (ρ := ρ) hi hl
  have q := k ad ls H locs hn had ⟨hP, hD, hS, hW, hC⟩ hls (mz_hd (hC _) (List.forall_mem_cons.mp (List.forall_mem_cons.mp hst).2).2)
  rw [List.map_cons, mz_cI hw] at q
  rw [List.map_cons, List.map_cons, e1, mz_cI i1]
  have he := mz_w_at (cA := cA) (ad := ad) (ao := ao) (ρ := ρ) (M := M) (K := K) hk
  rw [mz_E_arr ht, mz_pic_i (by rcases hi2 with ⟨-, z⟩ | ⟨-, z⟩ | ⟨-, z⟩ <;> omega)] at he
  have ev : (fun j => if j < mz_cn K (mz_k x) then mz_toI (mz_c ad ao ρ (mz_g M (mz_cb K (mz_k x) + j))) else 0) (mz_i ρ i).toNatClampNeg = mz_i ρ (mz_g M (mz_cb K (mz_k x) + mz_q i)) := by
    rw [i3]
    show (if mz_q i < mz_cn K (mz_k x) then _ else _) = _
    rw [if_pos hl, mz_cI hw]; rfl
  rw [← ev] at q
  rcases hi2 with ⟨rfl, rfl⟩ | ⟨rfl, rfl⟩ | ⟨rfl, rfl⟩
  · exact va_iald hex hb hK hP (mz_k x) 0 he (mz_tys_at (by decide)) i2 hd q
  · exact va_cald hex hb hK hP (mz_k x) 2 he (mz_tys_at (by decide)) i2 hd q
  · exact va_zald hex hb hK hP (mz_k x) 3 he (mz_tys_at (by decide)) i2 hd q
theorem mz_lald {x i : Nat} (C : mz_Cx X cc own Ts F) (hd : decode cc pc = .ok (.laload, 1)) (hx : mz_ref n x = true) (ht : mz_ct K (mz_k x) = 64 + 1) (hi : mz_sm i = true) (hl : mz_q i < mz_cn K (mz_k x))
    (hw : mz_L (mz_g M (mz_cb K (mz_k x) + mz_q i)) = true) (k : mz_G X (pc + 1) L (mz_g M (mz_cb K (mz_k x) + mz_q i) :: st) M K n top nc ns) : mz_G X pc L (i :: x :: st) M K n top nc ns := by
  obtain ⟨p, l, e, R, s, m, args, below, meth, c, nL, D, cA, ao, ρ, A, n0, ad0, Q⟩ := X
  obtain ⟨hex, hb, hml, hown, hts, hK, hA, hF, hV⟩ := C
  intro ad ls H locs hn had hZ hls hst
  obtain ⟨hP, hD, hS, hW, hC⟩ := hZ
  obtain ⟨e1, hk⟩ := mz_ref_c (ad := ad) (ao := ao) (ρ := ρ) hx
  obtain ⟨i1, i2, i3⟩ := mz_ix (ρ := ρ) hi hl
  have q := k ad ls H locs hn had ⟨hP, hD, hS, hW, hC⟩ hls (mz_hd (hC _) (List.forall_mem_cons.mp (List.forall_mem_cons.mp hst).2).2)
  rw [List.map_cons, mz_cL hw] at q
  rw [List.map_cons, List.map_cons, e1, mz_cI i1]
  have he := mz_w_at (cA := cA) (ad := ad) (ao := ao) (ρ := ρ) (M := M) (K := K) hk
  rw [mz_E_arr ht, mz_pic_l] at he
  have ev : (fun j => if j < mz_cn K (mz_k x) then mz_toL (mz_c ad ao ρ (mz_g M (mz_cb K (mz_k x) + j))) else 0) (mz_i ρ i).toNatClampNeg = mz_l ρ (mz_g M (mz_cb K (mz_k x) + mz_q i)) := by
    rw [i3]
    show (if mz_q i < mz_cn K (mz_k x) then _ else _) = _
    rw [if_pos hl, mz_cL hw]; rfl
  rw [← ev] at q
  exact va_lald hex hb hK hP (mz_k x) 1 he (mz_tys_at (by decide)) i2 hd q
theorem mz_ty_obj {t : Nat} (h1 : 5 ≤ t) (h2 : t < 9) : ∃ C0 : String, mz_ty.getD t .int = .object C0 := by
  have h : t = 5 ∨ t = 6 ∨ t = 7 ∨ t = 8 := by omega
  rcases h with rfl | rfl | rfl | rfl <;> exact ⟨_, rfl⟩
theorem mz_aald {x i t : Nat} (C : mz_Cx X cc own Ts F) (hd : decode cc pc = .ok (.aaload, 1)) (hx : mz_ref n x = true) (ht : mz_ct K (mz_k x) = 64 + t) (h5 : 5 ≤ t) (h9 : t < 9) (hi : mz_sm i = true) (hl : mz_q i < mz_cn K (mz_k x))
    (hw : mz_R (mz_g M (mz_cb K (mz_k x) + mz_q i)) = true) (k : mz_G X (pc + 1) L (mz_g M (mz_cb K (mz_k x) + mz_q i) :: st) M K n top nc ns) : mz_G X pc L (i :: x :: st) M K n top nc ns := by
  obtain ⟨p, l, e, R, s, m, args, below, meth, c, nL, D, cA, ao, ρ, A, n0, ad0, Q⟩ := X
  obtain ⟨hex, hb, hml, hown, hts, hK, hA, hF, hV⟩ := C
  intro ad ls H locs hn had hZ hls hst
  obtain ⟨hP, hD, hS, hW, hC⟩ := hZ
  obtain ⟨e1, hk⟩ := mz_ref_c (ad := ad) (ao := ao) (ρ := ρ) hx
  obtain ⟨i1, i2, i3⟩ := mz_ix (ρ := ρ) hi hl
  have q := k ad ls H locs hn had ⟨hP, hD, hS, hW, hC⟩ hls (mz_hd (hC _) (List.forall_mem_cons.mp (List.forall_mem_cons.mp hst).2).2)
  rw [List.map_cons, mz_cRq hw, mz_r_rf] at q
  rw [List.map_cons, List.map_cons, e1, mz_cI i1]
  have he := mz_w_at (cA := cA) (ad := ad) (ao := ao) (ρ := ρ) (M := M) (K := K) hk
  rw [mz_E_arr ht, mz_pic_q h5] at he
  have ev : (fun j => if j < mz_cn K (mz_k x) then mz_toR (mz_c ad ao ρ (mz_g M (mz_cb K (mz_k x) + j))) else none) (mz_i ρ i).toNatClampNeg = mz_ro ad ao (mz_q (mz_g M (mz_cb K (mz_k x) + mz_q i))) := by
    rw [i3]
    show (if mz_q i < mz_cn K (mz_k x) then _ else _) = _
    rw [if_pos hl, mz_cRq hw, mz_toR_r]
  rw [← ev] at q
  obtain ⟨C0, hC0⟩ := mz_ty_obj h5 h9
  have htt := mz_tys_at (cA := cA) h9
  rw [hC0] at htt
  exact va_aldq hex hb hK hP (mz_k x) t he htt i2 hd q
/-! writing -/
theorem mz_up {β : Type} {u : Value → β} {d y : β} {ad ao : Nat → Nat} {ρ : Nat → Int32} {N b j v : Nat} (hj : j < N) (hv : v < mz_B) (hy : u (mz_c ad ao ρ v) = y) :
    (fun q => if q = j then y else (if q < N then u (mz_c ad ao ρ (mz_g M (b + q))) else d)) = (fun q => if q < N then u (mz_c ad ao ρ (mz_g (mz_p M (b + j) v) (b + q))) else d) := by
  funext q
  by_cases h : q = j
  · subst h
    rw [if_pos rfl, if_pos hj, mz_gp hv, if_pos rfl, hy]
  · rw [if_neg h]
    by_cases h2 : q < N
    · rw [if_pos h2, if_pos h2, mz_gp hv, if_neg (by omega)]
    · rw [if_neg h2, if_neg h2]
theorem mz_arr_set {cA : Nat → ClassId} {ad ao : Nat → Nat} {ρ : Nat → Int32} {k t j v : Nat} {z : (Nat → Int32) ⊕ (Nat → Int64) ⊕ (Nat → UInt32) ⊕ (Nat → UInt64) ⊕ (Nat → Option Nat)} (ht : mz_ct K k = 64 + t)
    (hz : z = mz_pic t (mz_cn K k) fun q => mz_c ad ao ρ (mz_g (mz_p M (mz_cb K k + j) v) (mz_cb K k + q))) : (.inl (cA t, mz_cn K k, z) : va_E) = mz_E cA ad ao ρ (mz_p M (mz_cb K k + j) v) K k := by
  rw [mz_E_arr ht, hz]
/-- what may be put into an array of ints, chars, booleans -/
noncomputable def mz_nar (t w : Nat) : Bool := (mz_ci (Nat.beq t 0) (mz_I w) ((mz_ci (Nat.beq t 2) (mz_fit .char w) ((mz_ci (Nat.beq t 3) (mz_fit .boolean w) (false))))))
theorem mz_vc : ∀ a : Fin 65536, vp_nar .char (nI a.val) = nI a.val := fun a => by
  rw [vp_nar_char]
  have h := mz_i2c a.val
  rw [Nat.mod_eq_of_lt a.isLt] at h
  exact h
theorem mz_xast {x i t v : Nat} {ins : Instr} (C : mz_Cx X cc own Ts F) (hd : decode cc pc = .ok (ins, 1)) (hi2 : (ins = .iastore ∧ t = 0) ∨ (ins = .castore ∧ t = 2) ∨ (ins = .bastore ∧ t = 3)) (hx : mz_ref n x = true) (ht : mz_ct K (mz_k x) = 64 + t) (hi : mz_sm i = true) (hl : mz_q i < mz_cn K (mz_k x))
    (hw : mz_nar t v = true) (hv : v < mz_B) (k : mz_G X (pc + 1) L st (mz_p M (mz_cb K (mz_k x) + mz_q i) v) K n top nc ns) : mz_G X pc L (v :: i :: x :: st) M K n top nc ns := by
  obtain ⟨p, l, e, R, s, m, args, below, meth, c, nL, D, cA, ao, ρ, A, n0, ad0, Q⟩ := X
  obtain ⟨hex, hb, hml, hown, hts, hK, hA, hF, hV⟩ := C
  intro ad ls H locs hn had hZ hls hst
  obtain ⟨hP, hD, hS, hW, hC⟩ := hZ
  obtain ⟨e1, hk⟩ := mz_ref_c (ad := ad) (ao := ao) (ρ := ρ) hx
  obtain ⟨i1, i2, i3⟩ := mz_ix (ρ := ρ) hi hl
  obtain ⟨s1, s2⟩ := List.forall_mem_cons.mp hst
  have hst' := (List.forall_mem_cons.mp (List.forall_mem_cons.mp s2).2).2
  have he := mz_w_at (cA := cA) (ad := ad) (ao := ao) (ρ := ρ) (M := M) (K := K) hk
  rw [mz_E_arr ht, mz_pic_i (by rcases hi2 with ⟨-, z⟩ | ⟨-, z⟩ | ⟨-, z⟩ <;> omega)] at he
  have hI : mz_I v = true := by
    unfold mz_nar at hw
    rcases hi2 with ⟨-, rfl⟩ | ⟨-, rfl⟩ | ⟨-, rfl⟩
    · exact hw
    · have h : ((mz_ci (mz_t1 v) (Nat.ble (Nat.succ (mz_q v)) 65536) (false))) = true := hw
      cases h1 : mz_t1 v with
      | true => exact (mz_s1 (ρ := ρ) h1).1
      | false => rw [h1] at h; cases h
    · have h : ((mz_ci (Nat.beq v 1) (true) (Nat.beq v 17))) = true := hw
      cases h1 : Nat.beq v 1 with
      | true => rw [mz_bq h1]; decide
      | false => rw [h1] at h; rw [mz_bq h]; decide
  rw [List.map_cons, List.map_cons, List.map_cons, e1, mz_cI i1, mz_cI hI]
  have fin : ∀ (H1 : Heap) (locs1 : List Loc) (z : Int32), z = mz_i ρ v →
      va_P D vwCl ((mz_w cA ad ao ρ M K n).set (mz_k x) (ad (mz_k x), .inl (cA t, mz_cn K (mz_k x), .inl (upd (fun j => if j < mz_cn K (mz_k x) then mz_toI (mz_c ad ao ρ (mz_g M (mz_cb K (mz_k x) + j))) else 0) (mz_i ρ i).toNatClampNeg z)))) H1 →
      va_D A ((mz_w cA ad ao ρ M K n).set (mz_k x) (ad (mz_k x), .inl (cA t, mz_cn K (mz_k x), .inl (upd (fun j => if j < mz_cn K (mz_k x) then mz_toI (mz_c ad ao ρ (mz_g M (mz_cb K (mz_k x) + j))) else 0) (mz_i ρ i).toNatClampNeg z)))) →
      va_S A s.heap H1 locs1 → W p l e R s m args below meth c H1 locs1 nc ns Q (F0 m (pc + 1) ls (st.map (mz_c ad ao ρ))) := fun H1 locs1 z hz hP1 hD1 hS1 => by
    have e3 : upd (fun j => if j < mz_cn K (mz_k x) then mz_toI (mz_c ad ao ρ (mz_g M (mz_cb K (mz_k x) + j))) else 0) (mz_i ρ i).toNatClampNeg z = (fun q => if q < mz_cn K (mz_k x) then mz_toI (mz_c ad ao ρ (mz_g (mz_p M (mz_cb K (mz_k x) + mz_q i) v) (mz_cb K (mz_k x) + q))) else 0) := by
      rw [i3, hz]
      exact mz_up hl hv (by rw [mz_cI hI]; rfl)
    have e2 := mz_w_set (cA := cA) (ad := ad) (ao := ao) (ρ := ρ) (M := M) hW hk hl hv (mz_arr_set (cA := cA) (ad := ad) (ao := ao) (ρ := ρ) (M := M) (j := mz_q i) (v := v) ht (by rw [mz_pic_i (by rcases hi2 with ⟨-, z⟩ | ⟨-, z⟩ | ⟨-, z⟩ <;> omega)]))
    rw [e3, e2] at hP1 hD1
    exact k ad ls H1 locs1 hn had ⟨hP1, hD1, hS1, hW, fun i => mz_gp_cl hv s1 hC⟩ hls hst'
  rcases hi2 with ⟨rfl, rfl⟩ | ⟨rfl, rfl⟩ | ⟨rfl, rfl⟩
  · exact va_iast hex hb hK hP hD hS (mz_k x) 0 he (mz_tys_at (by decide)) i2 hd fun H1 locs1 => fin H1 locs1 _ rfl
  · refine va_cast hex hb hK hP hD hS (mz_k x) 2 he (mz_tys_at (by decide)) i2 hd fun H1 locs1 => fin H1 locs1 _ ?_
    have h : ((mz_ci (mz_t1 v) (Nat.ble (Nat.succ (mz_q v)) 65536) (false))) = true := hw
    cases h1 : mz_t1 v with
    | false => rw [h1] at h; cases h
    | true =>
      rw [h1] at h
      rw [(mz_s1 (ρ := ρ) h1).2]
      exact mz_vc ⟨mz_q v, mz_bl h⟩
  · refine va_zast hex hb hK hP hD hS (mz_k x) 3 he (mz_tys_at (by decide)) i2 hd fun H1 locs1 => fin H1 locs1 _ ?_
    have h : ((mz_ci (Nat.beq v 1) (true) (Nat.beq v 17))) = true := hw
    cases h1 : Nat.beq v 1 with
    | true => rw [mz_bq h1, show mz_i ρ 1 = 0 from rfl]; decide
    | false =>
      rw [h1] at h
      have h : Nat.beq v 17 = true := h
      rw [mz_bq h, show mz_i ρ 17 = 1 from rfl]; decide
end MZ6
