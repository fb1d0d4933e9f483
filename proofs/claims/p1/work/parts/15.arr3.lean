section MZA
variable {X : mz_Xt} {cc : ByteArray} {own : String} {Ts : List Jvm.Cond} {F : Nat → Nat × Nat} {pc L M K n top nc ns : Nat} {st : List Nat}
theorem mz_last {x i v : Nat} (C : mz_Cx X cc own Ts F) (hd : decode cc pc = .ok (.lastore, 1)) (hx : mz_ref n x = true) (ht : mz_ct K (mz_k x) = 64 + 1) (hi : mz_sm i = true) (hl : mz_q i < mz_cn K (mz_k x))
    (hw : mz_L v = true) (hv : v < mz_B) (k : mz_G X (pc + 1) L st (mz_p M (mz_cb K (mz_k x) + mz_q i) v) K n top nc ns) : mz_G X pc L (v :: i :: x :: st) M K n top nc ns := by
  obtain ⟨p, l, e, R, s, m, args, below, meth, c, nL, D, cA, ao, ρ, A, n0, ad0, Q⟩ := X
  obtain ⟨hex, hb, hml, hown, hts, hK, hA, hF, hV⟩ := C
  intro ad ls H locs hn had hZ hls hst
  obtain ⟨hP, hD, hS, hW, hC⟩ := hZ
  obtain ⟨e1, hk⟩ := mz_ref_c (ad := ad) (ao := ao) (ρ := ρ) hx
  obtain ⟨i1, i2, i3⟩ := mz_ix (ρ := ρ) hi hl
  obtain ⟨s1, s2⟩ := List.forall_mem_cons.mp hst
  have hst' := (List.forall_mem_cons.mp (List.forall_mem_cons.mp s2).2).2
  have he := mz_w_at (cA := cA) (ad := ad) (ao := ao) (ρ := ρ) (M := M) (K := K) hk
  rw [mz_E_arr ht, mz_pic_l] at he
  rw [List.map_cons, List.map_cons, List.map_cons, e1, mz_cI i1, mz_cL hw]
  refine va_last hex hb hK hP hD hS (mz_k x) 1 he (mz_tys_at (by decide)) i2 hd fun H1 locs1 hP1 hD1 hS1 => ?_
  have e3 : vp_updL (fun j => if j < mz_cn K (mz_k x) then mz_toL (mz_c ad ao ρ (mz_g M (mz_cb K (mz_k x) + j))) else 0) (mz_i ρ i).toNatClampNeg (mz_l ρ v) = (fun q => if q < mz_cn K (mz_k x) then mz_toL (mz_c ad ao ρ (mz_g (mz_p M (mz_cb K (mz_k x) + mz_q i) v) (mz_cb K (mz_k x) + q))) else 0) := by
    rw [i3]
    exact mz_up hl hv (by rw [mz_cL hw]; rfl)
  have e2 := mz_w_set (cA := cA) (ad := ad) (ao := ao) (ρ := ρ) (M := M) hW hk hl hv (mz_arr_set (cA := cA) (ad := ad) (ao := ao) (ρ := ρ) (M := M) (j := mz_q i) (v := v) (t := 1) ht mz_pic_l.symm)
  rw [e3, e2] at hP1 hD1
  exact k ad ls H1 locs1 hn had ⟨hP1, hD1, hS1, hW, fun i => mz_gp_cl hv s1 hC⟩ hls hst'
theorem mz_aast {x i v t : Nat} (C : mz_Cx X cc own Ts F) (hd : decode cc pc = .ok (.aastore, 1)) (hx : mz_ref n x = true) (ht : mz_ct K (mz_k x) = 64 + t) (h5 : 5 ≤ t) (h9 : t < 9) (hi : mz_sm i = true) (hl : mz_q i < mz_cn K (mz_k x))
    (hw : (mz_R v = true ∧ mz_q v = 0) ∨ (mz_ref n v = true ∧ ∃ (ci : Nat) (r : vw_C), mz_ct K (mz_k v) = ci ∧ ci < 64 ∧ vwCl[ci]? = some r ∧ (mz_ty.getD t .int = .object r.1 ∨ ∃ E : String, mz_ty.getD t .int = .object E ∧ mz_bf X (Jvm.Cond.castable r.1 E))))
    (hv : v < mz_B) (k : mz_G X (pc + 1) L st (mz_p M (mz_cb K (mz_k x) + mz_q i) v) K n top nc ns) : mz_G X pc L (v :: i :: x :: st) M K n top nc ns := by
  obtain ⟨p, l, e, R, s, m, args, below, meth, c, nL, D, cA, ao, ρ, A, n0, ad0, Q⟩ := X
  obtain ⟨hex, hb, hml, hown, hts, hK, hA, hF, hV⟩ := C
  intro ad ls H locs hn had hZ hls hst
  obtain ⟨hP, hD, hS, hW, hC⟩ := hZ
  obtain ⟨e1, hk⟩ := mz_ref_c (ad := ad) (ao := ao) (ρ := ρ) hx
  obtain ⟨i1, i2, i3⟩ := mz_ix (ρ := ρ) hi hl
  obtain ⟨s1, s2⟩ := List.forall_mem_cons.mp hst
  have hst' := (List.forall_mem_cons.mp (List.forall_mem_cons.mp s2).2).2
  have he := mz_w_at (cA := cA) (ad := ad) (ao := ao) (ρ := ρ) (M := M) (K := K) hk
  rw [mz_E_arr ht, mz_pic_q h5] at he
  have hR : mz_R v = true := by
    rcases hw with ⟨h, -⟩ | ⟨h, -⟩
    · exact h
    · exact (mz_ref_ok h).1
  have fin : ∀ (H1 : Heap) (locs1 : List Loc) (z : Option Nat), mz_ro ad ao (mz_q v) = z →
      va_P D vwCl ((mz_w cA ad ao ρ M K n).set (mz_k x) (ad (mz_k x), .inl (cA t, mz_cn K (mz_k x), .inr (.inr (.inr (.inr (va_up (fun j => if j < mz_cn K (mz_k x) then mz_toR (mz_c ad ao ρ (mz_g M (mz_cb K (mz_k x) + j))) else none) (mz_i ρ i).toNatClampNeg z))))))) H1 →
      va_D A ((mz_w cA ad ao ρ M K n).set (mz_k x) (ad (mz_k x), .inl (cA t, mz_cn K (mz_k x), .inr (.inr (.inr (.inr (va_up (fun j => if j < mz_cn K (mz_k x) then mz_toR (mz_c ad ao ρ (mz_g M (mz_cb K (mz_k x) + j))) else none) (mz_i ρ i).toNatClampNeg z))))))) →
      va_S A s.heap H1 locs1 → W p l e R s m args below meth c H1 locs1 nc ns Q (F0 m (pc + 1) ls (st.map (mz_c ad ao ρ))) := fun H1 locs1 z hz hP1 hD1 hS1 => by
    have e3 : va_up (fun j => if j < mz_cn K (mz_k x) then mz_toR (mz_c ad ao ρ (mz_g M (mz_cb K (mz_k x) + j))) else none) (mz_i ρ i).toNatClampNeg z = (fun q => if q < mz_cn K (mz_k x) then mz_toR (mz_c ad ao ρ (mz_g (mz_p M (mz_cb K (mz_k x) + mz_q i) v) (mz_cb K (mz_k x) + q))) else none) := by
      rw [i3, ← hz]
      exact mz_up hl hv (by rw [mz_cRq hR, mz_toR_r])
    have e2 := mz_w_set (cA := cA) (ad := ad) (ao := ao) (ρ := ρ) (M := M) hW hk hl hv (mz_arr_set (cA := cA) (ad := ad) (ao := ao) (ρ := ρ) (M := M) (j := mz_q i) (v := v) (t := t) ht (mz_pic_q h5).symm)
    rw [e3, e2] at hP1 hD1
    exact k ad ls H1 locs1 hn had ⟨hP1, hD1, hS1, hW, fun i => mz_gp_cl hv s1 hC⟩ hls hst'
  rw [List.map_cons, List.map_cons, List.map_cons, e1, mz_cI i1]
  rcases hw with ⟨-, h0⟩ | ⟨hrv, ci, r, hct, hci, hcr, hor⟩
  · obtain ⟨C0, hC0⟩ := mz_ty_obj h5 h9
    have htt := mz_tys_at (cA := cA) h9
    rw [hC0] at htt
    have ez : mz_ro ad ao (mz_q v) = none := by unfold mz_ro; rw [if_pos h0]
    have en : mz_c ad ao ρ v = .null := by rw [mz_cRq hR, mz_r_rf, ez]; rfl
    rw [en]
    exact va_astqN hex hb hK hP hD hS (mz_k x) t he htt i2 hd fun H1 locs1 => fin H1 locs1 _ ez
  · obtain ⟨v1, hkv⟩ := mz_ref_c (ad := ad) (ao := ao) (ρ := ρ) hrv
    obtain ⟨-, q0, q1, q2⟩ := mz_ref_ok hrv
    have ez : mz_ro ad ao (mz_q v) = some (ad (mz_k v)) := by unfold mz_ro; rw [if_neg q0, if_pos q2]; rfl
    have hev := mz_w_at (cA := cA) (ad := ad) (ao := ao) (ρ := ρ) (M := M) (K := K) hkv
    rw [mz_E_obj hct hci] at hev
    rw [v1]
    rcases hor with hty | ⟨E, hty, hca⟩
    · have htt := mz_tys_at (cA := cA) h9
      rw [hty] at htt
      exact va_astq hex hb hK hP hD hS (mz_k x) t (mz_k v) ci he htt hev hcr i2 hd fun H1 locs1 => fin H1 locs1 _ ez
    · have htt := mz_tys_at (cA := cA) h9
      rw [hty] at htt
      exact va_astqO hex hb hK hP hD hS (mz_k x) t (mz_k v) ci he htt (va_any rfl hca) hev hcr i2 hd fun H1 locs1 => fin H1 locs1 _ ez
theorem mz_cast {x ci idx : Nat} {nm : String} {r : vw_C} (C : mz_Cx X cc own Ts F) (hd : decode cc pc = .ok (.checkcast idx, 3)) (hc : vwCl[ci]? = some r) (hci : ci < 64) (hlink : mz_bf X (Jvm.Cond.classLink own idx nm)) (hca : mz_bf X (Jvm.Cond.castable r.1 nm))
    (hx : mz_ref n x = true) (ht : mz_ct K (mz_k x) = ci) (k : mz_G X (pc + 3) L (x :: st) M K n top nc ns) : mz_G X pc L (x :: st) M K n top nc ns := by
  obtain ⟨p, l, e, R, s, m, args, below, meth, c, nL, D, cA, ao, ρ, A, n0, ad0, Q⟩ := X
  obtain ⟨hex, hb, hml, hown, hts, hK, hA, hF, hV⟩ := C
  intro ad ls H locs hn had hZ hls hst
  have q := k ad ls H locs hn had hZ hls hst
  obtain ⟨hP, hD, hS, hW, hC⟩ := hZ
  obtain ⟨e1, hk⟩ := mz_ref_c (ad := ad) (ao := ao) (ρ := ρ) hx
  rw [List.map_cons, e1] at q ⊢
  have he := mz_w_at (cA := cA) (ad := ad) (ao := ao) (ρ := ρ) (M := M) (K := K) hk
  rw [mz_E_obj ht hci] at he
  exact va_castY hex hb hown hlink (va_any rfl hca) (va_recv hK hP hc he) hd q
end MZA
