/-! A BODY: from its walk to its contract -/
/-- words that may be handed to a method: no references to what isn't there, none of two places -/
noncomputable def mz_ak (n w : Nat) : Bool := (mz_ci (mz_cl n w) ((mz_ci (mz_c2 w) (false) (Nat.ble (Nat.succ w) 281474976710656))) (false))
noncomputable def mz_aks (n : Nat) (ws : List Nat) : Bool := List.rec (motive := fun _ => Bool) true (fun w _ ih => (mz_ci (mz_ak n w) (ih) (false))) ws
theorem mz_ak_ok {n w : Nat} (h : mz_ak n w = true) : mz_cl n w = true ∧ mz_c2 w = false ∧ w < mz_B := by
  unfold mz_ak at h
  cases h1 : mz_cl n w with
  | false => rw [h1] at h; cases h
  | true =>
    cases h2 : mz_c2 w with
    | true => rw [h1, h2] at h; cases h
    | false =>
      rw [h1, h2] at h
      exact ⟨rfl, rfl, mz_bl h⟩
theorem mz_aks_ok {n : Nat} : ∀ {ws : List Nat}, mz_aks n ws = true → ∀ w ∈ ws, mz_ak n w = true
  | [], _ => fun w h => nomatch h
  | w :: t, h => by
    have h' : ((mz_ci (mz_ak n w) (mz_aks n t) (false))) = true := h
    cases h1 : mz_ak n w with
    | false => rw [h1] at h'; cases h'
    | true =>
      rw [h1] at h'
      exact List.forall_mem_cons.mpr ⟨h1, mz_aks_ok h'⟩
theorem mz_sl_len : ∀ vs : List Value, (∀ v ∈ vs, v.category = 1) → (lg_sl vs).length = vs.length
  | [], _ => rfl
  | v :: t, h => by
    have h1 := h v List.mem_cons_self
    have h2 := mz_sl_len t fun w hw => h w (List.mem_cons_of_mem _ hw)
    have e : lg_sl (v :: t) = Slot.val v :: lg_sl t := by
      unfold lg_sl
      rw [List.flatMap_cons, if_neg (by rw [h1]; decide)]
      rfl
    rw [e, List.length_cons, List.length_cons, h2]
theorem mz_args_at : ∀ (vs : List Value) (i j : Nat) (v : Value), (∀ v ∈ vs, v.category = 1) → vs[j]? = some v → (i + j, v) ∈ lv_args i vs
  | [], i, j, v, _, h => by simp at h
  | u :: t, i, 0, v, hc, h => by
    cases (show some u = some v from h)
    exact List.mem_cons_self
  | u :: t, i, j + 1, v, hc, h => by
    have h1 := hc u List.mem_cons_self
    have q := mz_args_at t (i + 1) j v (fun w hw => hc w (List.mem_cons_of_mem _ hw)) (by simpa using h)
    unfold lv_args
    rw [if_neg (by rw [h1]; decide), show i + (j + 1) = i + 1 + j by omega]
    exact List.mem_cons_of_mem _ q
theorem mz_entry {ad ao : Nat → Nat} {ρ : Nat → Int32} {n nL : Nat} {ws : List Nat} (hk : mz_aks n ws = true) (hl : ws.length ≤ nL) :
    mz_ls ad ao ρ n nL ((lg_sl (ws.map (mz_c ad ao ρ)) ++ List.replicate (nL - (lg_sl (ws.map (mz_c ad ao ρ))).length) Slot.unset).toArray) (mz_fl ws 0 0) := by
  have hA := mz_aks_ok hk
  have hcat : ∀ v ∈ ws.map (mz_c ad ao ρ), v.category = 1 := fun v hv => by
    obtain ⟨w, hw, rfl⟩ := List.mem_map.mp hv
    exact mz_cat1 (mz_ak_ok (hA w hw)).2.1
  have hlen := mz_sl_len _ hcat
  rw [List.length_map] at hlen
  have h := lv_entry (ws.map (mz_c ad ao ρ)) (n := nL) (by rw [hlen]; exact hl)
  have hg : ∀ i, mz_g (mz_fl ws 0 0) i = if i < ws.length then ws.getD i 0 else 0 := fun i => by
    rw [mz_fl_g _ _ _ _ fun w hw => (mz_ak_ok (hA w hw)).2.2]
    have z : mz_g 0 i = 0 := by
      rw [mz_g_eq]; unfold mz_d; simp
    rw [z, Nat.sub_zero, Nat.zero_add]
    by_cases q : i < ws.length
    · rw [if_pos ⟨Nat.zero_le _, q⟩, if_pos q]
    · rw [if_neg fun z => q z.2, if_neg q]
  refine ⟨h.1, h.2.1, fun i hi => ?_, fun i => ?_⟩
  · rw [hg] at hi ⊢
    by_cases q : i < ws.length
    · rw [if_pos q]
      have e : ws[i]? = some (ws.getD i 0) := by
        rw [List.getD_eq_getElem?_getD, List.getElem?_eq_getElem q]; rfl
      have m1 := mz_args_at (ws.map (mz_c ad ao ρ)) 0 i (mz_c ad ao ρ (ws.getD i 0)) hcat (by rw [List.getElem?_map, e]; rfl)
      rw [Nat.zero_add] at m1
      exact h.2.2 _ m1
    · rw [if_neg q] at hi
      cases hi
  · rw [hg]
    by_cases q : i < ws.length
    · rw [if_pos q]
      refine (mz_ak_ok (hA _ ?_)).1
      rw [List.getD_eq_getElem?_getD, List.getElem?_eq_getElem q]
      exact List.getElem_mem q
    · rw [if_neg q]
      exact mz_cl_t (by decide)
theorem mz_body {l : Launch} {ρ : Nat → Int32} {F : Nat → Nat × Nat} {y : MethodName} {cc : ByteArray} {maxL : Nat} {ret : Option FieldType} {tb : Bool} {hh : List (Nat × Nat × Nat × Nat)} {d : Nat} {ws : List Nat} {M K n top : Nat} {r : mz_Rt} (hF : mz_F F ρ) (hV : mz_V ρ) (hl : l.stackTraces = false)
    (hy : plainName y.cls = true) (hk : mz_aks n ws = true) (hlen : ws.length ≤ maxL)
    (hrun : ∀ X : mz_Xt, mz_Cx X cc y.cls mz_gG F → mz_OX X → mz_MX X ret tb hh M K top r → mz_rm X = mz_rr d r.2.2.2.2.2.2.1 r.2.2.2.2.2.2.2 → mz_nL X = maxL → mz_rho X = ρ → mz_lz X = l → mz_mn X = y.name → mz_G X 0 (mz_fl ws 0 0) [] M K n top 0 0) :
    mz_Sp l ρ (y, cc, maxL, ret, tb, hh) d ws M K n top r := by
  intro D cA ad ao sz
  have body : ∀ p e s m args below meth c s₁, BodyLoose p l y (headSpec (mz_ws (y, cc, maxL, ret, tb, hh)) (mz_rr d r.2.2.2.2.2.2.1 r.2.2.2.2.2.2.2)) cc maxL ret e s m args below meth c s₁ → c.maxLocals = maxL → (tb = false → ∀ x ∈ c.exceptionTable.toList, False) → (tb = true → c.exceptionTable.toList = tableOf hh) →
      va_Pc (ws.map (mz_c ad ao ρ)) (mz_B0 (D, cA, ad, ao, ρ, M, K, n, top, sz)) args s →
      W p l e (headSpec (mz_ws (y, cc, maxL, ret, tb, hh)) (mz_rr d r.2.2.2.2.2.2.1 r.2.2.2.2.2.2.2)).room s m args below meth c s.heap [] 0 0 (vx_MQ below (mz_Qc (D, cA, ad, ao, ρ, M, K, n, top, sz) r) (mz_XC (D, cA, ad, ao, ρ, M, K, n, top, sz) r) args s r.2.2.2.2.2.2.1 r.2.2.2.2.2.2.2 (mz_Av (D, cA, ad, ao, ρ, M, K, n, top, sz))) (entryFrame m args maxL) := by
    intro p e s m args below meth c s₁ B hml ht1 ht2 ⟨hv, h1, h2, h3, h4, h5, h6, h7⟩
    subst hv
    subst h1
    have hts : ∀ w ∈ mz_gG, w.before (ws.map (mz_c ad ao ρ)).toArray s = true := fun w hw => atoms_spec (ws := mz_ws (y, cc, maxL, ret, tb, hh)) B.pre w (List.mem_cons_of_mem _ hw)
    have q := hrun (p, l, e, (headSpec (mz_ws (y, cc, maxL, ret, tb, hh)) (mz_rr d r.2.2.2.2.2.2.1 r.2.2.2.2.2.2.2)).room, s, m, (ws.map (mz_c ad ao ρ)).toArray, below, meth, c, maxL, D, cA, ao, ρ, mz_Av (D, cA, ad, ao, ρ, M, K, n, top, s.heap.size), n, ad, _)
      ⟨B.exec, B.bytes, hml, findClass_of_methodNamed B.named, hts, h4, fun q hq => Or.inr hq, hF, hV⟩ h5 ⟨B.returns, B.notSynchronized, hl, ht1, ht2, rfl, rfl⟩ rfl rfl rfl rfl (name_of_methodNamed B.named B.method).1
      ad _ s.heap [] (Nat.le_refl _) (fun _ _ => rfl) ⟨h2, h3, ⟨Nat.le_refl _, fun _ _ _ => rfl, fun _ h => nomatch h⟩, h6, h7⟩ (mz_entry hk hlen) (fun w h => nomatch h)
    rw [lg_entry_eq]
    exact q
  cases tb with
  | false => exact vx_ofW (cc := cc) (maxL := maxL) (ret := ret) (ws' := mz_gG) hy rfl fun p e s m args below meth c s₁ B hml ht hP => body p e s m args below meth c s₁ B hml (fun _ => ht) (fun h => nomatch h) hP
  | true => exact vx_ofWH (cc := cc) (maxL := maxL) (ret := ret) (hh := hh) (ws' := mz_gG) hy rfl fun p e s m args below meth c s₁ B hml hP => body p e s m args below meth c s₁ B hml (fun h => nomatch h) (fun _ => vx_table (x := y) B (atoms_spec (ws := mz_ws (y, cc, maxL, ret, true, hh)) B.pre _ List.mem_cons_self)) hP
