/-! THE LAW, case by case -/
/-- the variables: the script's ints, the same as chars, their six lowest bits -/
noncomputable def mz_rv (xs : Nat → Int32) : Nat → Int32 := fun i => if i < 4 then xs i else if i < 8 then ((xs (i - 4)).toUInt32 % 65536).toInt32 else if i < 12 then (xs (i - 8) &&& nI 63) else 0
theorem mz_rv_0 {xs : Nat → Int32} {i : Nat} (h : i < 4) : mz_rv xs i = xs i := by unfold mz_rv; rw [if_pos h]
theorem mz_rv_4 {xs : Nat → Int32} {i : Nat} (h : i < 4) : mz_rv xs (i + 4) = ((xs i).toUInt32 % 65536).toInt32 := by unfold mz_rv; rw [if_neg (by omega), if_pos (by omega), Nat.add_sub_cancel]
theorem mz_rv_8 {xs : Nat → Int32} {i : Nat} (h : i < 4) : mz_rv xs (i + 8) = (xs i &&& nI 63) := by unfold mz_rv; rw [if_neg (by omega), if_neg (by omega), if_pos (by omega), Nat.add_sub_cancel]
theorem mz_rv_V (xs : Nat → Int32) : mz_V (mz_rv xs) := fun i h => ⟨by rw [mz_rv_4 h, mz_rv_0 h], by rw [mz_rv_8 h, mz_rv_0 h]⟩
theorem mz_F0_ok (ρ : Nat → Int32) : mz_F mz_F0 ρ := fun i => ⟨Nat.zero_le _, Nat.le_of_lt_succ (mz_b_max _)⟩
theorem mz_runk_ok {X : mz_Xt} {mk : mz_Mk} {cc : ByteArray} {own : String} {F : Nat → Nat × Nat} {nL mo d T : Nat} {hs : List mz_Hr} {ret : Option FieldType} {r : mz_Rt} {call : mz_Ca} {k : mz_Go} (C : mz_Cx X cc own mz_gG F) (O : mz_OX X) (hnL : mz_nL X = nL) (hR : r.2.2.2.2.2.2.1 ≤ (mz_rm X).cells ∧ r.2.2.2.2.2.2.2 ≤ (mz_rm X).slots) (hD : d + 9 ≤ (mz_rm X).frames ∧ 60 * d + 260 ≤ (mz_rm X).locals) (hE : mz_CX X cc own mo hs ret r) (hC : mz_HC X mk d call)
    (hT : ∀ pc, mz_selk mk (Nat.mod (mz_te T pc) 256) own (mz_mn X) cc mo ret (mz_te T pc) pc = true) (hk : mz_HG X r k) : ∀ fuel, mz_HG X r (mz_runk F T nL mo hs call k fuel)
  | 0 => hk
  | fuel + 1 => fun pc L st M K n top nc ns h => by
    have h : (mz_f pc fun pc => (mz_ci (Nat.beq pc 28) (k pc L st M K n top nc ns) (mz_f (mz_te T pc) fun e => mz_sel (Nat.mod e 256) F nL mo hs call (mz_runk F T nL mo hs call k fuel) e pc L st M K n top nc ns))) = some r := h
    rw [mz_f_eq] at h
    rcases mz_if h with ⟨-, h⟩ | ⟨-, h⟩
    · exact hk _ _ _ _ _ _ _ _ _ h
    · rw [mz_f_eq] at h
      exact mz_selok mk _ X own cc F nL mo d hs ret r call _ _ pc L st M K n top nc ns ⟨C, O, hnL, hR, hD, hE, hC, mz_runk_ok C O hnL hR hD hE hC hT hk fuel⟩ (hT pc) h
theorem mz_good1_ok {o : Option mz_Rt} (h : mz_good1 o = true) : ∃ M K n top nc ns, o = some (0, some 17, M, K, n, top, nc, ns) ∧ nc ≤ 600006 ∧ ns ≤ 7302016 := by
  cases o with
  | none => cases h
  | some r =>
    obtain ⟨rx, rv, M, K, n, top, nc, ns⟩ := r
    obtain ⟨h1, h⟩ := mz_bft (show ((mz_ci (Nat.beq rx 0) (Option.rec (motive := fun _ => Bool) false (fun w => (mz_ci (Nat.beq w 17) ((mz_ci (Nat.ble nc 600006) (Nat.ble ns 7302016) (false))) (false))) rv) (false))) = true from h)
    cases rv with
    | none => cases h
    | some w =>
      obtain ⟨h2, h⟩ := mz_bft (show ((mz_ci (Nat.beq w 17) ((mz_ci (Nat.ble nc 600006) (Nat.ble ns 7302016) (false))) (false))) = true from h)
      obtain ⟨h3, h4⟩ := mz_bft h
      exact ⟨M, K, n, top, nc, ns, by rw [mz_bq h1, mz_bq h2], mz_bl h3, mz_bl h4⟩
theorem mz_all_ok {α : Type} {f : α → Bool} : ∀ {cs : List α}, List.rec (motive := fun _ => Bool) true (fun c _ ih => (mz_ci (f c) (ih) (false))) cs = true → ∀ c ∈ cs, f c = true
  | [], _ => fun c h => nomatch h
  | c :: t, h => by
    obtain ⟨h1, h2⟩ := mz_bft h
    exact List.forall_mem_cons.mpr ⟨h1, mz_all_ok h2⟩
theorem mz_grp_ok {Ls : Nat} {cs : List (List (Nat × Nat))} (h : mz_grp Ls cs = true) : ∃ L M K n top nc ns, mz_pre Ls = some (1, some L, M, K, n, top, nc, ns) ∧ ∀ c ∈ cs, mz_case Ls L M K n top nc ns (mz_Fc c) = true := by
  unfold mz_grp at h
  cases hp : mz_pre Ls with
  | none => rw [hp] at h; cases h
  | some r =>
    rw [hp] at h
    obtain ⟨rx, rv, M, K, n, top, nc, ns⟩ := r
    obtain ⟨h1, h⟩ := mz_bft h
    cases rv with
    | none => cases h
    | some L =>
      have h : (mz_fB L fun L => mz_fB M fun M => mz_fB K fun K => mz_fB n fun n => mz_fB top fun top => mz_fB nc fun nc => mz_fB ns fun ns => List.rec (motive := fun _ => Bool) true (fun c _ ih => (mz_ci (mz_case Ls L M K n top nc ns (mz_Fc c)) (ih) (false))) cs) = true := h
      rw [mz_fB_eq, mz_fB_eq, mz_fB_eq, mz_fB_eq, mz_fB_eq, mz_fB_eq, mz_fB_eq] at h
      exact ⟨L, M, K, n, top, nc, ns, by rw [mz_bq (show Nat.beq rx 1 = true from h1)], mz_all_ok h⟩
theorem mz_capt_ok {rc : mz_Rt} {pc L : Nat} {st : List Nat} {M K n top nc ns : Nat} (h : mz_capt pc L st M K n top nc ns = some rc) : pc = 28 ∧ st = [] ∧ rc = (1, some L, M, K, n, top, nc, ns) := by
  obtain ⟨h1, h⟩ := mz_ift h
  cases st with
  | cons w l => cases h
  | nil => exact ⟨mz_bq h1, rfl, (Option.some.inj h).symm⟩
set_option maxHeartbeats 1000000 in
theorem mz_one {p : Program} {e : Env} {s : State} {m : MethodId} {below : List Frame} {meth : Method} {c : Code} (l : Launch) (hflags : l.flags = flags0) {b Ls : Nat} {xs : Nat → Int32} (hLs : Ls ≤ 4) (C0 : lw_At p s m meth c b Ls xs) {cs : List (List (Nat × Nat))} (h : mz_grp Ls cs = true) {ca : List (Nat × Nat)} (hca : ca ∈ cs) (hF : mz_F (mz_Fc ca) (mz_rv xs)) :
    W p l e room_1 s m #[Value.ref b] below meth c s.heap [] 0 0 (lw_Z below #[Value.ref b] s) (entryFrame m ([Value.ref b] : List Value).toArray 9) := by
  obtain ⟨hx, hb, hr, hml, hown, hts, hX, hbl, hlocks, hgv⟩ := C0
  have hl : l.stackTraces = false := by unfold Launch.stackTraces; rw [hflags]; decide +kernel
  have hA : ∀ a : Nat, a < s.heap.size → ¬ (fun q : Nat => s.heap.size ≤ q) a := fun a h1 h2 => absurd h1 (Nat.not_lt.mpr h2)
  obtain ⟨ao, hao, O⟩ := mz_start_O (A := fun q : Nat => s.heap.size ≤ q) hts (flat_of_before _ hgv) hA b
  obtain ⟨D, cA, hK⟩ := mz_start_K hts
  obtain ⟨L1, M1, K1, n1, top1, nc1, ns1, hpre, hall⟩ := mz_grp_ok h
  obtain ⟨M2, K2, n2, top2, nc2, ns2, hrun, hc2, hs2⟩ := mz_good1_ok (hall ca hca)
  let X : mz_Xt := (p, l, e, room_1, s, m, #[Value.ref b], below, meth, c, 9, D, cA, ao, mz_rv xs, fun q : Nat => s.heap.size ≤ q, 0, fun _ => 0, lw_Z below #[Value.ref b] s)
  have hts2 : ∀ w ∈ mz_gG, w.before #[Value.ref b] s = true := fun w hw => hts w (List.mem_filter.mp hw).1
  have Cx : ∀ F, mz_F F (mz_rv xs) → mz_Cx X code R_law0 mz_gG F := fun F hF => ⟨hx, hb, hml, hown, hts2, hK, fun q h => h, hF, mz_rv_V xs⟩
  have hscr : va_X (ao 99) Ls (mz_rv xs) s s.heap ∧ ao 99 < s.heap.size ∧ ¬ (fun q : Nat => s.heap.size ≤ q) (ao 99) := by
    rw [hao]
    refine ⟨?_, hbl, hA _ hbl⟩
    obtain ⟨scr, g1, g2, g3, g4, g5⟩ := hX
    exact ⟨scr, g1, g2, g3, g4, fun j hj => by rw [mz_rv_0 (by omega)]; exact g5 j hj⟩
  have hC : ∀ F, mz_F F (mz_rv xs) → mz_HC X mz_mk 9 (mz_call F) := fun F hF mi ws M K n top r1 h1 => mz_exec_ok (l := l) (ρ := mz_rv xs) hF (mz_rv_V xs) hl (fun mi _ => mz_SFall mi) 9 mi ws M K n top r1 h1
  have hCX : ∀ r : mz_Rt, (∀ pc L M K n top nc ns w, decode code pc = .ok (.ireturn, 1) → r = (0, some w, M, K, n, top, nc, ns) → mz_I w = true → mz_G X pc L [w] M K n top nc ns) → mz_CX X code R_law0 (2 + Ls) [] (some .boolean) r := fun r hr =>
    ⟨fun h => absurd h (by omega), fun h => absurd h (by omega), fun k hk => by
      obtain rfl : Ls = k := by omega
      exact ⟨hscr, hr⟩⟩
  have hT : ∀ pc, mz_selk mz_mk (Nat.mod (mz_te mz_Tl pc) 256) R_law0 (mz_mn X) code (2 + Ls) (some .boolean) (mz_te mz_Tl pc) pc = true := fun pc => mz_Kl Ls hLs (mz_mn X) pc
  have e2 : mz_CX X code R_law0 (2 + Ls) [] (some .boolean) (0, some 17, M2, K2, n2, top2, nc2, ns2) := hCX _ fun pc L M K n top nc ns w hd hreq hw => by
    cases hreq
    intro ad ls H locs hn had hZ hls hst
    have e17 : mz_c ad ao (mz_rv xs) 17 = .int 1 := by
      rw [mz_cI hw]
      exact congrArg Value.int (mz_nw (ρ := mz_rv xs) 1).2
    rw [List.map_cons, e17]
    refine va_forget (fun q hq => hZ.2.2.1.2.2 q hq) (W.widen hc2 hs2 ?_)
    exact W.base (lw_ret (Drawn.sameBut.refl s.drawn lw_cs) hx hb hr hlocks hd)
  have hD9 : 9 + 9 ≤ room_1.frames ∧ 60 * 9 + 260 ≤ room_1.locals := by decide
  obtain ⟨g1, g2, g3⟩ := mz_run_ok (mk := mz_mk) (d := 9) (Cx _ hF) O rfl ⟨hc2, hs2⟩ hD9 e2 (hC _ hF) hT 1000000 _ _ _ _ _ _ _ _ _ hrun
  change nc1 ≤ nc2 at g1
  change ns1 ≤ ns2 at g2
  have hk : mz_HG X (1, some L1, M1, K1, n1, top1, nc1, ns1) mz_capt := fun pc L st M K n top nc ns h => by
    obtain ⟨rfl, rfl, hq⟩ := mz_capt_ok h
    cases hq
    exact ⟨Nat.le_refl _, Nat.le_refl _, g3⟩
  have e1 : mz_CX X code R_law0 (2 + Ls) [] (some .boolean) (1, some L1, M1, K1, n1, top1, nc1, ns1) := hCX _ fun pc L M K n top nc ns w hd hreq hw => by cases hreq
  unfold mz_pre at hpre
  rw [mz_f_eq] at hpre
  obtain ⟨-, -, q3⟩ := mz_runk_ok (mk := mz_mk) (d := 9) (Cx _ (mz_F0_ok _)) O rfl ⟨Nat.le_trans g1 hc2, Nat.le_trans g2 hs2⟩ hD9 e1 (hC _ (mz_F0_ok _)) hT hk 1000000 _ _ _ _ _ _ _ _ _ hpre
  have hls := mz_entry (ad := fun _ => 0) (ao := ao) (ρ := mz_rv xs) (n := 0) (nL := 9) (ws := [mz_ow 99]) (by decide +kernel) (by decide)
  have z := q3 (fun _ => 0) _ s.heap [] (Nat.le_refl _) (fun _ _ => rfl) ⟨fun k q h => (by cases h), ⟨fun i j p q h => (by cases h), fun k q h => (by cases h)⟩, ⟨Nat.le_refl _, fun _ _ _ => rfl, fun _ h => nomatch h⟩, ⟨fun i j _ h => absurd h (Nat.not_lt_zero _), fun i h => absurd h (Nat.not_lt_zero _)⟩, fun i => by
    have z : mz_g 0 i = 0 := by
      rw [mz_g_eq]; unfold mz_d; simp
    rw [z]; rfl⟩ hls (fun w h => nomatch h)
  have e9 : [Value.ref b] = [mz_ow 99].map (mz_c (fun _ => 0) ao (mz_rv xs)) := by
    rw [List.map_cons, (mz_ow_ok (n := 0) (ad := fun _ => 0) (ao := ao) (ρ := mz_rv xs) 99).1, hao]; rfl
  rw [← e9] at z
  rw [lg_entry_eq]
  exact z
/-! the cases cover all -/
theorem mz_nIx (x : Int32) : x = nI x.toBitVec.toNat := mz_ext (by rw [mz_nI_bv, Nat.mod_eq_of_lt (mz_bv_lt x)])
theorem mz_b_char (x : Int32) : 2147483648 ≤ mz_b (x.toUInt32 % 65536).toInt32 ∧ mz_b (x.toUInt32 % 65536).toInt32 ≤ 2147549183 := by
  rw [mz_nIx x, mz_i2c, mz_b_nI]
  omega
theorem mz_b_63 (x : Int32) : 2147483648 ≤ mz_b (x &&& nI 63) ∧ mz_b (x &&& nI 63) ≤ 2147483711 := by
  rw [mz_nIx x, mz_and, mz_b_nI]
  have : x.toBitVec.toNat &&& 63 ≤ 63 := Nat.and_le_right
  omega
/-- what holds of a case's bounds -/
noncomputable def mz_hold (ρ : Nat → Int32) (c : List (Nat × Nat)) : Prop := ∀ i q, c[i]? = some q → q.1 ≤ mz_b (ρ i) ∧ mz_b (ρ i) ≤ q.2
theorem mz_Fc_at : ∀ (c : List (Nat × Nat)) (i : Nat), mz_Fc c i = c.getD i (0, 4294967295)
  | [], i => by simp [mz_Fc]
  | a :: t, 0 => rfl
  | a :: t, i + 1 => mz_Fc_at t i
theorem mz_hold_F {ρ : Nat → Int32} {c : List (Nat × Nat)} (h : mz_hold ρ c) : mz_F (mz_Fc c) ρ := fun i => by
  rw [mz_Fc_at, List.getD_eq_getElem?_getD]
  cases hq : c[i]? with
  | none => exact ⟨Nat.zero_le _, Nat.le_of_lt_succ (mz_b_max _)⟩
  | some q => exact h i q hq
/-- all the ways to choose -/
noncomputable def mz_prod : List (Nat × List (Nat × Nat)) → List (Nat × Nat) → List (List (Nat × Nat))
  | [], c => [c]
  | (v, l) :: t, c => l.flatMap fun q => mz_prod t (c.set v q)
theorem mz_prod_ok {ρ : Nat → Int32} : ∀ (al : List (Nat × List (Nat × Nat))) (c : List (Nat × Nat)), mz_hold ρ c → (∀ a ∈ al, ∃ q ∈ a.2, q.1 ≤ mz_b (ρ a.1) ∧ mz_b (ρ a.1) ≤ q.2) → ∃ c' ∈ mz_prod al c, mz_hold ρ c'
  | [], c, h, _ => ⟨c, List.mem_singleton.mpr rfl, h⟩
  | (v, l) :: t, c, h, ha => by
    obtain ⟨q, hq, h1, h2⟩ := ha (v, l) List.mem_cons_self
    obtain ⟨c', hc', hh⟩ := mz_prod_ok t (c.set v q) (fun i z hz => by
      rw [List.getElem?_set] at hz
      by_cases e : v = i
      · subst e
        rw [if_pos rfl] at hz
        by_cases e2 : v < c.length
        · rw [if_pos e2] at hz; cases hz; exact ⟨h1, h2⟩
        · rw [if_neg e2] at hz; cases hz
      · rw [if_neg e] at hz
        exact h i z hz) (fun a ha2 => ha a (List.mem_cons_of_mem _ ha2))
    exact ⟨c', List.mem_flatMap.mpr ⟨q, hq, hc'⟩, hh⟩
/-- intervals that follow each other from lo to hi -/
noncomputable def mz_part (hi : Nat) : Nat → List (Nat × Nat) → Bool
  | lo, [] => Nat.beq lo (hi + 1)
  | lo, q :: t => Nat.beq q.1 lo && mz_part hi (q.2 + 1) t
theorem mz_part_ok {hi x : Nat} : ∀ (lo : Nat) (l : List (Nat × Nat)), mz_part hi lo l = true → lo ≤ x → x ≤ hi → ∃ q ∈ l, q.1 ≤ x ∧ x ≤ q.2
  | lo, [], h, h1, h2 => by
    have := mz_bq (show Nat.beq lo (hi + 1) = true from h)
    omega
  | lo, q :: t, h, h1, h2 => by
    obtain ⟨e1, e2⟩ := Bool.and_eq_true_iff.mp (show (Nat.beq q.1 lo && mz_part hi (q.2 + 1) t) = true from h)
    rcases Nat.lt_or_ge q.2 x with z | z
    · obtain ⟨w, hw, hh⟩ := mz_part_ok (q.2 + 1) t e2 z h2
      exact ⟨w, List.mem_cons_of_mem _ hw, hh⟩
    · exact ⟨q, List.mem_cons_self, by rw [mz_bq e1]; exact h1, z⟩
/-- the bounds that hold of every script whose first int's six lowest bits are o -/
noncomputable def mz_base (o : Nat) : List (Nat × Nat) := [(0, 4294967295), (0, 4294967295), (0, 4294967295), (0, 4294967295), (2147483648, 2147549183), (2147483648, 2147549183), (2147483648, 2147549183), (2147483648, 2147549183), (2147483648 + o, 2147483648 + o), (2147483648, 2147483711), (2147483648, 2147483711), (2147483648, 2147483711)]
theorem mz_base_ok {xs : Nat → Int32} {o : Nat} (h : mz_b (mz_rv xs 8) = 2147483648 + o) : mz_hold (mz_rv xs) (mz_base o) := fun i q hq => by
  have full : ∀ i, 0 ≤ mz_b (mz_rv xs i) ∧ mz_b (mz_rv xs i) ≤ 4294967295 := fun i => ⟨Nat.zero_le _, Nat.le_of_lt_succ (mz_b_max _)⟩
  have ch : ∀ i, i < 4 → 2147483648 ≤ mz_b (mz_rv xs (i + 4)) ∧ mz_b (mz_rv xs (i + 4)) ≤ 2147549183 := fun i hi => by rw [mz_rv_4 hi]; exact mz_b_char _
  have lo : ∀ i, i < 4 → 2147483648 ≤ mz_b (mz_rv xs (i + 8)) ∧ mz_b (mz_rv xs (i + 8)) ≤ 2147483711 := fun i hi => by rw [mz_rv_8 hi]; exact mz_b_63 _
  match i, hq with
  | 0, hq => cases hq; exact full 0
  | 1, hq => cases hq; exact full 1
  | 2, hq => cases hq; exact full 2
  | 3, hq => cases hq; exact full 3
  | 4, hq => cases hq; exact ch 0 (by decide)
  | 5, hq => cases hq; exact ch 1 (by decide)
  | 6, hq => cases hq; exact ch 2 (by decide)
  | 7, hq => cases hq; exact ch 3 (by decide)
  | 8, hq => cases hq; exact ⟨Nat.le_of_eq h.symm, Nat.le_of_eq h⟩
  | 9, hq => cases hq; exact lo 1 (by decide)
  | 10, hq => cases hq; exact lo 2 (by decide)
  | 11, hq => cases hq; exact lo 3 (by decide)
  | k + 12, hq => simp [mz_base] at hq
/-- where each variable's values lie -/
noncomputable def mz_span (v : Nat) : Nat × Nat := if v < 4 then (0, 4294967295) else if v < 8 then (2147483648, 2147549183) else (0, 4294967295)
theorem mz_span_ok (xs : Nat → Int32) (v : Nat) : (mz_span v).1 ≤ mz_b (mz_rv xs v) ∧ mz_b (mz_rv xs v) ≤ (mz_span v).2 := by
  unfold mz_span
  by_cases h : v < 4
  · rw [if_pos h]; exact ⟨Nat.zero_le _, Nat.le_of_lt_succ (mz_b_max _)⟩
  · rw [if_neg h]
    by_cases h2 : v < 8
    · rw [if_pos h2, show v = (v - 4) + 4 by omega, mz_rv_4 (by omega)]; exact mz_b_char _
    · rw [if_neg h2]; exact ⟨Nat.zero_le _, Nat.le_of_lt_succ (mz_b_max _)⟩
noncomputable def mz_cuts (al : List (Nat × List (Nat × Nat))) : Bool := al.all fun a => mz_part (mz_span a.1).2 (mz_span a.1).1 a.2
theorem mz_cover {xs : Nat → Int32} {o : Nat} (h : mz_b (mz_rv xs 8) = 2147483648 + o) {al : List (Nat × List (Nat × Nat))} (hc : mz_cuts al = true) : ∃ c ∈ mz_prod al (mz_base o), mz_hold (mz_rv xs) c :=
  mz_prod_ok al _ (mz_base_ok h) fun a ha => mz_part_ok _ _ (List.all_eq_true.mp hc a ha) (mz_span_ok xs a.1).1 (mz_span_ok xs a.1).2
