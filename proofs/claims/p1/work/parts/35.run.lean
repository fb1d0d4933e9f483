/-! THE LAW'S RUNS -/
noncomputable def mz_F0 : Nat → Nat × Nat := fun _ => (0, 4294967295)
/-- a case: the bounds of the first twelve variables -/
noncomputable def mz_Fc (l : List (Nat × Nat)) : Nat → Nat × Nat := List.rec (motive := fun _ => Nat → Nat × Nat) (fun _ => (0, 4294967295)) (fun a _ ih i => Nat.rec (motive := fun _ => Nat × Nat) a (fun j _ => ih j) i) l
/-- so many steps, then k -/
noncomputable def mz_runk (F : Nat → Nat × Nat) (T nL mo : Nat) (hs : List mz_Hr) (call : mz_Ca) (k : mz_Go) (fuel : Nat) : mz_Go :=
  Nat.rec (motive := fun _ => mz_Go) k (fun _ ih pc L st M K n top nc ns => mz_f pc fun pc => (mz_ci (Nat.beq pc 28) (k pc L st M K n top nc ns) (mz_f (mz_te T pc) fun e => mz_sel (Nat.mod e 256) F nL mo hs call ih e pc L st M K n top nc ns))) fuel
/-- the state at the loop's head, as an end -/
noncomputable def mz_capt : mz_Go := fun pc L st M K n top nc ns => (mz_ci (Nat.beq pc 28) (List.rec (motive := fun _ => Option mz_Rt) (some (1, some L, M, K, n, top, nc, ns)) (fun _ _ _ => none) st) (none))
noncomputable def mz_call (F : Nat → Nat × Nat) : mz_Ca := mz_exec F mz_md 237 9
noncomputable def mz_pre (Ls : Nat) : Option mz_Rt := mz_f (mz_p 0 0 (mz_ow 99)) fun L => mz_runk mz_F0 mz_Tl 9 (Nat.add 2 Ls) [] (mz_call mz_F0) mz_capt 1000000 0 L [] 0 0 0 0 0 0
/-- it answers 1, within the room -/
noncomputable def mz_good1 (o : Option mz_Rt) : Bool := Option.rec (motive := fun _ => Bool) false (fun r => (mz_ci (Nat.beq r.1 0) (Option.rec (motive := fun _ => Bool) false (fun w => (mz_ci (Nat.beq w 17) ((mz_ci (Nat.ble r.2.2.2.2.2.2.1 600006) (Nat.ble r.2.2.2.2.2.2.2 7302016) (false))) (false))) r.2.1) (false))) o
noncomputable def mz_case (Ls L M K n top nc ns : Nat) (F : Nat → Nat × Nat) : Bool := mz_good1 (mz_run F mz_Tl 9 (Nat.add 2 Ls) [] (mz_call F) 1000000 28 L [] M K n top nc ns)
noncomputable def mz_grp (Ls : Nat) (cs : List (List (Nat × Nat))) : Bool :=
  Option.rec (motive := fun _ => Bool) false (fun r => (mz_ci (Nat.beq r.1 1) (Option.rec (motive := fun _ => Bool) false (fun L => mz_fB L fun L => mz_fB r.2.2.1 fun M => mz_fB r.2.2.2.1 fun K => mz_fB r.2.2.2.2.1 fun n => mz_fB r.2.2.2.2.2.1 fun top => mz_fB r.2.2.2.2.2.2.1 fun nc => mz_fB r.2.2.2.2.2.2.2 fun ns =>
    List.rec (motive := fun _ => Bool) true (fun c _ ih => (mz_ci (mz_case Ls L M K n top nc ns (mz_Fc c)) (ih) (false))) cs) r.2.1) (false))) (mz_pre Ls)
