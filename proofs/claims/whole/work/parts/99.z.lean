noncomputable def zz_nf {α : Type} (n : Nat) (k : Nat → α) : α := Nat.rec (motive := fun _ => α) (k 0) (fun m _ => k (Nat.succ m)) n
noncomputable def zz_get (h i : Nat) : Nat := Nat.mod (Nat.shiftRight h (Nat.mul 64 i)) 18446744073709551616
noncomputable def zz_set (h i v : Nat) : Nat := Nat.add (Nat.sub h (Nat.shiftLeft (zz_get h i) (Nat.mul 64 i))) (Nat.shiftLeft v (Nat.mul 64 i))
noncomputable def zz_loop (n : Nat) : Nat → Nat := Nat.rec (motive := fun _ => Nat → Nat) (fun l => zz_get l 0) (fun n ih l => zz_nf (zz_get l 0) (fun x => zz_nf (zz_set l 0 (Nat.succ x)) (fun l' => ih l'))) n
set_option maxRecDepth 1000000 in
theorem zz_t : zz_loop 16000 (Nat.shiftLeft 1 64000) = 16000 := by decide +kernel
