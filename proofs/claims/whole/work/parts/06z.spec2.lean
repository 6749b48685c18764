theorem sumN_le (f : Nat → Nat) (b : Nat) (h : ∀ k, f k ≤ b) : ∀ n, sumN f n ≤ n * b
  | 0 => Nat.zero_le _
  | n + 1 => by
    have h1 := sumN_le f b h n
    have h2 := h n
    show sumN f n + f n ≤ (n + 1) * b
    rw [Nat.add_mul, Nat.one_mul]
    omega
theorem toldK_lt (G : Nat → Nat → Int32) (k : Nat) : toldK G k < 7 := by
  have h := sumN_le (toldB G k) 1 (fun j => by unfold toldB; split <;> omega) 6
  unfold toldK
  omega
section GB3
variable {p : Program} {l : Launch} {e : Env} {R : Room} {s : State} {m : MethodId} {args : Array Value} {below : List Frame} {meth : Method} {c : Code} {H : Heap} {locs : List Loc} {cells slots : Nat} {Q : State → Prop} {pc : Nat} {ls : Array Slot} {rest : List Value}
/-- behind a call that only reads, its answer known by a word -/
theorem clRe {E : Int32} {av : Array Value} {st0 : List Value} (hr : va_Run p l e R s m args below meth c H locs cells slots 0 0 (F0 m pc ls st0) rest (vp_Si (fun z => z = E) av) (fun _ => False))
    (kk : W p l e R s m args below meth c H locs cells slots Q (F0 m (pc + 3) ls (.int E :: rest))) : W p l e R s m args below meth c H locs cells slots Q (F0 m pc ls st0) := clR hr (fun r h => by
  have h : r = E := h
  subst h
  exact kk)
end GB3
