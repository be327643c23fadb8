/-! the start of the small machine -/
def mm_h0 (L : Nat) (xs : Nat → Int32) : MH := (fun a => if a = 121 then .inl (7, L, .inl xs) else mm_ext a, 128, 3093034)
def mm_fl : List Cond := flatC (Jvm.Cond.and given_1 narrow_1)
def mm_at : Cond → List Bool → Cond
  | .and a b, p :: r => if p then mm_at b r else mm_at a r
  | c, _ => c
theorem mm_at_ok {args : Array Value} {s : State} : ∀ (p : List Bool) (c : Cond), c.before args s = true → (mm_at c p).before args s = true
  | [], c, h => by cases c <;> exact h
  | p :: r, c, h => by
    cases c with
    | and a b =>
      have ha : a.before args s = true ∧ b.before args s = true := by rw [Cond.before_and, Bool.and_eq_true] at h; exact h
      cases p
      · exact mm_at_ok r a ha.1
      · exact mm_at_ok r b ha.2
    | _ => exact h
theorem mm_g1 {args : Array Value} {s : State} (h : (Jvm.Cond.and given_1 narrow_1).before args s = true) : ∀ (i : Nat) (z : String × Nat × String × List Int32), mm_strs[i]? = some z → (Cond.exactly (.string z.1 z.2.1) "java/lang/String").before args s = true
  | 0, z, hz => by have h9 := Option.some.inj hz; subst h9; exact mm_at_ok [true, false, true, false, true, true, false, false, true, true, true] _ h
  | 1, z, hz => by have h9 := Option.some.inj hz; subst h9; exact mm_at_ok [true, false, true, false, true, true, false, true, true, true, false] _ h
  | 2, z, hz => by have h9 := Option.some.inj hz; subst h9; exact mm_at_ok [true, false, true, true, false, false, false, false, true, false, false] _ h
  | 3, z, hz => by have h9 := Option.some.inj hz; subst h9; exact mm_at_ok [true, false, true, true, false, false, true, false, true, false, false] _ h
  | 4, z, hz => by have h9 := Option.some.inj hz; subst h9; exact mm_at_ok [true, false, true, true, false, false, true, true, true, false, true] _ h
  | 5, z, hz => by have h9 := Option.some.inj hz; subst h9; exact mm_at_ok [true, false, true, true, false, true, false, false, true, true, false] _ h
  | 6, z, hz => by have h9 := Option.some.inj hz; subst h9; exact mm_at_ok [true, false, true, true, false, true, false, true, true, true, false] _ h
  | 7, z, hz => by have h9 := Option.some.inj hz; subst h9; exact mm_at_ok [true, false, true, true, false, true, true, false, true, false, false] _ h
  | 8, z, hz => by have h9 := Option.some.inj hz; subst h9; exact mm_at_ok [true, false, true, true, false, true, true, true, false, true, false] _ h
  | 9, z, hz => by have h9 := Option.some.inj hz; subst h9; exact mm_at_ok [true, false, true, true, true, false, false, false, true, false, false] _ h
  | 10, z, hz => by have h9 := Option.some.inj hz; subst h9; exact mm_at_ok [true, false, true, true, true, false, false, true, true, false, true] _ h
  | 11, z, hz => by have h9 := Option.some.inj hz; subst h9; exact mm_at_ok [true, false, true, true, true, false, true, false, true, false, false] _ h
  | 12, z, hz => by have h9 := Option.some.inj hz; subst h9; exact mm_at_ok [true, false, true, true, true, false, true, true, false, true, true] _ h
  | 13, z, hz => by have h9 := Option.some.inj hz; subst h9; exact mm_at_ok [true, false, true, true, true, true, false, false, true, false, false] _ h
  | 14, z, hz => by have h9 := Option.some.inj hz; subst h9; exact mm_at_ok [true, false, true, true, true, true, false, true, true, false, false] _ h
  | 15, z, hz => by have h9 := Option.some.inj hz; subst h9; exact mm_at_ok [true, false, true, true, true, true, true, false, true, true, false] _ h
  | 16, z, hz => by have h9 := Option.some.inj hz; subst h9; exact mm_at_ok [true, false, true, true, true, true, true, true, true, true, true] _ h
  | 17, z, hz => by have h9 := Option.some.inj hz; subst h9; exact mm_at_ok [true, true, false, false, false, false, false, true, false, false, true] _ h
  | 18, z, hz => by have h9 := Option.some.inj hz; subst h9; exact mm_at_ok [true, true, false, false, false, false, true, false, false, false] _ h
  | 19, z, hz => by have h9 := Option.some.inj hz; subst h9; exact mm_at_ok [true, true, false, false, false, false, true, false, true, true, true] _ h
  | 20, z, hz => by have h9 := Option.some.inj hz; subst h9; exact mm_at_ok [true, true, false, false, false, true, false, false, false, true, true] _ h
  | 21, z, hz => by have h9 := Option.some.inj hz; subst h9; exact mm_at_ok [true, true, false, false, false, true, true, false, false, true, true] _ h
  | 22, z, hz => by have h9 := Option.some.inj hz; subst h9; exact mm_at_ok [true, true, false, false, true, false, false, false, true, false, false] _ h
  | 23, z, hz => by have h9 := Option.some.inj hz; subst h9; exact mm_at_ok [true, true, false, false, true, false, true, false, true, false, false] _ h
  | 24, z, hz => by have h9 := Option.some.inj hz; subst h9; exact mm_at_ok [true, true, false, false, true, true, false, false, true, false, true] _ h
  | 25, z, hz => by have h9 := Option.some.inj hz; subst h9; exact mm_at_ok [true, true, false, false, true, true, true, true, true, false, false] _ h
  | 26, z, hz => by have h9 := Option.some.inj hz; subst h9; exact mm_at_ok [true, true, false, true, false, false, true, false, false, true, true] _ h
  | 27, z, hz => by have h9 := Option.some.inj hz; subst h9; exact mm_at_ok [true, true, false, true, false, true, false, false, true, true, false] _ h
  | 28, z, hz => by have h9 := Option.some.inj hz; subst h9; exact mm_at_ok [true, true, false, true, false, true, true, false, false, false, true] _ h
  | 29, z, hz => by have h9 := Option.some.inj hz; subst h9; exact mm_at_ok [true, true, false, true, true, false, false, true, false, true, false] _ h
  | 30, z, hz => by have h9 := Option.some.inj hz; subst h9; exact mm_at_ok [true, true, false, true, true, true, false, false, false, false] _ h
  | 31, z, hz => by have h9 := Option.some.inj hz; subst h9; exact mm_at_ok [true, true, false, true, true, true, false, true, true, false, false] _ h
  | 32, z, hz => by have h9 := Option.some.inj hz; subst h9; exact mm_at_ok [true, true, false, true, true, true, true, true, true, false, true] _ h
  | 33, z, hz => by have h9 := Option.some.inj hz; subst h9; exact mm_at_ok [true, true, true, false, false, false, false, true, true, true, true] _ h
  | 34, z, hz => by have h9 := Option.some.inj hz; subst h9; exact mm_at_ok [true, true, true, false, false, true, false, true, false, true, true] _ h
  | 35, z, hz => by have h9 := Option.some.inj hz; subst h9; exact mm_at_ok [true, true, true, false, false, true, true, false, true, false, true] _ h
  | 36, z, hz => by have h9 := Option.some.inj hz; subst h9; exact mm_at_ok [true, true, true, false, false, true, true, true, true, true, false] _ h
  | 37, z, hz => by have h9 := Option.some.inj hz; subst h9; exact mm_at_ok [true, true, true, false, true, false, false, true, false, false, false] _ h
  | 38, z, hz => by have h9 := Option.some.inj hz; subst h9; exact mm_at_ok [true, true, true, false, true, false, false, true, true, true, true] _ h
  | 39, z, hz => by have h9 := Option.some.inj hz; subst h9; exact mm_at_ok [true, true, true, false, true, false, true, false, true, true, false] _ h
  | 40, z, hz => by have h9 := Option.some.inj hz; subst h9; exact mm_at_ok [true, true, true, false, true, true, false, false, false, false] _ h
  | 41, z, hz => by have h9 := Option.some.inj hz; subst h9; exact mm_at_ok [true, true, true, false, true, true, false, true, true, false, false] _ h
  | 42, z, hz => by have h9 := Option.some.inj hz; subst h9; exact mm_at_ok [true, true, true, false, true, true, true, false, true, true, false] _ h
  | 43, z, hz => by have h9 := Option.some.inj hz; subst h9; exact mm_at_ok [true, true, true, false, true, true, true, true, true, true, false] _ h
  | 44, z, hz => by have h9 := Option.some.inj hz; subst h9; exact mm_at_ok [true, true, true, true, false, false, false, true, false, false, false] _ h
  | 45, z, hz => by have h9 := Option.some.inj hz; subst h9; exact mm_at_ok [true, true, true, true, false, false, true, false, false, false, true] _ h
  | 46, z, hz => by have h9 := Option.some.inj hz; subst h9; exact mm_at_ok [true, true, true, true, false, false, true, true, false, true, true] _ h
  | 47, z, hz => by have h9 := Option.some.inj hz; subst h9; exact mm_at_ok [true, true, true, true, false, true, false, false, true, true, false] _ h
  | 48, z, hz => by have h9 := Option.some.inj hz; subst h9; exact mm_at_ok [true, true, true, true, false, true, true, false, false, true, false] _ h
  | 49, z, hz => by have h9 := Option.some.inj hz; subst h9; exact mm_at_ok [true, true, true, true, false, true, true, true, false, true, false] _ h
  | 50, z, hz => by have h9 := Option.some.inj hz; subst h9; exact mm_at_ok [true, true, true, true, true, false, false, false, false, true, true] _ h
  | i + 51, z, hz => absurd hz (by rw [List.getElem?_eq_none (by show 51 ≤ i + 51; omega)]; exact fun q => nomatch q)
theorem mm_g2 {args : Array Value} {s : State} (h : (Jvm.Cond.and given_1 narrow_1).before args s = true) : ∀ (i : Nat) (z : String × Nat × String × List Int32), mm_strs[i]? = some z → (Cond.eq (.field (.string z.1 z.2.1) "java/lang/String" "coder" "B") (.int 0)).before args s = true
  | 0, z, hz => by have h9 := Option.some.inj hz; subst h9; exact mm_at_ok [true, false, true, false, true, true, false, true, false, false, false] _ h
  | 1, z, hz => by have h9 := Option.some.inj hz; subst h9; exact mm_at_ok [true, false, true, false, true, true, false, true, true, true, true] _ h
  | 2, z, hz => by have h9 := Option.some.inj hz; subst h9; exact mm_at_ok [true, false, true, true, false, false, false, false, true, false, true] _ h
  | 3, z, hz => by have h9 := Option.some.inj hz; subst h9; exact mm_at_ok [true, false, true, true, false, false, true, false, true, false, true] _ h
  | 4, z, hz => by have h9 := Option.some.inj hz; subst h9; exact mm_at_ok [true, false, true, true, false, false, true, true, true, true, false] _ h
  | 5, z, hz => by have h9 := Option.some.inj hz; subst h9; exact mm_at_ok [true, false, true, true, false, true, false, false, true, true, true] _ h
  | 6, z, hz => by have h9 := Option.some.inj hz; subst h9; exact mm_at_ok [true, false, true, true, false, true, false, true, true, true, true] _ h
  | 7, z, hz => by have h9 := Option.some.inj hz; subst h9; exact mm_at_ok [true, false, true, true, false, true, true, false, true, false, true] _ h
  | 8, z, hz => by have h9 := Option.some.inj hz; subst h9; exact mm_at_ok [true, false, true, true, false, true, true, true, false, true, true] _ h
  | 9, z, hz => by have h9 := Option.some.inj hz; subst h9; exact mm_at_ok [true, false, true, true, true, false, false, false, true, false, true] _ h
  | 10, z, hz => by have h9 := Option.some.inj hz; subst h9; exact mm_at_ok [true, false, true, true, true, false, false, true, true, true, false] _ h
  | 11, z, hz => by have h9 := Option.some.inj hz; subst h9; exact mm_at_ok [true, false, true, true, true, false, true, false, true, false, true] _ h
  | 12, z, hz => by have h9 := Option.some.inj hz; subst h9; exact mm_at_ok [true, false, true, true, true, false, true, true, true, false, false] _ h
  | 13, z, hz => by have h9 := Option.some.inj hz; subst h9; exact mm_at_ok [true, false, true, true, true, true, false, false, true, false, true] _ h
  | 14, z, hz => by have h9 := Option.some.inj hz; subst h9; exact mm_at_ok [true, false, true, true, true, true, false, true, true, false, true] _ h
  | 15, z, hz => by have h9 := Option.some.inj hz; subst h9; exact mm_at_ok [true, false, true, true, true, true, true, false, true, true, true] _ h
  | 16, z, hz => by have h9 := Option.some.inj hz; subst h9; exact mm_at_ok [true, true, false, false, false, false, false, false, false, false] _ h
  | 17, z, hz => by have h9 := Option.some.inj hz; subst h9; exact mm_at_ok [true, true, false, false, false, false, false, true, false, true, false] _ h
  | 18, z, hz => by have h9 := Option.some.inj hz; subst h9; exact mm_at_ok [true, true, false, false, false, false, true, false, false, true, false] _ h
  | 19, z, hz => by have h9 := Option.some.inj hz; subst h9; exact mm_at_ok [true, true, false, false, false, false, true, true, false, false, false] _ h
  | 20, z, hz => by have h9 := Option.some.inj hz; subst h9; exact mm_at_ok [true, true, false, false, false, true, false, false, true, false, false] _ h
  | 21, z, hz => by have h9 := Option.some.inj hz; subst h9; exact mm_at_ok [true, true, false, false, false, true, true, false, true, false, false] _ h
  | 22, z, hz => by have h9 := Option.some.inj hz; subst h9; exact mm_at_ok [true, true, false, false, true, false, false, false, true, false, true] _ h
  | 23, z, hz => by have h9 := Option.some.inj hz; subst h9; exact mm_at_ok [true, true, false, false, true, false, true, false, true, false, true] _ h
  | 24, z, hz => by have h9 := Option.some.inj hz; subst h9; exact mm_at_ok [true, true, false, false, true, true, false, false, true, true, false] _ h
  | 25, z, hz => by have h9 := Option.some.inj hz; subst h9; exact mm_at_ok [true, true, false, false, true, true, true, true, true, false, true] _ h
  | 26, z, hz => by have h9 := Option.some.inj hz; subst h9; exact mm_at_ok [true, true, false, true, false, false, true, false, true, false, false] _ h
  | 27, z, hz => by have h9 := Option.some.inj hz; subst h9; exact mm_at_ok [true, true, false, true, false, true, false, false, true, true, true] _ h
  | 28, z, hz => by have h9 := Option.some.inj hz; subst h9; exact mm_at_ok [true, true, false, true, false, true, true, false, false, true, false] _ h
  | 29, z, hz => by have h9 := Option.some.inj hz; subst h9; exact mm_at_ok [true, true, false, true, true, false, false, true, false, true, true] _ h
  | 30, z, hz => by have h9 := Option.some.inj hz; subst h9; exact mm_at_ok [true, true, false, true, true, true, false, false, false, true, false] _ h
  | 31, z, hz => by have h9 := Option.some.inj hz; subst h9; exact mm_at_ok [true, true, false, true, true, true, false, true, true, false, true] _ h
  | 32, z, hz => by have h9 := Option.some.inj hz; subst h9; exact mm_at_ok [true, true, false, true, true, true, true, true, true, true, false] _ h
  | 33, z, hz => by have h9 := Option.some.inj hz; subst h9; exact mm_at_ok [true, true, true, false, false, false, true, false, false, false] _ h
  | 34, z, hz => by have h9 := Option.some.inj hz; subst h9; exact mm_at_ok [true, true, true, false, false, true, false, true, true, false, false] _ h
  | 35, z, hz => by have h9 := Option.some.inj hz; subst h9; exact mm_at_ok [true, true, true, false, false, true, true, false, true, true, false] _ h
  | 36, z, hz => by have h9 := Option.some.inj hz; subst h9; exact mm_at_ok [true, true, true, false, false, true, true, true, true, true, true] _ h
  | 37, z, hz => by have h9 := Option.some.inj hz; subst h9; exact mm_at_ok [true, true, true, false, true, false, false, true, false, false, true] _ h
  | 38, z, hz => by have h9 := Option.some.inj hz; subst h9; exact mm_at_ok [true, true, true, false, true, false, true, false, false, false, false] _ h
  | 39, z, hz => by have h9 := Option.some.inj hz; subst h9; exact mm_at_ok [true, true, true, false, true, false, true, false, true, true, true] _ h
  | 40, z, hz => by have h9 := Option.some.inj hz; subst h9; exact mm_at_ok [true, true, true, false, true, true, false, false, false, true, false] _ h
  | 41, z, hz => by have h9 := Option.some.inj hz; subst h9; exact mm_at_ok [true, true, true, false, true, true, false, true, true, false, true] _ h
  | 42, z, hz => by have h9 := Option.some.inj hz; subst h9; exact mm_at_ok [true, true, true, false, true, true, true, false, true, true, true] _ h
  | 43, z, hz => by have h9 := Option.some.inj hz; subst h9; exact mm_at_ok [true, true, true, false, true, true, true, true, true, true, true] _ h
  | 44, z, hz => by have h9 := Option.some.inj hz; subst h9; exact mm_at_ok [true, true, true, true, false, false, false, true, false, false, true] _ h
  | 45, z, hz => by have h9 := Option.some.inj hz; subst h9; exact mm_at_ok [true, true, true, true, false, false, true, false, false, true, false] _ h
  | 46, z, hz => by have h9 := Option.some.inj hz; subst h9; exact mm_at_ok [true, true, true, true, false, false, true, true, true, false, false] _ h
  | 47, z, hz => by have h9 := Option.some.inj hz; subst h9; exact mm_at_ok [true, true, true, true, false, true, false, false, true, true, true] _ h
  | 48, z, hz => by have h9 := Option.some.inj hz; subst h9; exact mm_at_ok [true, true, true, true, false, true, true, false, false, true, true] _ h
  | 49, z, hz => by have h9 := Option.some.inj hz; subst h9; exact mm_at_ok [true, true, true, true, false, true, true, true, false, true, true] _ h
  | 50, z, hz => by have h9 := Option.some.inj hz; subst h9; exact mm_at_ok [true, true, true, true, true, false, false, false, true, false, false] _ h
  | i + 51, z, hz => absurd hz (by rw [List.getElem?_eq_none (by show 51 ≤ i + 51; omega)]; exact fun q => nomatch q)
theorem mm_g3 {args : Array Value} {s : State} (h : (Jvm.Cond.and given_1 narrow_1).before args s = true) : ∀ (i : Nat) (z : String × Nat × String × List Int32), mm_strs[i]? = some z → (Cond.arrayOf (.field (.string z.1 z.2.1) "java/lang/String" "value" "[B") .byte).before args s = true
  | 0, z, hz => by have h9 := Option.some.inj hz; subst h9; exact mm_at_ok [true, false, true, false, true, true, false, true, false, false, true] _ h
  | 1, z, hz => by have h9 := Option.some.inj hz; subst h9; exact mm_at_ok [true, false, true, false, true, true, true, false, false, false, false] _ h
  | 2, z, hz => by have h9 := Option.some.inj hz; subst h9; exact mm_at_ok [true, false, true, true, false, false, false, false, true, true, false] _ h
  | 3, z, hz => by have h9 := Option.some.inj hz; subst h9; exact mm_at_ok [true, false, true, true, false, false, true, false, true, true, false] _ h
  | 4, z, hz => by have h9 := Option.some.inj hz; subst h9; exact mm_at_ok [true, false, true, true, false, false, true, true, true, true, true] _ h
  | 5, z, hz => by have h9 := Option.some.inj hz; subst h9; exact mm_at_ok [true, false, true, true, false, true, false, true, false, false, false] _ h
  | 6, z, hz => by have h9 := Option.some.inj hz; subst h9; exact mm_at_ok [true, false, true, true, false, true, true, false, false, false, false] _ h
  | 7, z, hz => by have h9 := Option.some.inj hz; subst h9; exact mm_at_ok [true, false, true, true, false, true, true, false, true, true, false] _ h
  | 8, z, hz => by have h9 := Option.some.inj hz; subst h9; exact mm_at_ok [true, false, true, true, false, true, true, true, true, false, false] _ h
  | 9, z, hz => by have h9 := Option.some.inj hz; subst h9; exact mm_at_ok [true, false, true, true, true, false, false, false, true, true, false] _ h
  | 10, z, hz => by have h9 := Option.some.inj hz; subst h9; exact mm_at_ok [true, false, true, true, true, false, false, true, true, true, true] _ h
  | 11, z, hz => by have h9 := Option.some.inj hz; subst h9; exact mm_at_ok [true, false, true, true, true, false, true, false, true, true, false] _ h
  | 12, z, hz => by have h9 := Option.some.inj hz; subst h9; exact mm_at_ok [true, false, true, true, true, false, true, true, true, false, true] _ h
  | 13, z, hz => by have h9 := Option.some.inj hz; subst h9; exact mm_at_ok [true, false, true, true, true, true, false, false, true, true, false] _ h
  | 14, z, hz => by have h9 := Option.some.inj hz; subst h9; exact mm_at_ok [true, false, true, true, true, true, false, true, true, true, false] _ h
  | 15, z, hz => by have h9 := Option.some.inj hz; subst h9; exact mm_at_ok [true, false, true, true, true, true, true, true, false, false, false] _ h
  | 16, z, hz => by have h9 := Option.some.inj hz; subst h9; exact mm_at_ok [true, true, false, false, false, false, false, false, false, true, false] _ h
  | 17, z, hz => by have h9 := Option.some.inj hz; subst h9; exact mm_at_ok [true, true, false, false, false, false, false, true, false, true, true] _ h
  | 18, z, hz => by have h9 := Option.some.inj hz; subst h9; exact mm_at_ok [true, true, false, false, false, false, true, false, false, true, true] _ h
  | 19, z, hz => by have h9 := Option.some.inj hz; subst h9; exact mm_at_ok [true, true, false, false, false, false, true, true, false, false, true] _ h
  | 20, z, hz => by have h9 := Option.some.inj hz; subst h9; exact mm_at_ok [true, true, false, false, false, true, false, false, true, false, true] _ h
  | 21, z, hz => by have h9 := Option.some.inj hz; subst h9; exact mm_at_ok [true, true, false, false, false, true, true, false, true, false, true] _ h
  | 22, z, hz => by have h9 := Option.some.inj hz; subst h9; exact mm_at_ok [true, true, false, false, true, false, false, false, true, true, false] _ h
  | 23, z, hz => by have h9 := Option.some.inj hz; subst h9; exact mm_at_ok [true, true, false, false, true, false, true, false, true, true, false] _ h
  | 24, z, hz => by have h9 := Option.some.inj hz; subst h9; exact mm_at_ok [true, true, false, false, true, true, false, false, true, true, true] _ h
  | 25, z, hz => by have h9 := Option.some.inj hz; subst h9; exact mm_at_ok [true, true, false, false, true, true, true, true, true, true, false] _ h
  | 26, z, hz => by have h9 := Option.some.inj hz; subst h9; exact mm_at_ok [true, true, false, true, false, false, true, false, true, false, true] _ h
  | 27, z, hz => by have h9 := Option.some.inj hz; subst h9; exact mm_at_ok [true, true, false, true, false, true, false, true, false, false, false] _ h
  | 28, z, hz => by have h9 := Option.some.inj hz; subst h9; exact mm_at_ok [true, true, false, true, false, true, true, false, false, true, true] _ h
  | 29, z, hz => by have h9 := Option.some.inj hz; subst h9; exact mm_at_ok [true, true, false, true, true, false, false, true, true, false, false] _ h
  | 30, z, hz => by have h9 := Option.some.inj hz; subst h9; exact mm_at_ok [true, true, false, true, true, true, false, false, false, true, true] _ h
  | 31, z, hz => by have h9 := Option.some.inj hz; subst h9; exact mm_at_ok [true, true, false, true, true, true, false, true, true, true, false] _ h
  | 32, z, hz => by have h9 := Option.some.inj hz; subst h9; exact mm_at_ok [true, true, false, true, true, true, true, true, true, true, true] _ h
  | 33, z, hz => by have h9 := Option.some.inj hz; subst h9; exact mm_at_ok [true, true, true, false, false, false, true, false, false, true, false] _ h
  | 34, z, hz => by have h9 := Option.some.inj hz; subst h9; exact mm_at_ok [true, true, true, false, false, true, false, true, true, false, true] _ h
  | 35, z, hz => by have h9 := Option.some.inj hz; subst h9; exact mm_at_ok [true, true, true, false, false, true, true, false, true, true, true] _ h
  | 36, z, hz => by have h9 := Option.some.inj hz; subst h9; exact mm_at_ok [true, true, true, false, true, false, false, false, false, false] _ h
  | 37, z, hz => by have h9 := Option.some.inj hz; subst h9; exact mm_at_ok [true, true, true, false, true, false, false, true, false, true, false] _ h
  | 38, z, hz => by have h9 := Option.some.inj hz; subst h9; exact mm_at_ok [true, true, true, false, true, false, true, false, false, false, true] _ h
  | 39, z, hz => by have h9 := Option.some.inj hz; subst h9; exact mm_at_ok [true, true, true, false, true, false, true, true, false, false, false] _ h
  | 40, z, hz => by have h9 := Option.some.inj hz; subst h9; exact mm_at_ok [true, true, true, false, true, true, false, false, false, true, true] _ h
  | 41, z, hz => by have h9 := Option.some.inj hz; subst h9; exact mm_at_ok [true, true, true, false, true, true, false, true, true, true, false] _ h
  | 42, z, hz => by have h9 := Option.some.inj hz; subst h9; exact mm_at_ok [true, true, true, false, true, true, true, true, false, false, false] _ h
  | 43, z, hz => by have h9 := Option.some.inj hz; subst h9; exact mm_at_ok [true, true, true, true, false, false, false, false, false, false] _ h
  | 44, z, hz => by have h9 := Option.some.inj hz; subst h9; exact mm_at_ok [true, true, true, true, false, false, false, true, false, true, false] _ h
  | 45, z, hz => by have h9 := Option.some.inj hz; subst h9; exact mm_at_ok [true, true, true, true, false, false, true, false, false, true, true] _ h
  | 46, z, hz => by have h9 := Option.some.inj hz; subst h9; exact mm_at_ok [true, true, true, true, false, false, true, true, true, false, true] _ h
  | 47, z, hz => by have h9 := Option.some.inj hz; subst h9; exact mm_at_ok [true, true, true, true, false, true, false, true, false, false, false] _ h
  | 48, z, hz => by have h9 := Option.some.inj hz; subst h9; exact mm_at_ok [true, true, true, true, false, true, true, false, true, false, false] _ h
  | 49, z, hz => by have h9 := Option.some.inj hz; subst h9; exact mm_at_ok [true, true, true, true, false, true, true, true, true, false, false] _ h
  | 50, z, hz => by have h9 := Option.some.inj hz; subst h9; exact mm_at_ok [true, true, true, true, true, false, false, false, true, false, true] _ h
  | i + 51, z, hz => absurd hz (by rw [List.getElem?_eq_none (by show 51 ≤ i + 51; omega)]; exact fun q => nomatch q)
theorem mm_g4 {args : Array Value} {s : State} (h : (Jvm.Cond.and given_1 narrow_1).before args s = true) : ∀ (i : Nat) (z : String × Nat × String × List Int32), mm_strs[i]? = some z → (Cond.eq (.length (.field (.string z.1 z.2.1) "java/lang/String" "value" "[B")) (.int (Int32.ofNat z.2.2.2.length))).before args s = true
  | 0, z, hz => by have h9 := Option.some.inj hz; subst h9; exact mm_at_ok [true, false, true, false, true, true, false, true, false, true, false] _ h
  | 1, z, hz => by have h9 := Option.some.inj hz; subst h9; exact mm_at_ok [true, false, true, false, true, true, true, false, false, false, true] _ h
  | 2, z, hz => by have h9 := Option.some.inj hz; subst h9; exact mm_at_ok [true, false, true, true, false, false, false, false, true, true, true] _ h
  | 3, z, hz => by have h9 := Option.some.inj hz; subst h9; exact mm_at_ok [true, false, true, true, false, false, true, false, true, true, true] _ h
  | 4, z, hz => by have h9 := Option.some.inj hz; subst h9; exact mm_at_ok [true, false, true, true, false, true, false, false, false, false] _ h
  | 5, z, hz => by have h9 := Option.some.inj hz; subst h9; exact mm_at_ok [true, false, true, true, false, true, false, true, false, false, true] _ h
  | 6, z, hz => by have h9 := Option.some.inj hz; subst h9; exact mm_at_ok [true, false, true, true, false, true, true, false, false, false, true] _ h
  | 7, z, hz => by have h9 := Option.some.inj hz; subst h9; exact mm_at_ok [true, false, true, true, false, true, true, false, true, true, true] _ h
  | 8, z, hz => by have h9 := Option.some.inj hz; subst h9; exact mm_at_ok [true, false, true, true, false, true, true, true, true, false, true] _ h
  | 9, z, hz => by have h9 := Option.some.inj hz; subst h9; exact mm_at_ok [true, false, true, true, true, false, false, false, true, true, true] _ h
  | 10, z, hz => by have h9 := Option.some.inj hz; subst h9; exact mm_at_ok [true, false, true, true, true, false, true, false, false, false, false] _ h
  | 11, z, hz => by have h9 := Option.some.inj hz; subst h9; exact mm_at_ok [true, false, true, true, true, false, true, false, true, true, true] _ h
  | 12, z, hz => by have h9 := Option.some.inj hz; subst h9; exact mm_at_ok [true, false, true, true, true, false, true, true, true, true, false] _ h
  | 13, z, hz => by have h9 := Option.some.inj hz; subst h9; exact mm_at_ok [true, false, true, true, true, true, false, false, true, true, true] _ h
  | 14, z, hz => by have h9 := Option.some.inj hz; subst h9; exact mm_at_ok [true, false, true, true, true, true, false, true, true, true, true] _ h
  | 15, z, hz => by have h9 := Option.some.inj hz; subst h9; exact mm_at_ok [true, false, true, true, true, true, true, true, false, false, true] _ h
  | 16, z, hz => by have h9 := Option.some.inj hz; subst h9; exact mm_at_ok [true, true, false, false, false, false, false, false, false, true, true] _ h
  | 17, z, hz => by have h9 := Option.some.inj hz; subst h9; exact mm_at_ok [true, true, false, false, false, false, false, true, true, false, false] _ h
  | 18, z, hz => by have h9 := Option.some.inj hz; subst h9; exact mm_at_ok [true, true, false, false, false, false, true, false, true, false, false] _ h
  | 19, z, hz => by have h9 := Option.some.inj hz; subst h9; exact mm_at_ok [true, true, false, false, false, false, true, true, false, true, false] _ h
  | 20, z, hz => by have h9 := Option.some.inj hz; subst h9; exact mm_at_ok [true, true, false, false, false, true, false, false, true, true, false] _ h
  | 21, z, hz => by have h9 := Option.some.inj hz; subst h9; exact mm_at_ok [true, true, false, false, false, true, true, false, true, true, false] _ h
  | 22, z, hz => by have h9 := Option.some.inj hz; subst h9; exact mm_at_ok [true, true, false, false, true, false, false, false, true, true, true] _ h
  | 23, z, hz => by have h9 := Option.some.inj hz; subst h9; exact mm_at_ok [true, true, false, false, true, false, true, false, true, true, true] _ h
  | 24, z, hz => by have h9 := Option.some.inj hz; subst h9; exact mm_at_ok [true, true, false, false, true, true, false, true, false, false, false] _ h
  | 25, z, hz => by have h9 := Option.some.inj hz; subst h9; exact mm_at_ok [true, true, false, false, true, true, true, true, true, true, true] _ h
  | 26, z, hz => by have h9 := Option.some.inj hz; subst h9; exact mm_at_ok [true, true, false, true, false, false, true, false, true, true, false] _ h
  | 27, z, hz => by have h9 := Option.some.inj hz; subst h9; exact mm_at_ok [true, true, false, true, false, true, false, true, false, false, true] _ h
  | 28, z, hz => by have h9 := Option.some.inj hz; subst h9; exact mm_at_ok [true, true, false, true, false, true, true, false, true, false, false] _ h
  | 29, z, hz => by have h9 := Option.some.inj hz; subst h9; exact mm_at_ok [true, true, false, true, true, false, false, true, true, false, true] _ h
  | 30, z, hz => by have h9 := Option.some.inj hz; subst h9; exact mm_at_ok [true, true, false, true, true, true, false, false, true, false, false] _ h
  | 31, z, hz => by have h9 := Option.some.inj hz; subst h9; exact mm_at_ok [true, true, false, true, true, true, false, true, true, true, true] _ h
  | 32, z, hz => by have h9 := Option.some.inj hz; subst h9; exact mm_at_ok [true, true, true, false, false, false, false, false, false, false] _ h
  | 33, z, hz => by have h9 := Option.some.inj hz; subst h9; exact mm_at_ok [true, true, true, false, false, false, true, false, false, true, true] _ h
  | 34, z, hz => by have h9 := Option.some.inj hz; subst h9; exact mm_at_ok [true, true, true, false, false, true, false, true, true, true, false] _ h
  | 35, z, hz => by have h9 := Option.some.inj hz; subst h9; exact mm_at_ok [true, true, true, false, false, true, true, true, false, false, false] _ h
  | 36, z, hz => by have h9 := Option.some.inj hz; subst h9; exact mm_at_ok [true, true, true, false, true, false, false, false, false, true, false] _ h
  | 37, z, hz => by have h9 := Option.some.inj hz; subst h9; exact mm_at_ok [true, true, true, false, true, false, false, true, false, true, true] _ h
  | 38, z, hz => by have h9 := Option.some.inj hz; subst h9; exact mm_at_ok [true, true, true, false, true, false, true, false, false, true, false] _ h
  | 39, z, hz => by have h9 := Option.some.inj hz; subst h9; exact mm_at_ok [true, true, true, false, true, false, true, true, false, false, true] _ h
  | 40, z, hz => by have h9 := Option.some.inj hz; subst h9; exact mm_at_ok [true, true, true, false, true, true, false, false, true, false, false] _ h
  | 41, z, hz => by have h9 := Option.some.inj hz; subst h9; exact mm_at_ok [true, true, true, false, true, true, false, true, true, true, true] _ h
  | 42, z, hz => by have h9 := Option.some.inj hz; subst h9; exact mm_at_ok [true, true, true, false, true, true, true, true, false, false, true] _ h
  | 43, z, hz => by have h9 := Option.some.inj hz; subst h9; exact mm_at_ok [true, true, true, true, false, false, false, false, false, true, false] _ h
  | 44, z, hz => by have h9 := Option.some.inj hz; subst h9; exact mm_at_ok [true, true, true, true, false, false, false, true, false, true, true] _ h
  | 45, z, hz => by have h9 := Option.some.inj hz; subst h9; exact mm_at_ok [true, true, true, true, false, false, true, false, true, false, false] _ h
  | 46, z, hz => by have h9 := Option.some.inj hz; subst h9; exact mm_at_ok [true, true, true, true, false, false, true, true, true, true, false] _ h
  | 47, z, hz => by have h9 := Option.some.inj hz; subst h9; exact mm_at_ok [true, true, true, true, false, true, false, true, false, false, true] _ h
  | 48, z, hz => by have h9 := Option.some.inj hz; subst h9; exact mm_at_ok [true, true, true, true, false, true, true, false, true, false, true] _ h
  | 49, z, hz => by have h9 := Option.some.inj hz; subst h9; exact mm_at_ok [true, true, true, true, false, true, true, true, true, false, true] _ h
  | 50, z, hz => by have h9 := Option.some.inj hz; subst h9; exact mm_at_ok [true, true, true, true, true, false, false, false, true, true, false] _ h
  | i + 51, z, hz => absurd hz (by rw [List.getElem?_eq_none (by show 51 ≤ i + 51; omega)]; exact fun q => nomatch q)
theorem mm_g5 {args : Array Value} {s : State} (h : (Jvm.Cond.and given_1 narrow_1).before args s = true) : ∀ (i : Nat) (z : String × Nat × String × List Int32), mm_strs[i]? = some z → ∀ j : Nat, j < z.2.2.2.length → (Cond.eq (.elem (.field (.string z.1 z.2.1) "java/lang/String" "value" "[B") (.int (Int32.ofNat j))) (.int (z.2.2.2.getD j 0))).before args s = true
  | 0, z, hz => by
    have h9 := Option.some.inj hz; subst h9
    intro j hj
    have hj : j < 3 := hj
    match j, hj with
    | 0, _ => exact mm_at_ok [true, false, true, false, true, true, false, true, false, true, true] _ h
    | 1, _ => exact mm_at_ok [true, false, true, false, true, true, false, true, true, false, false] _ h
    | 2, _ => exact mm_at_ok [true, false, true, false, true, true, false, true, true, false, true] _ h
    | j + 3, hj => omega
  | 1, z, hz => by
    have h9 := Option.some.inj hz; subst h9
    intro j hj
    have hj : j < 17 := hj
    match j, hj with
    | 0, _ => exact mm_at_ok [true, false, true, false, true, true, true, false, false, true, false] _ h
    | 1, _ => exact mm_at_ok [true, false, true, false, true, true, true, false, false, true, true] _ h
    | 2, _ => exact mm_at_ok [true, false, true, false, true, true, true, false, true, false, false] _ h
    | 3, _ => exact mm_at_ok [true, false, true, false, true, true, true, false, true, false, true] _ h
    | 4, _ => exact mm_at_ok [true, false, true, false, true, true, true, false, true, true, false] _ h
    | 5, _ => exact mm_at_ok [true, false, true, false, true, true, true, false, true, true, true] _ h
    | 6, _ => exact mm_at_ok [true, false, true, false, true, true, true, true, false, false, false] _ h
    | 7, _ => exact mm_at_ok [true, false, true, false, true, true, true, true, false, false, true] _ h
    | 8, _ => exact mm_at_ok [true, false, true, false, true, true, true, true, false, true, false] _ h
    | 9, _ => exact mm_at_ok [true, false, true, false, true, true, true, true, false, true, true] _ h
    | 10, _ => exact mm_at_ok [true, false, true, false, true, true, true, true, true, false, false] _ h
    | 11, _ => exact mm_at_ok [true, false, true, false, true, true, true, true, true, false, true] _ h
    | 12, _ => exact mm_at_ok [true, false, true, false, true, true, true, true, true, true, false] _ h
    | 13, _ => exact mm_at_ok [true, false, true, false, true, true, true, true, true, true, true] _ h
    | 14, _ => exact mm_at_ok [true, false, true, true, false, false, false, false, false, false] _ h
    | 15, _ => exact mm_at_ok [true, false, true, true, false, false, false, false, false, true, false] _ h
    | 16, _ => exact mm_at_ok [true, false, true, true, false, false, false, false, false, true, true] _ h
    | j + 17, hj => omega
  | 2, z, hz => by
    have h9 := Option.some.inj hz; subst h9
    intro j hj
    have hj : j < 12 := hj
    match j, hj with
    | 0, _ => exact mm_at_ok [true, false, true, true, false, false, false, true, false, false, false] _ h
    | 1, _ => exact mm_at_ok [true, false, true, true, false, false, false, true, false, false, true] _ h
    | 2, _ => exact mm_at_ok [true, false, true, true, false, false, false, true, false, true, false] _ h
    | 3, _ => exact mm_at_ok [true, false, true, true, false, false, false, true, false, true, true] _ h
    | 4, _ => exact mm_at_ok [true, false, true, true, false, false, false, true, true, false, false] _ h
    | 5, _ => exact mm_at_ok [true, false, true, true, false, false, false, true, true, false, true] _ h
    | 6, _ => exact mm_at_ok [true, false, true, true, false, false, false, true, true, true, false] _ h
    | 7, _ => exact mm_at_ok [true, false, true, true, false, false, false, true, true, true, true] _ h
    | 8, _ => exact mm_at_ok [true, false, true, true, false, false, true, false, false, false, false] _ h
    | 9, _ => exact mm_at_ok [true, false, true, true, false, false, true, false, false, false, true] _ h
    | 10, _ => exact mm_at_ok [true, false, true, true, false, false, true, false, false, true, false] _ h
    | 11, _ => exact mm_at_ok [true, false, true, true, false, false, true, false, false, true, true] _ h
    | j + 12, hj => omega
  | 3, z, hz => by
    have h9 := Option.some.inj hz; subst h9
    intro j hj
    have hj : j < 5 := hj
    match j, hj with
    | 0, _ => exact mm_at_ok [true, false, true, true, false, false, true, true, false, false, false] _ h
    | 1, _ => exact mm_at_ok [true, false, true, true, false, false, true, true, false, false, true] _ h
    | 2, _ => exact mm_at_ok [true, false, true, true, false, false, true, true, false, true, false] _ h
    | 3, _ => exact mm_at_ok [true, false, true, true, false, false, true, true, false, true, true] _ h
    | 4, _ => exact mm_at_ok [true, false, true, true, false, false, true, true, true, false, false] _ h
    | j + 5, hj => omega
  | 4, z, hz => by
    have h9 := Option.some.inj hz; subst h9
    intro j hj
    have hj : j < 4 := hj
    match j, hj with
    | 0, _ => exact mm_at_ok [true, false, true, true, false, true, false, false, false, true, false] _ h
    | 1, _ => exact mm_at_ok [true, false, true, true, false, true, false, false, false, true, true] _ h
    | 2, _ => exact mm_at_ok [true, false, true, true, false, true, false, false, true, false, false] _ h
    | 3, _ => exact mm_at_ok [true, false, true, true, false, true, false, false, true, false, true] _ h
    | j + 4, hj => omega
  | 5, z, hz => by
    have h9 := Option.some.inj hz; subst h9
    intro j hj
    have hj : j < 4 := hj
    match j, hj with
    | 0, _ => exact mm_at_ok [true, false, true, true, false, true, false, true, false, true, false] _ h
    | 1, _ => exact mm_at_ok [true, false, true, true, false, true, false, true, false, true, true] _ h
    | 2, _ => exact mm_at_ok [true, false, true, true, false, true, false, true, true, false, false] _ h
    | 3, _ => exact mm_at_ok [true, false, true, true, false, true, false, true, true, false, true] _ h
    | j + 4, hj => omega
  | 6, z, hz => by
    have h9 := Option.some.inj hz; subst h9
    intro j hj
    have hj : j < 2 := hj
    match j, hj with
    | 0, _ => exact mm_at_ok [true, false, true, true, false, true, true, false, false, true, false] _ h
    | 1, _ => exact mm_at_ok [true, false, true, true, false, true, true, false, false, true, true] _ h
    | j + 2, hj => omega
  | 7, z, hz => by
    have h9 := Option.some.inj hz; subst h9
    intro j hj
    have hj : j < 2 := hj
    match j, hj with
    | 0, _ => exact mm_at_ok [true, false, true, true, false, true, true, true, false, false, false] _ h
    | 1, _ => exact mm_at_ok [true, false, true, true, false, true, true, true, false, false, true] _ h
    | j + 2, hj => omega
  | 8, z, hz => by
    have h9 := Option.some.inj hz; subst h9
    intro j hj
    have hj : j < 5 := hj
    match j, hj with
    | 0, _ => exact mm_at_ok [true, false, true, true, false, true, true, true, true, true, false] _ h
    | 1, _ => exact mm_at_ok [true, false, true, true, false, true, true, true, true, true, true] _ h
    | 2, _ => exact mm_at_ok [true, false, true, true, true, false, false, false, false, false] _ h
    | 3, _ => exact mm_at_ok [true, false, true, true, true, false, false, false, false, true, false] _ h
    | 4, _ => exact mm_at_ok [true, false, true, true, true, false, false, false, false, true, true] _ h
    | j + 5, hj => omega
  | 9, z, hz => by
    have h9 := Option.some.inj hz; subst h9
    intro j hj
    have hj : j < 5 := hj
    match j, hj with
    | 0, _ => exact mm_at_ok [true, false, true, true, true, false, false, true, false, false, false] _ h
    | 1, _ => exact mm_at_ok [true, false, true, true, true, false, false, true, false, false, true] _ h
    | 2, _ => exact mm_at_ok [true, false, true, true, true, false, false, true, false, true, false] _ h
    | 3, _ => exact mm_at_ok [true, false, true, true, true, false, false, true, false, true, true] _ h
    | 4, _ => exact mm_at_ok [true, false, true, true, true, false, false, true, true, false, false] _ h
    | j + 5, hj => omega
  | 10, z, hz => by
    have h9 := Option.some.inj hz; subst h9
    intro j hj
    have hj : j < 3 := hj
    match j, hj with
    | 0, _ => exact mm_at_ok [true, false, true, true, true, false, true, false, false, false, true] _ h
    | 1, _ => exact mm_at_ok [true, false, true, true, true, false, true, false, false, true, false] _ h
    | 2, _ => exact mm_at_ok [true, false, true, true, true, false, true, false, false, true, true] _ h
    | j + 3, hj => omega
  | 11, z, hz => by
    have h9 := Option.some.inj hz; subst h9
    intro j hj
    have hj : j < 3 := hj
    match j, hj with
    | 0, _ => exact mm_at_ok [true, false, true, true, true, false, true, true, false, false, false] _ h
    | 1, _ => exact mm_at_ok [true, false, true, true, true, false, true, true, false, false, true] _ h
    | 2, _ => exact mm_at_ok [true, false, true, true, true, false, true, true, false, true, false] _ h
    | j + 3, hj => omega
  | 12, z, hz => by
    have h9 := Option.some.inj hz; subst h9
    intro j hj
    have hj : j < 4 := hj
    match j, hj with
    | 0, _ => exact mm_at_ok [true, false, true, true, true, false, true, true, true, true, true] _ h
    | 1, _ => exact mm_at_ok [true, false, true, true, true, true, false, false, false, false] _ h
    | 2, _ => exact mm_at_ok [true, false, true, true, true, true, false, false, false, true, false] _ h
    | 3, _ => exact mm_at_ok [true, false, true, true, true, true, false, false, false, true, true] _ h
    | j + 4, hj => omega
  | 13, z, hz => by
    have h9 := Option.some.inj hz; subst h9
    intro j hj
    have hj : j < 4 := hj
    match j, hj with
    | 0, _ => exact mm_at_ok [true, false, true, true, true, true, false, true, false, false, false] _ h
    | 1, _ => exact mm_at_ok [true, false, true, true, true, true, false, true, false, false, true] _ h
    | 2, _ => exact mm_at_ok [true, false, true, true, true, true, false, true, false, true, false] _ h
    | 3, _ => exact mm_at_ok [true, false, true, true, true, true, false, true, false, true, true] _ h
    | j + 4, hj => omega
  | 14, z, hz => by
    have h9 := Option.some.inj hz; subst h9
    intro j hj
    have hj : j < 6 := hj
    match j, hj with
    | 0, _ => exact mm_at_ok [true, false, true, true, true, true, true, false, false, false, false] _ h
    | 1, _ => exact mm_at_ok [true, false, true, true, true, true, true, false, false, false, true] _ h
    | 2, _ => exact mm_at_ok [true, false, true, true, true, true, true, false, false, true, false] _ h
    | 3, _ => exact mm_at_ok [true, false, true, true, true, true, true, false, false, true, true] _ h
    | 4, _ => exact mm_at_ok [true, false, true, true, true, true, true, false, true, false, false] _ h
    | 5, _ => exact mm_at_ok [true, false, true, true, true, true, true, false, true, false, true] _ h
    | j + 6, hj => omega
  | 15, z, hz => by
    have h9 := Option.some.inj hz; subst h9
    intro j hj
    have hj : j < 5 := hj
    match j, hj with
    | 0, _ => exact mm_at_ok [true, false, true, true, true, true, true, true, false, true, false] _ h
    | 1, _ => exact mm_at_ok [true, false, true, true, true, true, true, true, false, true, true] _ h
    | 2, _ => exact mm_at_ok [true, false, true, true, true, true, true, true, true, false, false] _ h
    | 3, _ => exact mm_at_ok [true, false, true, true, true, true, true, true, true, false, true] _ h
    | 4, _ => exact mm_at_ok [true, false, true, true, true, true, true, true, true, true, false] _ h
    | j + 5, hj => omega
  | 16, z, hz => by
    have h9 := Option.some.inj hz; subst h9
    intro j hj
    have hj : j < 5 := hj
    match j, hj with
    | 0, _ => exact mm_at_ok [true, true, false, false, false, false, false, false, true, false, false] _ h
    | 1, _ => exact mm_at_ok [true, true, false, false, false, false, false, false, true, false, true] _ h
    | 2, _ => exact mm_at_ok [true, true, false, false, false, false, false, false, true, true, false] _ h
    | 3, _ => exact mm_at_ok [true, true, false, false, false, false, false, false, true, true, true] _ h
    | 4, _ => exact mm_at_ok [true, true, false, false, false, false, false, true, false, false, false] _ h
    | j + 5, hj => omega
  | 17, z, hz => by
    have h9 := Option.some.inj hz; subst h9
    intro j hj
    have hj : j < 3 := hj
    match j, hj with
    | 0, _ => exact mm_at_ok [true, true, false, false, false, false, false, true, true, false, true] _ h
    | 1, _ => exact mm_at_ok [true, true, false, false, false, false, false, true, true, true, false] _ h
    | 2, _ => exact mm_at_ok [true, true, false, false, false, false, false, true, true, true, true] _ h
    | j + 3, hj => omega
  | 18, z, hz => by
    have h9 := Option.some.inj hz; subst h9
    intro j hj
    have hj : j < 2 := hj
    match j, hj with
    | 0, _ => exact mm_at_ok [true, true, false, false, false, false, true, false, true, false, true] _ h
    | 1, _ => exact mm_at_ok [true, true, false, false, false, false, true, false, true, true, false] _ h
    | j + 2, hj => omega
  | 19, z, hz => by
    have h9 := Option.some.inj hz; subst h9
    intro j hj
    have hj : j < 7 := hj
    match j, hj with
    | 0, _ => exact mm_at_ok [true, true, false, false, false, false, true, true, false, true, true] _ h
    | 1, _ => exact mm_at_ok [true, true, false, false, false, false, true, true, true, false, false] _ h
    | 2, _ => exact mm_at_ok [true, true, false, false, false, false, true, true, true, false, true] _ h
    | 3, _ => exact mm_at_ok [true, true, false, false, false, false, true, true, true, true, false] _ h
    | 4, _ => exact mm_at_ok [true, true, false, false, false, false, true, true, true, true, true] _ h
    | 5, _ => exact mm_at_ok [true, true, false, false, false, true, false, false, false, false] _ h
    | 6, _ => exact mm_at_ok [true, true, false, false, false, true, false, false, false, true, false] _ h
    | j + 7, hj => omega
  | 20, z, hz => by
    have h9 := Option.some.inj hz; subst h9
    intro j hj
    have hj : j < 12 := hj
    match j, hj with
    | 0, _ => exact mm_at_ok [true, true, false, false, false, true, false, false, true, true, true] _ h
    | 1, _ => exact mm_at_ok [true, true, false, false, false, true, false, true, false, false, false] _ h
    | 2, _ => exact mm_at_ok [true, true, false, false, false, true, false, true, false, false, true] _ h
    | 3, _ => exact mm_at_ok [true, true, false, false, false, true, false, true, false, true, false] _ h
    | 4, _ => exact mm_at_ok [true, true, false, false, false, true, false, true, false, true, true] _ h
    | 5, _ => exact mm_at_ok [true, true, false, false, false, true, false, true, true, false, false] _ h
    | 6, _ => exact mm_at_ok [true, true, false, false, false, true, false, true, true, false, true] _ h
    | 7, _ => exact mm_at_ok [true, true, false, false, false, true, false, true, true, true, false] _ h
    | 8, _ => exact mm_at_ok [true, true, false, false, false, true, false, true, true, true, true] _ h
    | 9, _ => exact mm_at_ok [true, true, false, false, false, true, true, false, false, false, false] _ h
    | 10, _ => exact mm_at_ok [true, true, false, false, false, true, true, false, false, false, true] _ h
    | 11, _ => exact mm_at_ok [true, true, false, false, false, true, true, false, false, true, false] _ h
    | j + 12, hj => omega
  | 21, z, hz => by
    have h9 := Option.some.inj hz; subst h9
    intro j hj
    have hj : j < 12 := hj
    match j, hj with
    | 0, _ => exact mm_at_ok [true, true, false, false, false, true, true, false, true, true, true] _ h
    | 1, _ => exact mm_at_ok [true, true, false, false, false, true, true, true, false, false, false] _ h
    | 2, _ => exact mm_at_ok [true, true, false, false, false, true, true, true, false, false, true] _ h
    | 3, _ => exact mm_at_ok [true, true, false, false, false, true, true, true, false, true, false] _ h
    | 4, _ => exact mm_at_ok [true, true, false, false, false, true, true, true, false, true, true] _ h
    | 5, _ => exact mm_at_ok [true, true, false, false, false, true, true, true, true, false, false] _ h
    | 6, _ => exact mm_at_ok [true, true, false, false, false, true, true, true, true, false, true] _ h
    | 7, _ => exact mm_at_ok [true, true, false, false, false, true, true, true, true, true, false] _ h
    | 8, _ => exact mm_at_ok [true, true, false, false, false, true, true, true, true, true, true] _ h
    | 9, _ => exact mm_at_ok [true, true, false, false, true, false, false, false, false, false] _ h
    | 10, _ => exact mm_at_ok [true, true, false, false, true, false, false, false, false, true, false] _ h
    | 11, _ => exact mm_at_ok [true, true, false, false, true, false, false, false, false, true, true] _ h
    | j + 12, hj => omega
  | 22, z, hz => by
    have h9 := Option.some.inj hz; subst h9
    intro j hj
    have hj : j < 12 := hj
    match j, hj with
    | 0, _ => exact mm_at_ok [true, true, false, false, true, false, false, true, false, false, false] _ h
    | 1, _ => exact mm_at_ok [true, true, false, false, true, false, false, true, false, false, true] _ h
    | 2, _ => exact mm_at_ok [true, true, false, false, true, false, false, true, false, true, false] _ h
    | 3, _ => exact mm_at_ok [true, true, false, false, true, false, false, true, false, true, true] _ h
    | 4, _ => exact mm_at_ok [true, true, false, false, true, false, false, true, true, false, false] _ h
    | 5, _ => exact mm_at_ok [true, true, false, false, true, false, false, true, true, false, true] _ h
    | 6, _ => exact mm_at_ok [true, true, false, false, true, false, false, true, true, true, false] _ h
    | 7, _ => exact mm_at_ok [true, true, false, false, true, false, false, true, true, true, true] _ h
    | 8, _ => exact mm_at_ok [true, true, false, false, true, false, true, false, false, false, false] _ h
    | 9, _ => exact mm_at_ok [true, true, false, false, true, false, true, false, false, false, true] _ h
    | 10, _ => exact mm_at_ok [true, true, false, false, true, false, true, false, false, true, false] _ h
    | 11, _ => exact mm_at_ok [true, true, false, false, true, false, true, false, false, true, true] _ h
    | j + 12, hj => omega
  | 23, z, hz => by
    have h9 := Option.some.inj hz; subst h9
    intro j hj
    have hj : j < 12 := hj
    match j, hj with
    | 0, _ => exact mm_at_ok [true, true, false, false, true, false, true, true, false, false, false] _ h
    | 1, _ => exact mm_at_ok [true, true, false, false, true, false, true, true, false, false, true] _ h
    | 2, _ => exact mm_at_ok [true, true, false, false, true, false, true, true, false, true, false] _ h
    | 3, _ => exact mm_at_ok [true, true, false, false, true, false, true, true, false, true, true] _ h
    | 4, _ => exact mm_at_ok [true, true, false, false, true, false, true, true, true, false, false] _ h
    | 5, _ => exact mm_at_ok [true, true, false, false, true, false, true, true, true, false, true] _ h
    | 6, _ => exact mm_at_ok [true, true, false, false, true, false, true, true, true, true, false] _ h
    | 7, _ => exact mm_at_ok [true, true, false, false, true, false, true, true, true, true, true] _ h
    | 8, _ => exact mm_at_ok [true, true, false, false, true, true, false, false, false, false] _ h
    | 9, _ => exact mm_at_ok [true, true, false, false, true, true, false, false, false, true, false] _ h
    | 10, _ => exact mm_at_ok [true, true, false, false, true, true, false, false, false, true, true] _ h
    | 11, _ => exact mm_at_ok [true, true, false, false, true, true, false, false, true, false, false] _ h
    | j + 12, hj => omega
  | 24, z, hz => by
    have h9 := Option.some.inj hz; subst h9
    intro j hj
    have hj : j < 19 := hj
    match j, hj with
    | 0, _ => exact mm_at_ok [true, true, false, false, true, true, false, true, false, false, true] _ h
    | 1, _ => exact mm_at_ok [true, true, false, false, true, true, false, true, false, true, false] _ h
    | 2, _ => exact mm_at_ok [true, true, false, false, true, true, false, true, false, true, true] _ h
    | 3, _ => exact mm_at_ok [true, true, false, false, true, true, false, true, true, false, false] _ h
    | 4, _ => exact mm_at_ok [true, true, false, false, true, true, false, true, true, false, true] _ h
    | 5, _ => exact mm_at_ok [true, true, false, false, true, true, false, true, true, true, false] _ h
    | 6, _ => exact mm_at_ok [true, true, false, false, true, true, false, true, true, true, true] _ h
    | 7, _ => exact mm_at_ok [true, true, false, false, true, true, true, false, false, false, false] _ h
    | 8, _ => exact mm_at_ok [true, true, false, false, true, true, true, false, false, false, true] _ h
    | 9, _ => exact mm_at_ok [true, true, false, false, true, true, true, false, false, true, false] _ h
    | 10, _ => exact mm_at_ok [true, true, false, false, true, true, true, false, false, true, true] _ h
    | 11, _ => exact mm_at_ok [true, true, false, false, true, true, true, false, true, false, false] _ h
    | 12, _ => exact mm_at_ok [true, true, false, false, true, true, true, false, true, false, true] _ h
    | 13, _ => exact mm_at_ok [true, true, false, false, true, true, true, false, true, true, false] _ h
    | 14, _ => exact mm_at_ok [true, true, false, false, true, true, true, false, true, true, true] _ h
    | 15, _ => exact mm_at_ok [true, true, false, false, true, true, true, true, false, false, false] _ h
    | 16, _ => exact mm_at_ok [true, true, false, false, true, true, true, true, false, false, true] _ h
    | 17, _ => exact mm_at_ok [true, true, false, false, true, true, true, true, false, true, false] _ h
    | 18, _ => exact mm_at_ok [true, true, false, false, true, true, true, true, false, true, true] _ h
    | j + 19, hj => omega
  | 25, z, hz => by
    have h9 := Option.some.inj hz; subst h9
    intro j hj
    have hj : j < 17 := hj
    match j, hj with
    | 0, _ => exact mm_at_ok [true, true, false, true, false, false, false, false, false, false] _ h
    | 1, _ => exact mm_at_ok [true, true, false, true, false, false, false, false, false, true, false] _ h
    | 2, _ => exact mm_at_ok [true, true, false, true, false, false, false, false, false, true, true] _ h
    | 3, _ => exact mm_at_ok [true, true, false, true, false, false, false, false, true, false, false] _ h
    | 4, _ => exact mm_at_ok [true, true, false, true, false, false, false, false, true, false, true] _ h
    | 5, _ => exact mm_at_ok [true, true, false, true, false, false, false, false, true, true, false] _ h
    | 6, _ => exact mm_at_ok [true, true, false, true, false, false, false, false, true, true, true] _ h
    | 7, _ => exact mm_at_ok [true, true, false, true, false, false, false, true, false, false, false] _ h
    | 8, _ => exact mm_at_ok [true, true, false, true, false, false, false, true, false, false, true] _ h
    | 9, _ => exact mm_at_ok [true, true, false, true, false, false, false, true, false, true, false] _ h
    | 10, _ => exact mm_at_ok [true, true, false, true, false, false, false, true, false, true, true] _ h
    | 11, _ => exact mm_at_ok [true, true, false, true, false, false, false, true, true, false, false] _ h
    | 12, _ => exact mm_at_ok [true, true, false, true, false, false, false, true, true, false, true] _ h
    | 13, _ => exact mm_at_ok [true, true, false, true, false, false, false, true, true, true, false] _ h
    | 14, _ => exact mm_at_ok [true, true, false, true, false, false, false, true, true, true, true] _ h
    | 15, _ => exact mm_at_ok [true, true, false, true, false, false, true, false, false, false] _ h
    | 16, _ => exact mm_at_ok [true, true, false, true, false, false, true, false, false, true, false] _ h
    | j + 17, hj => omega
  | 26, z, hz => by
    have h9 := Option.some.inj hz; subst h9
    intro j hj
    have hj : j < 14 := hj
    match j, hj with
    | 0, _ => exact mm_at_ok [true, true, false, true, false, false, true, false, true, true, true] _ h
    | 1, _ => exact mm_at_ok [true, true, false, true, false, false, true, true, false, false, false] _ h
    | 2, _ => exact mm_at_ok [true, true, false, true, false, false, true, true, false, false, true] _ h
    | 3, _ => exact mm_at_ok [true, true, false, true, false, false, true, true, false, true, false] _ h
    | 4, _ => exact mm_at_ok [true, true, false, true, false, false, true, true, false, true, true] _ h
    | 5, _ => exact mm_at_ok [true, true, false, true, false, false, true, true, true, false, false] _ h
    | 6, _ => exact mm_at_ok [true, true, false, true, false, false, true, true, true, false, true] _ h
    | 7, _ => exact mm_at_ok [true, true, false, true, false, false, true, true, true, true, false] _ h
    | 8, _ => exact mm_at_ok [true, true, false, true, false, false, true, true, true, true, true] _ h
    | 9, _ => exact mm_at_ok [true, true, false, true, false, true, false, false, false, false] _ h
    | 10, _ => exact mm_at_ok [true, true, false, true, false, true, false, false, false, true, false] _ h
    | 11, _ => exact mm_at_ok [true, true, false, true, false, true, false, false, false, true, true] _ h
    | 12, _ => exact mm_at_ok [true, true, false, true, false, true, false, false, true, false, false] _ h
    | 13, _ => exact mm_at_ok [true, true, false, true, false, true, false, false, true, false, true] _ h
    | j + 14, hj => omega
  | 27, z, hz => by
    have h9 := Option.some.inj hz; subst h9
    intro j hj
    have hj : j < 7 := hj
    match j, hj with
    | 0, _ => exact mm_at_ok [true, true, false, true, false, true, false, true, false, true, false] _ h
    | 1, _ => exact mm_at_ok [true, true, false, true, false, true, false, true, false, true, true] _ h
    | 2, _ => exact mm_at_ok [true, true, false, true, false, true, false, true, true, false, false] _ h
    | 3, _ => exact mm_at_ok [true, true, false, true, false, true, false, true, true, false, true] _ h
    | 4, _ => exact mm_at_ok [true, true, false, true, false, true, false, true, true, true, false] _ h
    | 5, _ => exact mm_at_ok [true, true, false, true, false, true, false, true, true, true, true] _ h
    | 6, _ => exact mm_at_ok [true, true, false, true, false, true, true, false, false, false, false] _ h
    | j + 7, hj => omega
  | 28, z, hz => by
    have h9 := Option.some.inj hz; subst h9
    intro j hj
    have hj : j < 20 := hj
    match j, hj with
    | 0, _ => exact mm_at_ok [true, true, false, true, false, true, true, false, true, false, true] _ h
    | 1, _ => exact mm_at_ok [true, true, false, true, false, true, true, false, true, true, false] _ h
    | 2, _ => exact mm_at_ok [true, true, false, true, false, true, true, false, true, true, true] _ h
    | 3, _ => exact mm_at_ok [true, true, false, true, false, true, true, true, false, false, false] _ h
    | 4, _ => exact mm_at_ok [true, true, false, true, false, true, true, true, false, false, true] _ h
    | 5, _ => exact mm_at_ok [true, true, false, true, false, true, true, true, false, true, false] _ h
    | 6, _ => exact mm_at_ok [true, true, false, true, false, true, true, true, false, true, true] _ h
    | 7, _ => exact mm_at_ok [true, true, false, true, false, true, true, true, true, false, false] _ h
    | 8, _ => exact mm_at_ok [true, true, false, true, false, true, true, true, true, false, true] _ h
    | 9, _ => exact mm_at_ok [true, true, false, true, false, true, true, true, true, true, false] _ h
    | 10, _ => exact mm_at_ok [true, true, false, true, false, true, true, true, true, true, true] _ h
    | 11, _ => exact mm_at_ok [true, true, false, true, true, false, false, false, false, false] _ h
    | 12, _ => exact mm_at_ok [true, true, false, true, true, false, false, false, false, true, false] _ h
    | 13, _ => exact mm_at_ok [true, true, false, true, true, false, false, false, false, true, true] _ h
    | 14, _ => exact mm_at_ok [true, true, false, true, true, false, false, false, true, false, false] _ h
    | 15, _ => exact mm_at_ok [true, true, false, true, true, false, false, false, true, false, true] _ h
    | 16, _ => exact mm_at_ok [true, true, false, true, true, false, false, false, true, true, false] _ h
    | 17, _ => exact mm_at_ok [true, true, false, true, true, false, false, false, true, true, true] _ h
    | 18, _ => exact mm_at_ok [true, true, false, true, true, false, false, true, false, false, false] _ h
    | 19, _ => exact mm_at_ok [true, true, false, true, true, false, false, true, false, false, true] _ h
    | j + 20, hj => omega
  | 29, z, hz => by
    have h9 := Option.some.inj hz; subst h9
    intro j hj
    have hj : j < 18 := hj
    match j, hj with
    | 0, _ => exact mm_at_ok [true, true, false, true, true, false, false, true, true, true, false] _ h
    | 1, _ => exact mm_at_ok [true, true, false, true, true, false, false, true, true, true, true] _ h
    | 2, _ => exact mm_at_ok [true, true, false, true, true, false, true, false, false, false, false] _ h
    | 3, _ => exact mm_at_ok [true, true, false, true, true, false, true, false, false, false, true] _ h
    | 4, _ => exact mm_at_ok [true, true, false, true, true, false, true, false, false, true, false] _ h
    | 5, _ => exact mm_at_ok [true, true, false, true, true, false, true, false, false, true, true] _ h
    | 6, _ => exact mm_at_ok [true, true, false, true, true, false, true, false, true, false, false] _ h
    | 7, _ => exact mm_at_ok [true, true, false, true, true, false, true, false, true, false, true] _ h
    | 8, _ => exact mm_at_ok [true, true, false, true, true, false, true, false, true, true, false] _ h
    | 9, _ => exact mm_at_ok [true, true, false, true, true, false, true, false, true, true, true] _ h
    | 10, _ => exact mm_at_ok [true, true, false, true, true, false, true, true, false, false, false] _ h
    | 11, _ => exact mm_at_ok [true, true, false, true, true, false, true, true, false, false, true] _ h
    | 12, _ => exact mm_at_ok [true, true, false, true, true, false, true, true, false, true, false] _ h
    | 13, _ => exact mm_at_ok [true, true, false, true, true, false, true, true, false, true, true] _ h
    | 14, _ => exact mm_at_ok [true, true, false, true, true, false, true, true, true, false, false] _ h
    | 15, _ => exact mm_at_ok [true, true, false, true, true, false, true, true, true, false, true] _ h
    | 16, _ => exact mm_at_ok [true, true, false, true, true, false, true, true, true, true, false] _ h
    | 17, _ => exact mm_at_ok [true, true, false, true, true, false, true, true, true, true, true] _ h
    | j + 18, hj => omega
  | 30, z, hz => by
    have h9 := Option.some.inj hz; subst h9
    intro j hj
    have hj : j < 7 := hj
    match j, hj with
    | 0, _ => exact mm_at_ok [true, true, false, true, true, true, false, false, true, false, true] _ h
    | 1, _ => exact mm_at_ok [true, true, false, true, true, true, false, false, true, true, false] _ h
    | 2, _ => exact mm_at_ok [true, true, false, true, true, true, false, false, true, true, true] _ h
    | 3, _ => exact mm_at_ok [true, true, false, true, true, true, false, true, false, false, false] _ h
    | 4, _ => exact mm_at_ok [true, true, false, true, true, true, false, true, false, false, true] _ h
    | 5, _ => exact mm_at_ok [true, true, false, true, true, true, false, true, false, true, false] _ h
    | 6, _ => exact mm_at_ok [true, true, false, true, true, true, false, true, false, true, true] _ h
    | j + 7, hj => omega
  | 31, z, hz => by
    have h9 := Option.some.inj hz; subst h9
    intro j hj
    have hj : j < 13 := hj
    match j, hj with
    | 0, _ => exact mm_at_ok [true, true, false, true, true, true, true, false, false, false, false] _ h
    | 1, _ => exact mm_at_ok [true, true, false, true, true, true, true, false, false, false, true] _ h
    | 2, _ => exact mm_at_ok [true, true, false, true, true, true, true, false, false, true, false] _ h
    | 3, _ => exact mm_at_ok [true, true, false, true, true, true, true, false, false, true, true] _ h
    | 4, _ => exact mm_at_ok [true, true, false, true, true, true, true, false, true, false, false] _ h
    | 5, _ => exact mm_at_ok [true, true, false, true, true, true, true, false, true, false, true] _ h
    | 6, _ => exact mm_at_ok [true, true, false, true, true, true, true, false, true, true, false] _ h
    | 7, _ => exact mm_at_ok [true, true, false, true, true, true, true, false, true, true, true] _ h
    | 8, _ => exact mm_at_ok [true, true, false, true, true, true, true, true, false, false, false] _ h
    | 9, _ => exact mm_at_ok [true, true, false, true, true, true, true, true, false, false, true] _ h
    | 10, _ => exact mm_at_ok [true, true, false, true, true, true, true, true, false, true, false] _ h
    | 11, _ => exact mm_at_ok [true, true, false, true, true, true, true, true, false, true, true] _ h
    | 12, _ => exact mm_at_ok [true, true, false, true, true, true, true, true, true, false, false] _ h
    | j + 13, hj => omega
  | 32, z, hz => by
    have h9 := Option.some.inj hz; subst h9
    intro j hj
    have hj : j < 13 := hj
    match j, hj with
    | 0, _ => exact mm_at_ok [true, true, true, false, false, false, false, false, false, true, false] _ h
    | 1, _ => exact mm_at_ok [true, true, true, false, false, false, false, false, false, true, true] _ h
    | 2, _ => exact mm_at_ok [true, true, true, false, false, false, false, false, true, false, false] _ h
    | 3, _ => exact mm_at_ok [true, true, true, false, false, false, false, false, true, false, true] _ h
    | 4, _ => exact mm_at_ok [true, true, true, false, false, false, false, false, true, true, false] _ h
    | 5, _ => exact mm_at_ok [true, true, true, false, false, false, false, false, true, true, true] _ h
    | 6, _ => exact mm_at_ok [true, true, true, false, false, false, false, true, false, false, false] _ h
    | 7, _ => exact mm_at_ok [true, true, true, false, false, false, false, true, false, false, true] _ h
    | 8, _ => exact mm_at_ok [true, true, true, false, false, false, false, true, false, true, false] _ h
    | 9, _ => exact mm_at_ok [true, true, true, false, false, false, false, true, false, true, true] _ h
    | 10, _ => exact mm_at_ok [true, true, true, false, false, false, false, true, true, false, false] _ h
    | 11, _ => exact mm_at_ok [true, true, true, false, false, false, false, true, true, false, true] _ h
    | 12, _ => exact mm_at_ok [true, true, true, false, false, false, false, true, true, true, false] _ h
    | j + 13, hj => omega
  | 33, z, hz => by
    have h9 := Option.some.inj hz; subst h9
    intro j hj
    have hj : j < 22 := hj
    match j, hj with
    | 0, _ => exact mm_at_ok [true, true, true, false, false, false, true, false, true, false, false] _ h
    | 1, _ => exact mm_at_ok [true, true, true, false, false, false, true, false, true, false, true] _ h
    | 2, _ => exact mm_at_ok [true, true, true, false, false, false, true, false, true, true, false] _ h
    | 3, _ => exact mm_at_ok [true, true, true, false, false, false, true, false, true, true, true] _ h
    | 4, _ => exact mm_at_ok [true, true, true, false, false, false, true, true, false, false, false] _ h
    | 5, _ => exact mm_at_ok [true, true, true, false, false, false, true, true, false, false, true] _ h
    | 6, _ => exact mm_at_ok [true, true, true, false, false, false, true, true, false, true, false] _ h
    | 7, _ => exact mm_at_ok [true, true, true, false, false, false, true, true, false, true, true] _ h
    | 8, _ => exact mm_at_ok [true, true, true, false, false, false, true, true, true, false, false] _ h
    | 9, _ => exact mm_at_ok [true, true, true, false, false, false, true, true, true, false, true] _ h
    | 10, _ => exact mm_at_ok [true, true, true, false, false, false, true, true, true, true, false] _ h
    | 11, _ => exact mm_at_ok [true, true, true, false, false, false, true, true, true, true, true] _ h
    | 12, _ => exact mm_at_ok [true, true, true, false, false, true, false, false, false, false] _ h
    | 13, _ => exact mm_at_ok [true, true, true, false, false, true, false, false, false, true, false] _ h
    | 14, _ => exact mm_at_ok [true, true, true, false, false, true, false, false, false, true, true] _ h
    | 15, _ => exact mm_at_ok [true, true, true, false, false, true, false, false, true, false, false] _ h
    | 16, _ => exact mm_at_ok [true, true, true, false, false, true, false, false, true, false, true] _ h
    | 17, _ => exact mm_at_ok [true, true, true, false, false, true, false, false, true, true, false] _ h
    | 18, _ => exact mm_at_ok [true, true, true, false, false, true, false, false, true, true, true] _ h
    | 19, _ => exact mm_at_ok [true, true, true, false, false, true, false, true, false, false, false] _ h
    | 20, _ => exact mm_at_ok [true, true, true, false, false, true, false, true, false, false, true] _ h
    | 21, _ => exact mm_at_ok [true, true, true, false, false, true, false, true, false, true, false] _ h
    | j + 22, hj => omega
  | 34, z, hz => by
    have h9 := Option.some.inj hz; subst h9
    intro j hj
    have hj : j < 5 := hj
    match j, hj with
    | 0, _ => exact mm_at_ok [true, true, true, false, false, true, false, true, true, true, true] _ h
    | 1, _ => exact mm_at_ok [true, true, true, false, false, true, true, false, false, false, false] _ h
    | 2, _ => exact mm_at_ok [true, true, true, false, false, true, true, false, false, false, true] _ h
    | 3, _ => exact mm_at_ok [true, true, true, false, false, true, true, false, false, true, false] _ h
    | 4, _ => exact mm_at_ok [true, true, true, false, false, true, true, false, false, true, true] _ h
    | j + 5, hj => omega
  | 35, z, hz => by
    have h9 := Option.some.inj hz; subst h9
    intro j hj
    have hj : j < 4 := hj
    match j, hj with
    | 0, _ => exact mm_at_ok [true, true, true, false, false, true, true, true, false, false, true] _ h
    | 1, _ => exact mm_at_ok [true, true, true, false, false, true, true, true, false, true, false] _ h
    | 2, _ => exact mm_at_ok [true, true, true, false, false, true, true, true, false, true, true] _ h
    | 3, _ => exact mm_at_ok [true, true, true, false, false, true, true, true, true, false, false] _ h
    | j + 4, hj => omega
  | 36, z, hz => by
    have h9 := Option.some.inj hz; subst h9
    intro j hj
    have hj : j < 4 := hj
    match j, hj with
    | 0, _ => exact mm_at_ok [true, true, true, false, true, false, false, false, false, true, true] _ h
    | 1, _ => exact mm_at_ok [true, true, true, false, true, false, false, false, true, false, false] _ h
    | 2, _ => exact mm_at_ok [true, true, true, false, true, false, false, false, true, false, true] _ h
    | 3, _ => exact mm_at_ok [true, true, true, false, true, false, false, false, true, true, false] _ h
    | j + 4, hj => omega
  | 37, z, hz => by
    have h9 := Option.some.inj hz; subst h9
    intro j hj
    have hj : j < 2 := hj
    match j, hj with
    | 0, _ => exact mm_at_ok [true, true, true, false, true, false, false, true, true, false, false] _ h
    | 1, _ => exact mm_at_ok [true, true, true, false, true, false, false, true, true, false, true] _ h
    | j + 2, hj => omega
  | 38, z, hz => by
    have h9 := Option.some.inj hz; subst h9
    intro j hj
    have hj : j < 2 := hj
    match j, hj with
    | 0, _ => exact mm_at_ok [true, true, true, false, true, false, true, false, false, true, true] _ h
    | 1, _ => exact mm_at_ok [true, true, true, false, true, false, true, false, true, false, false] _ h
    | j + 2, hj => omega
  | 39, z, hz => by
    have h9 := Option.some.inj hz; subst h9
    intro j hj
    have hj : j < 5 := hj
    match j, hj with
    | 0, _ => exact mm_at_ok [true, true, true, false, true, false, true, true, false, true, false] _ h
    | 1, _ => exact mm_at_ok [true, true, true, false, true, false, true, true, false, true, true] _ h
    | 2, _ => exact mm_at_ok [true, true, true, false, true, false, true, true, true, false, false] _ h
    | 3, _ => exact mm_at_ok [true, true, true, false, true, false, true, true, true, false, true] _ h
    | 4, _ => exact mm_at_ok [true, true, true, false, true, false, true, true, true, true, false] _ h
    | j + 5, hj => omega
  | 40, z, hz => by
    have h9 := Option.some.inj hz; subst h9
    intro j hj
    have hj : j < 6 := hj
    match j, hj with
    | 0, _ => exact mm_at_ok [true, true, true, false, true, true, false, false, true, false, true] _ h
    | 1, _ => exact mm_at_ok [true, true, true, false, true, true, false, false, true, true, false] _ h
    | 2, _ => exact mm_at_ok [true, true, true, false, true, true, false, false, true, true, true] _ h
    | 3, _ => exact mm_at_ok [true, true, true, false, true, true, false, true, false, false, false] _ h
    | 4, _ => exact mm_at_ok [true, true, true, false, true, true, false, true, false, false, true] _ h
    | 5, _ => exact mm_at_ok [true, true, true, false, true, true, false, true, false, true, false] _ h
    | j + 6, hj => omega
  | 41, z, hz => by
    have h9 := Option.some.inj hz; subst h9
    intro j hj
    have hj : j < 5 := hj
    match j, hj with
    | 0, _ => exact mm_at_ok [true, true, true, false, true, true, true, false, false, false, false] _ h
    | 1, _ => exact mm_at_ok [true, true, true, false, true, true, true, false, false, false, true] _ h
    | 2, _ => exact mm_at_ok [true, true, true, false, true, true, true, false, false, true, false] _ h
    | 3, _ => exact mm_at_ok [true, true, true, false, true, true, true, false, false, true, true] _ h
    | 4, _ => exact mm_at_ok [true, true, true, false, true, true, true, false, true, false, false] _ h
    | j + 5, hj => omega
  | 42, z, hz => by
    have h9 := Option.some.inj hz; subst h9
    intro j hj
    have hj : j < 3 := hj
    match j, hj with
    | 0, _ => exact mm_at_ok [true, true, true, false, true, true, true, true, false, true, false] _ h
    | 1, _ => exact mm_at_ok [true, true, true, false, true, true, true, true, false, true, true] _ h
    | 2, _ => exact mm_at_ok [true, true, true, false, true, true, true, true, true, false, false] _ h
    | j + 3, hj => omega
  | 43, z, hz => by
    have h9 := Option.some.inj hz; subst h9
    intro j hj
    have hj : j < 4 := hj
    match j, hj with
    | 0, _ => exact mm_at_ok [true, true, true, true, false, false, false, false, false, true, true] _ h
    | 1, _ => exact mm_at_ok [true, true, true, true, false, false, false, false, true, false, false] _ h
    | 2, _ => exact mm_at_ok [true, true, true, true, false, false, false, false, true, false, true] _ h
    | 3, _ => exact mm_at_ok [true, true, true, true, false, false, false, false, true, true, false] _ h
    | j + 4, hj => omega
  | 44, z, hz => by
    have h9 := Option.some.inj hz; subst h9
    intro j hj
    have hj : j < 4 := hj
    match j, hj with
    | 0, _ => exact mm_at_ok [true, true, true, true, false, false, false, true, true, false, false] _ h
    | 1, _ => exact mm_at_ok [true, true, true, true, false, false, false, true, true, false, true] _ h
    | 2, _ => exact mm_at_ok [true, true, true, true, false, false, false, true, true, true, false] _ h
    | 3, _ => exact mm_at_ok [true, true, true, true, false, false, false, true, true, true, true] _ h
    | j + 4, hj => omega
  | 45, z, hz => by
    have h9 := Option.some.inj hz; subst h9
    intro j hj
    have hj : j < 5 := hj
    match j, hj with
    | 0, _ => exact mm_at_ok [true, true, true, true, false, false, true, false, true, false, true] _ h
    | 1, _ => exact mm_at_ok [true, true, true, true, false, false, true, false, true, true, false] _ h
    | 2, _ => exact mm_at_ok [true, true, true, true, false, false, true, false, true, true, true] _ h
    | 3, _ => exact mm_at_ok [true, true, true, true, false, false, true, true, false, false, false] _ h
    | 4, _ => exact mm_at_ok [true, true, true, true, false, false, true, true, false, false, true] _ h
    | j + 5, hj => omega
  | 46, z, hz => by
    have h9 := Option.some.inj hz; subst h9
    intro j hj
    have hj : j < 5 := hj
    match j, hj with
    | 0, _ => exact mm_at_ok [true, true, true, true, false, false, true, true, true, true, true] _ h
    | 1, _ => exact mm_at_ok [true, true, true, true, false, true, false, false, false, false] _ h
    | 2, _ => exact mm_at_ok [true, true, true, true, false, true, false, false, false, true, false] _ h
    | 3, _ => exact mm_at_ok [true, true, true, true, false, true, false, false, false, true, true] _ h
    | 4, _ => exact mm_at_ok [true, true, true, true, false, true, false, false, true, false, false] _ h
    | j + 5, hj => omega
  | 47, z, hz => by
    have h9 := Option.some.inj hz; subst h9
    intro j hj
    have hj : j < 7 := hj
    match j, hj with
    | 0, _ => exact mm_at_ok [true, true, true, true, false, true, false, true, false, true, false] _ h
    | 1, _ => exact mm_at_ok [true, true, true, true, false, true, false, true, false, true, true] _ h
    | 2, _ => exact mm_at_ok [true, true, true, true, false, true, false, true, true, false, false] _ h
    | 3, _ => exact mm_at_ok [true, true, true, true, false, true, false, true, true, false, true] _ h
    | 4, _ => exact mm_at_ok [true, true, true, true, false, true, false, true, true, true, false] _ h
    | 5, _ => exact mm_at_ok [true, true, true, true, false, true, false, true, true, true, true] _ h
    | 6, _ => exact mm_at_ok [true, true, true, true, false, true, true, false, false, false, false] _ h
    | j + 7, hj => omega
  | 48, z, hz => by
    have h9 := Option.some.inj hz; subst h9
    intro j hj
    have hj : j < 3 := hj
    match j, hj with
    | 0, _ => exact mm_at_ok [true, true, true, true, false, true, true, false, true, true, false] _ h
    | 1, _ => exact mm_at_ok [true, true, true, true, false, true, true, false, true, true, true] _ h
    | 2, _ => exact mm_at_ok [true, true, true, true, false, true, true, true, false, false, false] _ h
    | j + 3, hj => omega
  | 49, z, hz => by
    have h9 := Option.some.inj hz; subst h9
    intro j hj
    have hj : j < 3 := hj
    match j, hj with
    | 0, _ => exact mm_at_ok [true, true, true, true, false, true, true, true, true, true, false] _ h
    | 1, _ => exact mm_at_ok [true, true, true, true, false, true, true, true, true, true, true] _ h
    | 2, _ => exact mm_at_ok [true, true, true, true, true, false, false, false, false, false] _ h
    | j + 3, hj => omega
  | 50, z, hz => by
    have h9 := Option.some.inj hz; subst h9
    intro j hj
    have hj : j < 2 := hj
    match j, hj with
    | 0, _ => exact mm_at_ok [true, true, true, true, true, false, false, false, true, true, true] _ h
    | 1, _ => exact mm_at_ok [true, true, true, true, true, false, false, true, false, false, false] _ h
    | j + 2, hj => omega
  | i + 51, z, hz => absurd hz (by rw [List.getElem?_eq_none (by show 51 ≤ i + 51; omega)]; exact fun q => nomatch q)
theorem mm_f6 : (mm_strs.all fun q => decide (Cond.stringRef q.1 q.2.1 q.2.2.1 ∈ lw_tbl)) = true := by decide +kernel
theorem mm_f7 : (mm_ncL.all fun q => decide (Cond.not (.castable q.1 q.2) ∈ mm_fl)) = true := by decide +kernel
theorem mm_f8 : (mm_strs.all fun q => decide (q.2.2.2.length < 2 ^ 31)) = true := by decide +kernel
theorem mm_al {α : Type} {l : List α} {p : α → Prop} [DecidablePred p] (h : (l.all fun q => decide (p q)) = true) {q : α} (hq : q ∈ l) : p q := of_decide_eq_true (List.all_eq_true.mp h q hq)
theorem mm_arrI {args : Array Value} {s : State} (h : (Cond.arrayClass .int).before args s = true) : ∃ cA, ArrOfT s cA .int ∧ va_RA s cA .int := by
  obtain ⟨c, k, comp, h1, h2, h3⟩ := Cond.arrayClass_spec h
  exact ⟨c, fun n z => ⟨fun k h => (by cases h), k, h2, comp, h3⟩, h1⟩
theorem mm_arrJ {args : Array Value} {s : State} (h : (Cond.arrayClass .long).before args s = true) : ∃ cA, ArrOfT s cA .long ∧ va_RA s cA .long := by
  obtain ⟨c, k, comp, h1, h2, h3⟩ := Cond.arrayClass_spec h
  exact ⟨c, fun n z => ⟨fun k h => (by cases h), k, h2, comp, h3⟩, h1⟩
theorem mm_arrB {args : Array Value} {s : State} (h : (Cond.arrayClass .byte).before args s = true) : ∃ cA, ArrOfT s cA .byte ∧ va_RA s cA .byte := by
  obtain ⟨c, k, comp, h1, h2, h3⟩ := Cond.arrayClass_spec h
  exact ⟨c, fun n z => ⟨fun k h => (by cases h), k, h2, comp, h3⟩, h1⟩
theorem mm_arrZ {args : Array Value} {s : State} (h : (Cond.arrayClass .boolean).before args s = true) : ∃ cA, ArrOfT s cA .boolean ∧ va_RA s cA .boolean := by
  obtain ⟨c, k, comp, h1, h2, h3⟩ := Cond.arrayClass_spec h
  exact ⟨c, fun n z => ⟨fun k h => (by cases h), k, h2, comp, h3⟩, h1⟩
theorem mm_arrO {args : Array Value} {s : State} {C : String} (h : (Cond.arrayOver (.object C)).before args s = true) : ∃ cA, ArrOfT s cA (.object C) ∧ va_RA s cA (.object C) := by
  obtain ⟨comp, c, k, a1, -, a3, a4, a5⟩ := Cond.arrayOver_spec h
  exact ⟨c, fun n z => ⟨fun k h => (by cases h), k, a3, comp, a4⟩, k, comp, a3, a4, a1, a5⟩
theorem mm_ext_none {a : Nat} (h : 115 ≤ a) : mm_ext a = .inr none := by
  unfold mm_ext
  rw [if_neg (by omega), if_neg (by omega)]
set_option maxHeartbeats 4000000 in
theorem mm_open {s : State} {b L : Nat} {xs : Nat → Int32} (hts : ∀ w ∈ lw_tbl, w.before #[Value.ref b] s = true) (hX : va_X b L xs s s.heap) (hgv : (Jvm.Cond.and given_1 narrow_1).before #[Value.ref b] s = true) :
    ∃ G : mm_G, G.2.2.2 = s.heap ∧ G.2.2.1 121 = b ∧ mm_S G (mm_h0 L xs) s ∧ mm_Nc s := by
  have hA : ∀ a : Nat, a < s.heap.size → ¬ (fun q : Nat => s.heap.size ≤ q) a := fun a h => Nat.not_le.mpr h
  have hs : ∀ w ∈ mm_fl, w.before #[Value.ref b] s = true := flat_of_before _ hgv
  have htg : ∀ w ∈ lw_good, w.before #[Value.ref b] s = true := fun w hw => hts w (List.mem_filter.mp hw).1
  obtain ⟨c0, i0, k0⟩ := u_known (C := RX0) (T := TX0) (N := 3) (n := 3) htg inGX0 (hts (.instantiable RX0 3) (by decide +kernel))
  obtain ⟨c1, i1, k1⟩ := u_known (C := RX1) (T := TX1) (N := 6) (n := 6) htg inGX1 (hts (.instantiable RX1 6) (by decide +kernel))
  obtain ⟨c2, i2, k2⟩ := u_known (C := RX2) (T := TX2) (N := 6) (n := 6) htg inGX2 (hts (.instantiable RX2 6) (by decide +kernel))
  obtain ⟨c3, i3, k3⟩ := u_known (C := RX3) (T := TX3) (N := 3) (n := 3) htg inGX3 (hts (.instantiable RX3 3) (by decide +kernel))
  obtain ⟨c4, i4, k4⟩ := u_known (C := RX4) (T := TX4) (N := 8) (n := 8) htg inGX4 (hts (.instantiable RX4 8) (by decide +kernel))
  obtain ⟨c5, i5, k5⟩ := u_known (C := RX5) (T := TX5) (N := 2) (n := 2) htg inGX5 (hts (.instantiable RX5 2) (by decide +kernel))
  obtain ⟨c6, i6, k6⟩ := u_known (C := RX6) (T := TX6) (N := 8) (n := 8) htg inGX6 (hts (.instantiable RX6 8) (by decide +kernel))
  obtain ⟨c7, i7, k7⟩ := u_known (C := RX7) (T := TX7) (N := 15) (n := 15) htg inGX7 (hts (.instantiable RX7 15) (by decide +kernel))
  obtain ⟨c8, i8, k8⟩ := u_known (C := RX8) (T := TX8) (N := 7) (n := 7) htg inGX8 (hts (.instantiable RX8 7) (by decide +kernel))
  obtain ⟨c9, i9, k9⟩ := u_known (C := RX9) (T := TX9) (N := 6) (n := 6) htg inGX9 (hts (.instantiable RX9 6) (by decide +kernel))
  obtain ⟨c10, i10, k10⟩ := u_known (C := RX10) (T := TX10) (N := 3) (n := 3) htg inGX10 (hts (.instantiable RX10 3) (by decide +kernel))
  obtain ⟨c11, i11, k11⟩ := u_known (C := RX11) (T := TX11) (N := 16) (n := 16) htg inGX11 (hts (.instantiable RX11 16) (by decide +kernel))
  obtain ⟨c12, i12, k12⟩ := u_known (C := RX12) (T := TX12) (N := 48) (n := 48) htg inGX12 (hts (.instantiable RX12 48) (by decide +kernel))
  obtain ⟨cI, kI⟩ := mm_arrI (hts (.arrayClass .int) (by decide +kernel))
  obtain ⟨cJ, kJ⟩ := mm_arrJ (hts (.arrayClass .long) (by decide +kernel))
  obtain ⟨cB, kB⟩ := mm_arrB (hts (.arrayClass .byte) (by decide +kernel))
  obtain ⟨cZ, kZ⟩ := mm_arrZ (hts (.arrayClass .boolean) (by decide +kernel))
  obtain ⟨cT, kT⟩ := mm_arrO (C := RX10) (hts (.arrayOver (.object RX10)) (by decide +kernel))
  obtain ⟨cO, kO⟩ := mm_arrO (C := RX0) (hts (.arrayOver (.object RX0)) (by decide +kernel))
  obtain ⟨cD, kD⟩ := mm_arrO (C := RX3) (hts (.arrayOver (.object RX3)) (by decide +kernel))
  have hst : ∀ i : Nat, ∃ q : Nat × Nat, ∀ z, mm_strs[i]? = some z → (Term.string z.1 z.2.1).eval #[Value.ref b] s none [] s = some (.ref q.1) ∧ va_O "java/lang/String" q.1 (fun q : Nat => s.heap.size ≤ q) s s.heap ∧ va_OF "java/lang/String" "coder" "B" (.int 0) q.1 (fun q : Nat => s.heap.size ≤ q) s s.heap ∧ va_OF "java/lang/String" "value" "[B" (.ref q.2) q.1 (fun q : Nat => s.heap.size ≤ q) s s.heap ∧ va_T .byte q.2 z.2.2.2.length (fun j => .int (z.2.2.2.getD j 0)) (fun q : Nat => s.heap.size ≤ q) s s.heap := by
    intro i
    cases hi : mm_strs[i]? with
    | none => exact ⟨(0, 0), fun z hz => nomatch hz⟩
    | some z =>
      have hz : z ∈ mm_strs := List.mem_of_getElem? hi
      have hex := mm_g1 hgv i z hi
      obtain ⟨a, c, cA, kA, q1, q2, q3, q4, q5, q6, -⟩ := Cond.exactly_spec (args := #[Value.ref b]) (first := s) (o := none) (s := s) (idx := []) (t := .string z.1 z.2.1) (cls := "java/lang/String") hex
      obtain ⟨t, ht, hT⟩ := va_Tof (f := fun j => .int (z.2.2.2.getD j 0)) (A := fun q : Nat => s.heap.size ≤ q) (N := z.2.2.2.length) (mm_al mm_f8 hz) (mm_g3 hgv i z hi) (va_eqt (mm_g4 hgv i z hi)) (fun j hj => va_eqt (mm_g5 hgv i z hi j hj)) hA
      exact ⟨(a, t), fun w hw => by cases hw; exact ⟨q1, ⟨cA, q3, q5, by rw [q6]; exact q2, hA a (Array.getElem?_eq_some_iff.mp q3).1⟩, vk_OFof q1 (va_eqt (mm_g2 hgv i z hi)) hA, vk_OFof q1 ht hA, hT⟩⟩
  obtain ⟨ad, had⟩ := Classical.axiomOfChoice hst
  have hfm := va_Zqof (A := fun q : Nat => s.heap.size ≤ q) (hts (.laysStatic "jdk/internal/util/Preconditions" "SIOOBE_FORMATTER" "Ljava/util/function/BiFunction;") (by decide +kernel)) (hts (.initialized "jdk/internal/util/Preconditions") (by decide +kernel)) (hs (.isRef (.static "jdk/internal/util/Preconditions" "SIOOBE_FORMATTER" "Ljava/util/function/BiFunction;")) (by decide +kernel)) hA
  obtain ⟨fa, hfa⟩ : ∃ fa : Nat, va_Z "jdk/internal/util/Preconditions" "SIOOBE_FORMATTER" "Ljava/util/function/BiFunction;" .null (fun q : Nat => s.heap.size ≤ q) s s.heap ∨ va_Z "jdk/internal/util/Preconditions" "SIOOBE_FORMATTER" "Ljava/util/function/BiFunction;" (.ref fa) (fun q : Nat => s.heap.size ≤ q) s s.heap := by
    rcases hfm with h | ⟨t, h⟩
    · exact ⟨0, Or.inl h⟩
    · exact ⟨t, Or.inr h⟩
  have hX0 := hX
  obtain ⟨scr, x1, x2, x3, x4, x5⟩ := hX
  obtain ⟨aM, hM⟩ : ∃ aM : Nat → Nat, aM = fun a => if a < 51 then (ad a).1 else if a < 115 then (ad (a - 64)).2 else if a = 120 then fa else b := ⟨_, rfl⟩
  obtain ⟨tM, hTM⟩ : ∃ tM : Nat → ClassId, tM = fun t => if t = 0 then cI else if t = 1 then cJ else if t = 2 then cB else if t = 3 then cZ else if t = 4 then cT else if t = 5 then cO else cD := ⟨_, rfl⟩
  have hlen : mm_strs.length = 51 := by decide +kernel
  have hat : ∀ i : Nat, i < 51 → aM i = (ad i).1 := fun i hi => by rw [hM]; simp only [if_pos hi]
  have hat2 : ∀ i : Nat, i < 51 → aM (64 + i) = (ad i).2 := fun i hi => by
    rw [hM]
    show (if 64 + i < 51 then _ else if 64 + i < 115 then _ else _) = _
    rw [if_neg (by omega), if_pos (by omega), show 64 + i - 64 = i by omega]
  have h120 : aM 120 = fa := by rw [hM]; rfl
  have h121 : aM 121 = b := by rw [hM]; rfl
  refine ⟨((fun k => if k = 0 then c0 else if k = 1 then c1 else if k = 2 then c2 else if k = 3 then c3 else if k = 4 then c4 else if k = 5 then c5 else if k = 6 then c6 else if k = 7 then c7 else if k = 8 then c8 else if k = 9 then c9 else if k = 10 then c10 else if k = 11 then c11 else c12, fun k => if k = 0 then i0 else if k = 1 then i1 else if k = 2 then i2 else if k = 3 then i3 else if k = 4 then i4 else if k = 5 then i5 else if k = 6 then i6 else if k = 7 then i7 else if k = 8 then i8 else if k = 9 then i9 else if k = 10 then i10 else if k = 11 then i11 else i12), tM, aM, s.heap), rfl, h121, ⟨?_, ?_⟩, ?_⟩
  · refine ⟨⟨Nat.le_refl _, (by show 128 ≤ 601152; decide), (by show 3093034 ≤ 7293034; decide)⟩, by show s.heap.size = s.heap.size + (128 - 128); rw [Nat.sub_self, Nat.add_zero], fun q _ => rfl, fun a ha => ?_, fun a h1 h2 => absurd h2 (Nat.not_lt.mpr h1), fun a ha => ?_⟩
    · by_cases h9 : a = 121
      · right
        refine ⟨h9, L, xs, ?_, scr, ?_, x3, x4, x5⟩
        · show (if a = 121 then _ else _) = _
          rw [if_pos h9]
        · show s.heap[aM 121]? = some scr
          rw [h121]; exact x1
      · left
        show (if a = 121 then _ else _) = _
        rw [if_neg h9]
    · show (if a = 121 then _ else _) = _
      have h9 : 128 ≤ a := ha
      rw [if_neg (by omega)]
      exact mm_ext_none (by omega)
  · refine ⟨⟨?_, ?_⟩, fun i hi => ?_, fun i q hq => ?_, va_Zof (hts (.laysStatic "java/lang/String" "COMPACT_STRINGS" "Z") (by decide +kernel)) (hts (.initialized "java/lang/String") (by decide +kernel)) (va_eqt (hs (.eq (.static "java/lang/String" "COMPACT_STRINGS" "Z") (.int 1)) (by decide +kernel))) hA, ?_, ?_, ?_, fun w hw => ?_, fun sc hsc => ?_⟩
    · intro k q hq
      match k, hq with
      | 0, hq => cases hq; exact k0
      | 1, hq => cases hq; exact k1
      | 2, hq => cases hq; exact k2
      | 3, hq => cases hq; exact k3
      | 4, hq => cases hq; exact k4
      | 5, hq => cases hq; exact k5
      | 6, hq => cases hq; exact k6
      | 7, hq => cases hq; exact k7
      | 8, hq => cases hq; exact k8
      | 9, hq => cases hq; exact k9
      | 10, hq => cases hq; exact k10
      | 11, hq => cases hq; exact k11
      | 12, hq => cases hq; exact k12
      | k + 13, hq => simp [mm_cl] at hq
    · intro k q hq
      subst hTM
      match k, hq with
      | 0, hq => cases hq; exact kI
      | 1, hq => cases hq; exact kJ
      | 2, hq => cases hq; exact kB
      | 3, hq => cases hq; exact kZ
      | 4, hq => cases hq; exact kT
      | 5, hq => cases hq; exact kO
      | 6, hq => cases hq; exact kD
      | k + 7, hq => simp [mm_tys] at hq
    · obtain ⟨z, hz⟩ : ∃ z, mm_strs[i]? = some z := ⟨mm_strs[i], List.getElem?_eq_getElem (by rw [hlen]; exact hi)⟩
      obtain ⟨b1, b2, b3, b4, b5⟩ := had i z hz
      have hby : mm_byt i = z.2.2.2 := by unfold mm_byt; rw [hz]; rfl
      show va_O _ (aM i) _ _ _ ∧ va_OF _ _ _ _ (aM i) _ _ _ ∧ va_OF _ _ _ (.ref (aM (64 + i))) (aM i) _ _ _ ∧ va_T _ (aM (64 + i)) _ _ _ _ _
      rw [hat i hi, hat2 i hi, hby]
      exact ⟨b2, b3, b4, b5⟩
    · have hi : i < 51 := by have := (List.getElem?_eq_some_iff.mp hq).1; rw [hlen] at this; exact this
      show vk_R _ _ _ (aM i) _
      rw [hat i hi]
      exact vk_R.of (hts _ (mm_al mm_f6 (List.mem_of_getElem? hq))) (had i q hq).1
    · show va_Z _ _ _ _ _ _ _ ∨ va_Z _ _ _ (.ref (aM 120)) _ _ _
      rw [h120]; exact hfa
    · exact vx_Zqof (hts (.laysStatic Bundle.tN "UNASSIGNED_STACK" Bundle.steD) (by decide +kernel)) (hts (.initialized Bundle.tN) (by decide +kernel)) (hs (.isRef (.static Bundle.tN "UNASSIGNED_STACK" Bundle.steD)) (by decide +kernel)) hA
    · exact vx_Zqof (hts (.laysStatic Bundle.tN "SUPPRESSED_SENTINEL" Bundle.listD) (by decide +kernel)) (hts (.initialized Bundle.tN) (by decide +kernel)) (hs (.isRef (.static Bundle.tN "SUPPRESSED_SENTINEL" Bundle.listD)) (by decide +kernel)) hA
    · have h1 := hts w (List.mem_filter.mp hw).1
      have hok := (List.mem_filter.mp hw).2
      unfold mm_nwOk at hok
      split at hok
      · exact va_tabs rfl rfl h1
      · exact va_tabs rfl rfl h1
      · exact va_tabs rfl rfl h1
      · exact va_AO.of h1
      · cases hok
    · have h9 : s.heap[aM 121]? = some sc := hsc
      rw [h121, x1] at h9
      cases h9
      exact x2
  · intro q hq
    exact va_Nc.of (hs _ (mm_al mm_f7 hq))
