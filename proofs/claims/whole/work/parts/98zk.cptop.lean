/-! the class reads truths, put together; a law's line -/
section CT3
variable {Ls : Nat} {xs : Nat → Int32} {S : mkS} {L : mkL} {R : mkR} {n : Nat × Nat} {B : BT}
theorem c_truthOf (hs : St S R) {r d g : Nat} (hu : CSp Ls xs S L R n B 2 (fun h => (G_X7_readBoth g).2.2 (some 163) (nI d) h) (unitP B r)) : CSp Ls xs S L R n B 2 (fun h => (G_X7_readBoth (g + 2)).2.1 (some 163) (nI d) h) (truthG B (unitP B r)) := by
  have h2 := c_bothG (L := L) (n := n) hs (p := G_X7_readBoth g) (d := d) hu (fun t ht => unitP_ok r t ht)
  exact c_truthG (L := L) (n := n) hs (p := G_X7_readBoth (g + 1)) (d := d) h2 (fun t ht => bothG_ok (unitP_ok r) ht)
theorem c_unitP (hs : St S R) : ∀ (r d g : Nat), d + r = 6 → 3 * r + 1 ≤ g → CSp Ls xs S L R n B 2 (fun h => (G_X7_readBoth g).2.2 (some 163) (nI d) h) (unitP B r) := by
  intro r
  induction r with
  | zero =>
    intro d g hd hg
    obtain ⟨g, rfl⟩ : ∃ y, g = y + 1 := ⟨g - 1, by omega⟩
    have h := c_unitG (Ls := Ls) (xs := xs) (L := L) (n := n) (B := B) hs (p := G_X7_readBoth g) (d := d) (r := 0) hd (u := unitP B 0) (tr := truthG B (unitP B 0)) (c := 5) (fun z => absurd z (by omega)) (fun z => absurd z (by omega)) (fun t ht => truthG_ok (unitP_ok 0) ht) (fun t ht => (unitP_ok 0 t ht).mono (by omega))
    rw [if_neg (by omega), if_neg (by omega)] at h
    exact h
  | succ r ih =>
    intro d g hd hg
    obtain ⟨g, rfl⟩ : ∃ y, g = y + 3 := ⟨g - 3, by omega⟩
    have h := c_unitG (Ls := Ls) (xs := xs) (L := L) (n := n) (B := B) hs (p := G_X7_readBoth (g + 2)) (d := d) (r := r + 1) hd (u := unitP B r) (tr := truthG B (unitP B r)) (c := 2 * r + 5) (fun z => ih (d + 1) (g + 2) (by omega) (by omega)) (fun z => c_truthOf hs (ih (d + 1) g (by omega) (by omega))) (fun t ht => truthG_ok (unitP_ok r) ht) (fun t ht => (unitP_ok r t ht).mono (by omega))
    rw [if_pos (by omega), if_pos (by omega)] at h
    exact h
/-- a law of kind w -/
def lawP (B : BT) (w : Nat) (t : TKN) : LR := if w = 2 then truthG B (unitP B 6) t else sumP B w 6 t
theorem lawP_ok {B : BT} {w : Nat} {t : TKN} (ht : TKg B.1 B.2 t) : RGo B w (decide (w = 2)) 17 t.1 (lawP B w t) := by
  unfold lawP
  by_cases e : w = 2
  · rw [if_pos e, e]
    exact (truthG_ok (c := 15) (unitP_ok 6) ht)
  · rw [if_neg e, decide_eq_false e]
    exact (sumP_ok 6 t ht).mono (by omega)
end CT3
