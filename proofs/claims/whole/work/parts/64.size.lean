/-! how many bits -/
def pcn (v : Nat) : Nat := (List.range 10).foldl (fun s i => s + if v.testBit i = true then 1 else 0) 0
def bitsN (l : List Nat) (v : Nat) : Nat := l.foldl (fun v c => v ||| 2 ^ c) v
theorem pcn_or : ∀ v < 1024, ∀ c < 10, v.testBit c = false → v ||| 2 ^ c < 1024 ∧ pcn (v ||| 2 ^ c) = pcn v + 1 := by decide +kernel
theorem pcn_le : ∀ v < 1024, ∀ c < 10, v ||| 2 ^ c < 1024 := by decide +kernel
theorem pcn_dn : ∀ v < 1024, v ≠ 0 → nI v &&& (nI v - 1) = nI (v &&& (v - 1)) ∧ v &&& (v - 1) < 1024 ∧ pcn (v &&& (v - 1)) + 1 = pcn v := by decide +kernel
theorem pcn_10 : ∀ v < 1024, pcn v ≤ 10 := by decide +kernel
theorem pcn_z : ∀ v < 1024, pcn v = 0 → v = 0 := by decide +kernel
theorem bitsN_app (l r : List Nat) (v : Nat) : bitsN (l ++ r) v = bitsN r (bitsN l v) := List.foldl_append
theorem bitsN_lt : ∀ (l : List Nat) (v : Nat), (∀ c ∈ l, c < 10) → v < 1024 → bitsN l v < 1024
  | [], _, _, h => h
  | c :: l, v, hl, h => bitsN_lt l (v ||| 2 ^ c) (fun d hd => hl d (List.mem_cons_of_mem _ hd)) (pcn_le v h c (hl c List.mem_cons_self))
theorem bitsN_test : ∀ (l : List Nat) (v d : Nat), (bitsN l v).testBit d = (v.testBit d || decide (d ∈ l))
  | [], v, d => by simp [bitsN]
  | c :: l, v, d => by
    show (bitsN l (v ||| 2 ^ c)).testBit d = _
    rw [bitsN_test l, Nat.testBit_or, Nat.testBit_two_pow]
    by_cases h : d = c
    · subst h; simp
    · have h2 : ¬ c = d := fun q => h q.symm
      simp [h, h2]
theorem bitsN_pcn : ∀ (l : List Nat) (v : Nat), (∀ c ∈ l, c < 10) → v < 1024 → l.Nodup → (∀ c ∈ l, v.testBit c = false) → pcn (bitsN l v) = pcn v + l.length
  | [], _, _, _, _, _ => rfl
  | c :: l, v, hl, h, hn, ht => by
    have hc := hl c List.mem_cons_self
    rw [List.nodup_cons] at hn
    obtain ⟨q1, q2⟩ := pcn_or v h c hc (ht c List.mem_cons_self)
    show pcn (bitsN l (v ||| 2 ^ c)) = _
    rw [bitsN_pcn l _ (fun d hd => hl d (List.mem_cons_of_mem _ hd)) q1 hn.2 (fun d hd => by
      rw [Nat.testBit_or, Nat.testBit_two_pow, ht d (List.mem_cons_of_mem _ hd)]
      have : ¬ c = d := fun q => hn.1 (q ▸ hd)
      simp [this]), q2, List.length_cons]
    omega
theorem orBits_nI : ∀ (l : List Nat) (v : Nat), (∀ c ∈ l, c < 10) → orBits (nI v) l = nI (bitsN l v)
  | [], _, _ => rfl
  | c :: l, v, hl => by
    show orBits (nI v ||| ((1 : Int32) <<< (nI c &&& 31))) l = nI (bitsN l (v ||| 2 ^ c))
    rw [sh1 (by have := hl c List.mem_cons_self; omega), nI_or]
    exact orBits_nI l _ (fun d hd => hl d (List.mem_cons_of_mem _ hd))
theorem e_sizeL (h : MH) : ∀ (r g v y : Nat), v < 1024 → pcn v = r → r < g → F_X12_size_4 g (nI y) (nI v) h = some (nI (y + r), h) := by
  intro r
  induction r with
  | zero =>
    intro g v y hv hp hg
    obtain ⟨g, rfl⟩ : ∃ z, g = z + 1 := ⟨g - 1, by omega⟩
    have : v = 0 := pcn_z v hv hp
    subst this
    simp only [F_X12_size_4]
    rw [if_pos (by rfl)]
    rfl
  | succ r ih =>
    intro g v y hv hp hg
    obtain ⟨g, rfl⟩ : ∃ z, g = z + 1 := ⟨g - 1, by omega⟩
    have p0 : pcn 0 = 0 := by decide
    have hz : v ≠ 0 := fun q => by rw [q, p0] at hp; omega
    obtain ⟨q1, q2, q3⟩ := pcn_dn v hv hz
    simp only [F_X12_size_4]
    rw [if_neg (nI_ne0 (by omega) (by omega)), nI_1, q1, ih g _ (y + 1) q2 (by omega) (by omega), show y + 1 + r = y + (r + 1) by omega]
theorem e_size {v : Nat} (hv : v < 1024) (h : MH) : F_X12_size (nI v) h = some (nI (pcn v), h) := by
  have := e_sizeL h (pcn v) mm_N v 0 hv rfl (by have := pcn_10 v hv; show pcn v < 1000000; omega)
  rw [Nat.zero_add] at this
  exact this
theorem e_bitCount : ∀ v < 1024, (F_J6_bitCount_0f7a4 (nI v) ((fun _ => .inr none), 0, 0)).map (fun q => q.1) = some (nI (pcn v)) := by decide +kernel
theorem c_bitCount {v : Nat} (hv : v < 1024) (h : MH) : F_J6_bitCount_0f7a4 (nI v) h = some (nI (pcn v), h) := by
  have := e_bitCount v hv
  unfold F_J6_bitCount_0f7a4 at this ⊢
  simp only [Option.map_some, Option.some.injEq] at this
  rw [this]
