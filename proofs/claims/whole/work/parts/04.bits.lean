/-! bits of masks, and the closure that both sides reckon -/
theorem gb_1 : ∀ i, i < 32 → bt 1 i = decide (i = 0) := by decide +kernel
theorem gb_nI (m : Nat) {i : Nat} (hi : i < 32) : bt (nI m) i = m.testBit i := by
  show (BitVec.ofNat 32 m).getLsbD i = _
  rw [BitVec.getLsbD_ofNat]
  simp [hi]
theorem gb_nIa {m n : Nat} (hm : m < 2 ^ n) (hn : n ≤ 8) (i : Nat) : bt (nI m) i = m.testBit i := by
  by_cases hi : i < 32
  · exact gb_nI m hi
  · rw [b_big (by omega)]
    exact (Bool.eq_false_iff.2 (fun h => hi (by have := gz_tb hm h; omega))).symm
theorem gb_sh {v : Nat} (hv : v < 32) (i : Nat) : bt ((1 : Int32) <<< (nI v &&& 31)) i = decide (i = v) := by
  by_cases hi : i < 32
  · rw [b_shl v hv 1 hi]
    by_cases h : v ≤ i
    · rw [gb_1 _ (by omega), decide_eq_true h, Bool.true_and]
      exact decide_eq_decide.2 (by omega)
    · rw [decide_eq_false h, Bool.false_and, decide_eq_false (by omega)]
  · rw [b_big (by omega), decide_eq_false (by omega)]
theorem gb_not (x : Int32) {i : Nat} (hi : i < 32) : bt (x ^^^ (-1)) i = !bt x i := by
  rw [b_xor, b_m1 i hi, Bool.xor_true]
theorem gb_get {v : Nat} (hv : v < 32) (x : Int32) : ((x >>> (nI v &&& 31)) &&& 1) = nI (if bt x v = true then 1 else 0) := by
  apply b_ext
  intro i hi
  rw [b_and, b_sshr v hv x hi, gb_1 i hi]
  by_cases h : i = 0
  · subst h
    rw [if_pos (by omega), decide_eq_true rfl, Bool.and_true, Nat.add_zero]
    by_cases e : bt x v = true
    · rw [if_pos e, e]; decide
    · rw [if_neg e, Bool.eq_false_iff.2 e]; decide
  · rw [decide_eq_false h, Bool.and_false]
    by_cases e : bt x v = true
    · rw [if_pos e]
      show false = bt 1 i
      rw [gb_1 i hi, decide_eq_false h]
    · rw [if_neg e]
      show false = bt 0 i
      rw [b_0]
theorem gb_get1 {v : Nat} (hv : v < 32) (x : Int32) (h : bt x v = true) : ((x >>> (nI v &&& 31)) &&& 1) = 1 := by
  rw [gb_get hv, if_pos h]; rfl
theorem gb_get0 {v : Nat} (hv : v < 32) (x : Int32) (h : bt x v = false) : ((x >>> (nI v &&& 31)) &&& 1) = 0 := by
  rw [gb_get hv, if_neg (by rw [h]; decide)]; rfl
theorem gb_and0 (x y : Int32) : (x &&& y) = 0 ↔ ¬ ∃ v, bt y v = true ∧ bt x v = true := by
  constructor
  · intro h hv
    obtain ⟨v, h1, h2⟩ := hv
    have h3 := b_and x y v
    rw [h, b_0, h1, h2] at h3
    cases h3
  · intro h
    apply b_ext
    intro i _
    rw [b_and, b_0]
    refine Bool.eq_false_iff.2 (fun e => h ⟨i, ?_⟩)
    rw [Bool.and_eq_true] at e
    exact ⟨e.2, e.1⟩
theorem gb_all : ∀ n, n < 9 → ((1 : Int32) <<< (nI n &&& 31)) = nI (2 ^ n) := by decide +kernel
theorem gb_all1 : ∀ n, n < 9 → ((1 : Int32) <<< (nI n &&& 31)) - 1 = nI (2 ^ n - 1) := by decide +kernel
theorem gb_allb : ∀ n, n < 9 → ∀ i, i < 32 → bt (((1 : Int32) <<< (nI n &&& 31)) - 1) i = decide (i < n) := by decide +kernel
theorem gb_pow {n : Nat} (hn : n ≤ 8) : 2 ^ n ≤ 256 := Nat.pow_le_pow_right (by decide) hn
/-- the mask of all but the ends, as each side writes it -/
def gi_b (n s t m : Nat) : Prop := ∀ v, m.testBit v = (decide (v < n) && (decide (v ≠ s) && decide (v ≠ t)))
theorem gi_X {n s t m : Nat} (hn : n ≤ 8) (hs : s < n) (ht : t < n) (h : gi_b n s t m) :
    (((1 : Int32) <<< (nI n &&& 31)) - 1) &&& ((((1 : Int32) <<< (nI s &&& 31)) ||| ((1 : Int32) <<< (nI t &&& 31))) ^^^ (-1)) = nI m := by
  apply b_ext
  intro i hi
  rw [b_and, gb_allb n (by omega) i hi, gb_not _ hi, b_or, gb_sh (by omega), gb_sh (by omega), gb_nI m hi, h i, Bool.not_or, ← decide_not, ← decide_not]
theorem gi_Y {n s t m : Nat} (hn : n ≤ 8) (hs : s < n) (ht : t < n) (h : gi_b n s t m) :
    ((((1 : Int32) <<< (nI n &&& 31)) - 1) &&& (((1 : Int32) <<< (nI s &&& 31)) ^^^ (-1))) &&& (((1 : Int32) <<< (nI t &&& 31)) ^^^ (-1)) = nI m := by
  apply b_ext
  intro i hi
  rw [b_and, b_and, gb_allb n (by omega) i hi, gb_not _ hi, gb_not _ hi, gb_sh (by omega), gb_sh (by omega), gb_nI m hi, h i, ← decide_not, ← decide_not, Bool.and_assoc]
theorem gi_n8 : ∀ n, n < 9 → gz (fun v => decide (v < n)) 8 = n := by decide +kernel
theorem gi_gs {n s t m : Nat} (hn : n ≤ 8) (hs : s < n) (ht : t < n) (hne : s ≠ t) (h : gi_b n s t m) : gs m + 2 = n := by
  have h1 := gz_split (p := fun v => decide (v < n)) (q := fun v => decide (v < n) && decide (v ≠ s)) (x := s) 8 (by omega) (decide_eq_true hs) (by simp) (fun v _ hv => by simp [hv])
  have h2 := gz_split (p := fun v => decide (v < n) && decide (v ≠ s)) (q := fun v => m.testBit v) (x := t) 8 (by omega) (by simp [ht]; omega) (by simp [h t]) (fun v _ hv => by simp [h v, hv])
  rw [gi_n8 n (by omega)] at h1
  unfold gs
  omega
theorem gi_max {n s t m m' : Nat} {a : Nat → Int32} (hn : n ≤ 8) (h : gi_b n s t m) (hW : gr_W n a s t m') (e : gs m' = gs m) : m' = m := by
  have hsub : ∀ v, m'.testBit v = true → m.testBit v = true := fun v hv => by
    have h1 := gz_tb hW.1 hv
    have h2 : v ≠ s := fun e => by rw [e, hW.2.1] at hv; cases hv
    have h3 : v ≠ t := fun e => by rw [e, hW.2.2.1] at hv; cases hv
    rw [h v]; simp [h1, h2, h3]
  apply Nat.eq_of_testBit_eq
  intro v
  by_cases h1 : m'.testBit v = true
  · rw [h1, hsub v h1]
  · refine Classical.byContradiction (fun hne => ?_)
    have h2 : m'.testBit v = false := Bool.eq_false_iff.2 h1
    have h3 : m.testBit v = true := by
      rw [h2] at hne
      cases hb : m.testBit v with
      | true => rfl
      | false => exact absurd hb.symm hne
    have h5 : v < n := by
      rw [h v] at h3
      simp at h3
      exact h3.1
    have h4 := gz_lt (p := fun v => m'.testBit v) (q := fun v => m.testBit v) (w := v) 8 (fun v _ => hsub v) (by omega) h2 h3
    unfold gs at e
    omega
theorem gi_F {n s t m : Nat} {a : Nat → Int32} (V : gr_V n a) (hs : s < n) (h : gi_b n s t m) : gr_W n a s t m := by
  obtain ⟨m', hW, hb⟩ := gr_all (t := t) a V hs
  have e : m = m' := Nat.eq_of_testBit_eq (fun v => by rw [h v, hb v])
  rw [e]; exact hW
/-! the closure by rounds -/
def gc_C (n : Nat) (a : Nat → Int32) (T : Nat → Prop) (S : Int32) : Prop := ∀ u w, u < n → bt S u = true → bt (a u) w = true → T w → bt S w = true
def gc_I (n : Nat) (a : Nat → Int32) (s : Nat) (T : Nat → Prop) (i : Nat) (S : Int32) : Prop :=
  (∀ v, bt S v = true → gr_R n a s T v) ∧ (∀ v, bt (a s) v = true → T v → bt S v = true) ∧ (gc_C n a T S ∨ i < gz (bt S) n)
theorem gz_zero {p : Nat → Bool} {v : Nat} : ∀ k, v < k → p v = true → 0 < gz p k := by
  intro k hv hp
  have h := gz_lt (p := fun _ => false) (q := p) (w := v) k (fun _ _ h => by cases h) hv rfl hp
  omega
theorem gc_0 {n : Nat} {a : Nat → Int32} {s : Nat} {T : Nat → Prop} {S : Int32} (h : ∀ v, bt S v = true ↔ bt (a s) v = true ∧ T v) : gc_I n a s T 0 S := by
  refine ⟨fun v hv => mg_start ((h v).1 hv).1 ((h v).1 hv).2, fun v h1 h2 => (h v).2 ⟨h1, h2⟩, ?_⟩
  by_cases e : 0 < gz (bt S) n
  · exact Or.inr e
  · exact Or.inl (fun u w hu hS _ _ => absurd (gz_zero n hu hS) e)
theorem gc_least {n : Nat} {a : Nat → Int32} {s : Nat} {T : Nat → Prop} {S : Int32} (h1 : ∀ v, bt (a s) v = true → T v → bt S v = true) (h2 : gc_C n a T S) : ∀ v, gr_R n a s T v → bt S v = true :=
  fun v hv => hv (fun v => bt S v = true) h1 (fun u w hu e ht => h2 u w e.1 hu e.2 ht)
theorem gc_S {n : Nat} {a : Nat → Int32} {s i : Nat} {T : Nat → Prop} {S S' : Int32} (V : gr_V n a) (h : gc_I n a s T i S)
    (hsub : ∀ v, bt S v = true → bt S' v = true)
    (hstep : ∀ u w, u < n → bt S u = true → bt (a u) w = true → T w → bt S' w = true)
    (hsnd : ∀ v, bt S' v = true → gr_R n a s T v) : gc_I n a s T (i + 1) S' := by
  refine ⟨hsnd, fun v h1 h2 => hsub v (h.2.1 v h1 h2), ?_⟩
  by_cases hc : gc_C n a T S
  · refine Or.inl (fun u w hu hS ha ht => ?_)
    exact hsub w (hc u w hu (gc_least h.2.1 hc u (hsnd u hS)) ha ht)
  · rcases h.2.2 with h3 | h3
    · exact absurd h3 hc
    · refine Or.inr ?_
      refine Classical.byContradiction (fun hno => hc (fun u w hu hS ha ht => ?_))
      refine Classical.byContradiction (fun hw => hno ?_)
      have h4 := gz_lt (p := bt S) (q := bt S') (w := w) n (fun v _ => hsub v) (V u w hu ha).1 (Bool.eq_false_iff.2 hw) (hstep u w hu hS ha ht)
      omega
theorem gc_E {n : Nat} {a : Nat → Int32} {s i : Nat} {T : Nat → Prop} {S : Int32} (h : gc_I n a s T i S) (hi : n ≤ i) (v : Nat) : bt S v = true ↔ gr_R n a s T v := by
  have hc : gc_C n a T S := by
    rcases h.2.2 with h3 | h3
    · exact h3
    · have := gz_le (bt S) n
      omega
  exact ⟨h.1 v, gc_least h.2.1 hc v⟩
theorem gc_L {n : Nat} {a : Nat → Int32} {s t i : Nat} {T : Nat → Prop} {S : Int32} (h : gc_I n a s T i S) (hi : n ≤ i) : (S &&& a t) = 0 ↔ ¬ gr_L n a s t T := by
  rw [gb_and0]
  have e : (∃ v, bt (a t) v = true ∧ bt S v = true) ↔ gr_L n a s t T := by
    constructor
    · intro hv
      obtain ⟨v, h1, h2⟩ := hv
      exact ⟨v, h1, (gc_E h hi v).1 h2⟩
    · intro hv
      obtain ⟨v, h1, h2⟩ := hv
      exact ⟨v, h1, (gc_E h hi v).2 h2⟩
  rw [e]
/-- the union of the rows of x's members below k -/
def gn (a : Nat → Int32) (x : Int32) : Nat → Int32
  | 0 => 0
  | k + 1 => if bt x k = true then gn a x k ||| a k else gn a x k
theorem gn_b (a : Nat → Int32) (x : Int32) (w : Nat) : ∀ k, bt (gn a x k) w = true ↔ ∃ v, v < k ∧ bt x v = true ∧ bt (a v) w = true := by
  intro k
  induction k with
  | zero =>
    show bt 0 w = true ↔ _
    rw [b_0]
    refine ⟨fun h => (by cases h), fun h => ?_⟩
    obtain ⟨v, hv, _⟩ := h
    omega
  | succ k ih =>
    show bt (if bt x k = true then gn a x k ||| a k else gn a x k) w = true ↔ _
    by_cases e : bt x k = true
    · rw [if_pos e, b_or, Bool.or_eq_true, ih]
      constructor
      · intro h
        rcases h with ⟨v, h1, h2⟩ | h
        · exact ⟨v, by omega, h2⟩
        · exact ⟨k, by omega, e, h⟩
      · intro h
        obtain ⟨v, h1, h2⟩ := h
        by_cases hv : v = k
        · subst hv; exact Or.inr h2.2
        · exact Or.inl ⟨v, by omega, h2⟩
    · rw [if_neg e, ih]
      constructor
      · intro h
        obtain ⟨v, h1, h2⟩ := h
        exact ⟨v, by omega, h2⟩
      · intro h
        obtain ⟨v, h1, h2⟩ := h
        by_cases hv : v = k
        · subst hv; exact absurd h2.1 e
        · exact ⟨v, by omega, h2⟩
