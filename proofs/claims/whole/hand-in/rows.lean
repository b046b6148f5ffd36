section
theorem pk_us {f : Nat → Int32} {k : Nat} {x : Int32} : upd f k x k = x := if_pos rfl
theorem pk_un {f : Nat → Int32} {k j : Nat} {x : Int32} (h : j ≠ k) : upd f k x j = f j := if_neg h
theorem pk_sub {a b : Nat} (h : b ≤ a) : nI a - nI b = nI (a - b) := by
  obtain ⟨c, rfl⟩ : ∃ c, a = c + b := ⟨a - b, by omega⟩
  rw [← nI_add, Int32.add_sub_cancel, Nat.add_sub_cancel]
theorem pk_m1 (n : Nat) : nI (n + 1) + (-1) = nI n := by
  rw [← nI_1, Int32.add_assoc, show (1 : Int32) + (-1) = 0 from rfl, Int32.add_zero]
theorem pk_mul (a b : Nat) : nI a * nI b = nI (a * b) := (Int32.ofNat_mul a b).symm
theorem pk_div {a d : Nat} (ha : a < 2 ^ 31) (h0 : 0 < d) (hd : d < 2 ^ 31) : nI a / nI d = nI (a / d) := by
  apply Int32.toInt_inj.mp
  rw [lg_idiv_nonneg (by rw [nI_toInt ha]; omega) (by rw [nI_toInt hd]; omega), nI_toInt ha, nI_toInt hd, nI_toInt (Nat.lt_of_le_of_lt (Nat.div_le_self a d) ha)]
  first | rfl | exact (Int.natCast_ediv _ _).symm
theorem pk_ix (x : Int32) {n : Nat} (hn : n < 2 ^ 31) : x < 0 ∨ nI n ≤ x ∨ ∃ j : Nat, j < n ∧ x = nI j := by
  by_cases h : x < 0
  · exact Or.inl h
  · obtain ⟨j, hj, rfl⟩ := nI_of h
    by_cases h2 : j < n
    · exact Or.inr (Or.inr ⟨j, h2, rfl⟩)
    · exact Or.inr (Or.inl (nI_le (by omega) hj))
theorem pk_le {x y : Int32} {A B : Prop} (a b : Nat) (f : a ≤ b → A) (g : b < a → B) (hx : x = nI a := by rfl) (hy : y = nI b := by rfl) (ha : a < 2 ^ 31 := by omega) (hb : b < 2 ^ 31 := by omega) : (x ≤ y → A) ∧ (¬ x ≤ y → B) := by
  subst hx hy
  rw [nI_leI ha hb]
  exact ⟨f, fun z => g (by omega)⟩
theorem pk_lt {x y : Int32} {A B : Prop} (a b : Nat) (f : a < b → A) (g : b ≤ a → B) (hx : x = nI a := by rfl) (hy : y = nI b := by rfl) (ha : a < 2 ^ 31 := by omega) (hb : b < 2 ^ 31 := by omega) : (x < y → A) ∧ (¬ x < y → B) := by
  subst hx hy
  rw [nI_ltI ha hb]
  exact ⟨f, fun z => g (by omega)⟩
theorem pk_eq {x y : Int32} {A B : Prop} (a b : Nat) (f : a = b → A) (g : a ≠ b → B) (hx : x = nI a := by rfl) (hy : y = nI b := by rfl) (ha : a < 2 ^ 31 := by omega) (hb : b < 2 ^ 31 := by omega) : (x = y → A) ∧ (¬ x = y → B) := by
  subst hx hy
  rw [nI_eq ha hb]
  exact ⟨f, g⟩
theorem pk_in {x : Int32} (n N : Nat) (h : n < N) (hx : x = nI n := by rfl) (hN : N < 2 ^ 31 := by omega) : vp_in x N := by
  subst hx
  exact vp_in_nI h hN
theorem pk_cl {x : Int32} (n : Nat) (hx : x = nI n := by rfl) (h : n < 2 ^ 31 := by omega) : x.toNatClampNeg = n := by
  subst hx
  exact nI_clamp h
theorem pk_tn {n : Nat} (h : n < 2 ^ 32) : (nI n).toBitVec.toNat = n := Nat.mod_eq_of_lt h
theorem pk_least (P : Nat → Prop) (h : ∃ k, P k) : ∃ k, P k ∧ ∀ j, j < k → ¬ P j := by
  obtain ⟨k, hk⟩ := h
  induction k using Nat.strongRecOn with
  | ind k ih =>
    by_cases e : ∃ j, j < k ∧ P j
    · obtain ⟨j, hj, pj⟩ := e
      exact ih j hj pj
    · exact ⟨k, hk, fun j hj pj => e ⟨j, hj, pj⟩⟩
def bt (x : Int32) (i : Nat) : Bool := x.toBitVec.getLsbD i
theorem b_ext {x y : Int32} (h : ∀ i, i < 32 → bt x i = bt y i) : x = y := Int32.toBitVec_inj.mp (BitVec.eq_of_getLsbD_eq (fun i hi => h i hi))
theorem b_or (x y : Int32) (i : Nat) : bt (x ||| y) i = (bt x i || bt y i) := by unfold bt; rw [Int32.toBitVec_or, BitVec.getLsbD_or]
theorem b_and (x y : Int32) (i : Nat) : bt (x &&& y) i = (bt x i && bt y i) := by unfold bt; rw [Int32.toBitVec_and, BitVec.getLsbD_and]
theorem b_xor (x y : Int32) (i : Nat) : bt (x ^^^ y) i = (bt x i ^^ bt y i) := by unfold bt; rw [Int32.toBitVec_xor, BitVec.getLsbD_xor]
theorem b_big {x : Int32} {i : Nat} (h : 32 ≤ i) : bt x i = false := BitVec.getLsbD_of_ge _ _ h
theorem b_255 (i : Nat) : bt 255 i = decide (i < 8) := by
  rcases Nat.lt_or_ge i 32 with h | h
  · exact (by decide +kernel : ∀ i, i < 32 → bt 255 i = decide (i < 8)) i h
  · rw [b_big h, decide_eq_false (by omega)]
theorem b_65535 (i : Nat) : bt 65535 i = decide (i < 16) := by
  rcases Nat.lt_or_ge i 32 with h | h
  · exact (by decide +kernel : ∀ i, i < 32 → bt 65535 i = decide (i < 16)) i h
  · rw [b_big h, decide_eq_false (by omega)]
theorem b_m1 : ∀ i, i < 32 → bt (-1) i = true := by decide +kernel
theorem b_0 (i : Nat) : bt 0 i = false := BitVec.getLsbD_zero
theorem s_l : ∀ n, n < 32 → ((nI n &&& 31).toBitVec.smod 32).toNat = n := by decide +kernel
theorem b_shl (n : Nat) (hn : n < 32) (x : Int32) {i : Nat} (hi : i < 32) : bt (x <<< (nI n &&& 31)) i = (decide (n ≤ i) && bt x (i - n)) := by
  unfold bt
  rw [Int32.toBitVec_shiftLeft]
  show (x.toBitVec <<< ((nI n &&& 31).toBitVec.smod 32).toNat).getLsbD i = _
  rw [s_l n hn, BitVec.getLsbD_shiftLeft]
  rcases Nat.lt_or_ge i n with h | h
  · simp [h, Nat.not_le.mpr h]
  · simp [hi, h, Nat.not_lt.mpr h]
theorem b_sshr (n : Nat) (hn : n < 32) (x : Int32) {i : Nat} (hi : i < 32) : bt (x >>> (nI n &&& 31)) i = if n + i < 32 then bt x (n + i) else bt x 31 := by
  unfold bt
  rw [Int32.toBitVec_shiftRight]
  show (x.toBitVec.sshiftRight ((nI n &&& 31).toBitVec.smod 32).toNat).getLsbD i = _
  rw [s_l n hn, BitVec.getLsbD_sshiftRight, BitVec.msb_eq_getLsbD_last]
  simp [hi]
theorem nx_and (a b : Nat) : nI a &&& nI b = nI (a &&& b) := by
  apply Int32.toBitVec_inj.1
  show BitVec.ofNat 32 a &&& BitVec.ofNat 32 b = BitVec.ofNat 32 (a &&& b)
  apply BitVec.eq_of_getLsbD_eq
  intro i hi
  simp [hi]
end
section
/-! Menger's theorem: vertices are naturals, a graph is a symmetric relation made of a list of edges, A and B two sets of vertices, a separator a list of vertices; a packing is a colouring whose first k classes each lead from A to B -/
def mg_R (adj : Nat → Nat → Prop) (A T : Nat → Prop) (v : Nat) : Prop :=
  ∀ C : Nat → Prop, (∀ a, A a → T a → C a) → (∀ u w, C u → adj u w → T w → C w) → C v
def mg_L (adj : Nat → Nat → Prop) (A B T : Nat → Prop) : Prop := ∃ v, B v ∧ mg_R adj A T v
def mg_adj (E : List (Nat × Nat)) (u w : Nat) : Prop := (u, w) ∈ E ∨ (w, u) ∈ E
theorem mg_start {adj : Nat → Nat → Prop} {A T : Nat → Prop} {a : Nat} (ha : A a) (ht : T a) : mg_R adj A T a := fun _ h0 _ => h0 a ha ht
theorem mg_step {adj : Nat → Nat → Prop} {A T : Nat → Prop} {u w : Nat} (h : mg_R adj A T u) (e : adj u w) (ht : T w) : mg_R adj A T w := fun C h0 h1 => h1 u w (h C h0 h1) e ht
theorem mg_in {adj : Nat → Nat → Prop} {A T : Nat → Prop} {v : Nat} (h : mg_R adj A T v) : T v := h T (fun _ _ t => t) (fun _ _ _ _ t => t)
theorem mg_mono {adj adj' : Nat → Nat → Prop} {A T A' T' : Nat → Prop} {v : Nat} (h : mg_R adj A T v)
    (h0 : ∀ a, A a → T a → A' a ∧ T' a) (h1 : ∀ u w, T u → adj u w → T w → adj' u w ∧ T' w) : mg_R adj' A' T' v :=
  (h (fun v => T v ∧ mg_R adj' A' T' v) (fun a ha ht => ⟨ht, mg_start (h0 a ha ht).1 (h0 a ha ht).2⟩)
    (fun u w hu e ht => ⟨ht, mg_step hu.2 (h1 u w hu.1 e ht).1 (h1 u w hu.1 e ht).2⟩)).2
theorem mg_monoT {adj : Nat → Nat → Prop} {A T T' : Nat → Prop} {v : Nat} (h : mg_R adj A T v) (hT : ∀ v, T v → T' v) : mg_R adj A T' v :=
  mg_mono h (fun a ha ht => ⟨ha, hT a ht⟩) (fun _ w _ e ht => ⟨e, hT w ht⟩)
theorem mg_cat {adj : Nat → Nat → Prop} {A B T : Nat → Prop} {v : Nat} (sym : ∀ u w, adj u w → adj w u) (ha : mg_R adj A T v) (hb : mg_R adj B T v) : mg_L adj A B T :=
  (hb (fun v => T v ∧ (mg_R adj A T v → mg_L adj A B T)) (fun b hB ht => ⟨ht, fun h => ⟨b, hB, h⟩⟩)
    (fun u w hu e ht => ⟨ht, fun h => hu.2 (mg_step h (sym u w e) hu.1)⟩)).2 ha
theorem mg_Lsym {adj : Nat → Nat → Prop} {A B T : Nat → Prop} (sym : ∀ u w, adj u w → adj w u) (h : mg_L adj A B T) : mg_L adj B A T := by
  obtain ⟨v, hB, hv⟩ := h
  exact mg_cat sym (mg_start hB (mg_in hv)) hv
theorem mg_pig (c : Nat → Nat) : ∀ (k : Nat) (P : List Nat), (∀ i, i < k → ∃ p, p ∈ P ∧ c p = i) → k ≤ P.length := by
  intro k
  induction k with
  | zero => intro P _; exact Nat.zero_le _
  | succ k ih =>
    intro P h
    obtain ⟨p, hp, hc⟩ := h k (by omega)
    have h2 := ih (P.erase p) (fun i hi => by
      obtain ⟨q, hq, hcq⟩ := h i (by omega)
      have hne : q ≠ p := fun e => by rw [e] at hcq; omega
      exact ⟨q, (List.mem_erase_of_ne hne).2 hq, hcq⟩)
    rw [List.length_erase_of_mem hp] at h2
    have h3 : 0 < P.length := List.length_pos_of_mem hp
    omega
theorem mg_pig2 {c : Nat → Nat} {k : Nat} {P : List Nat} (h : ∀ i, i < k → ∃ p, p ∈ P ∧ c p = i) (hl : P.length ≤ k) :
    (∀ p, p ∈ P → c p < k) ∧ ∀ p q, p ∈ P → q ∈ P → c p = c q → p = q := by
  have key : ∀ p, p ∈ P → ¬ ∀ i, i < k → ∃ r, r ∈ P.erase p ∧ c r = i := by
    intro p hp hh
    have h2 := mg_pig c k (P.erase p) hh
    rw [List.length_erase_of_mem hp] at h2
    have h3 : 0 < P.length := List.length_pos_of_mem hp
    omega
  constructor
  · intro p hp
    refine Nat.lt_of_not_le (fun hk => key p hp (fun i hi => ?_))
    obtain ⟨q, hq, hcq⟩ := h i hi
    have hne : q ≠ p := fun e => by rw [e] at hcq; omega
    exact ⟨q, (List.mem_erase_of_ne hne).2 hq, hcq⟩
  · intro p q hp hq hc
    refine Classical.byContradiction (fun hne => key p hp (fun i hi => ?_))
    obtain ⟨r, hr, hcr⟩ := h i hi
    by_cases e : r = p
    · subst e
      exact ⟨q, (List.mem_erase_of_ne (fun e => hne e.symm)).2 hq, by omega⟩
    · exact ⟨r, (List.mem_erase_of_ne e).2 hr, hcr⟩
theorem mg_base (A B : Nat → Prop) (k : Nat) (hk : ∀ S : List Nat, ¬ mg_L (mg_adj []) A B (fun v => v ∉ S) → k ≤ S.length) :
    ∃ c : Nat → Nat, ∀ i, i < k → mg_L (mg_adj []) A B (fun v => c v = i) := by
  have main : ∀ j, j ≤ k → ∃ (S : List Nat) (c : Nat → Nat), S.length = j ∧ ∀ i, i < j → ∃ v, v ∈ S ∧ c v = i ∧ A v ∧ B v := by
    intro j
    induction j with
    | zero => intro _; exact ⟨[], fun _ => 0, rfl, fun i hi => absurd hi (by omega)⟩
    | succ j ih =>
      intro hj
      obtain ⟨S, c, hl, hc⟩ := ih (by omega)
      have hL : mg_L (mg_adj []) A B (fun v => v ∉ S) := Classical.byContradiction (fun hn => by
        have := hk S hn
        omega)
      obtain ⟨v, hB, hv⟩ := hL
      have hA : A v ∧ v ∉ S := hv (fun v => A v ∧ v ∉ S) (fun a ha ht => ⟨ha, ht⟩) (fun u w _ e _ => by
        rcases e with e | e
        · exact absurd e List.not_mem_nil
        · exact absurd e List.not_mem_nil)
      refine ⟨v :: S, fun x => if x = v then j else c x, by rw [List.length_cons, hl], fun i hi => ?_⟩
      by_cases e : i = j
      · exact ⟨v, List.mem_cons_self, (if_pos rfl).trans e.symm, hA.1, hB⟩
      · obtain ⟨w, hw, hcw, hAB⟩ := hc i (by omega)
        have hne : w ≠ v := fun e => hA.2 (e ▸ hw)
        exact ⟨w, List.mem_cons_of_mem _ hw, (if_neg hne).trans hcw, hAB⟩
  obtain ⟨S, c, _, hc⟩ := main k (Nat.le_refl k)
  refine ⟨c, fun i hi => ?_⟩
  obtain ⟨v, _, hcv, hA, hB⟩ := hc i hi
  exact ⟨v, hB, mg_start hA hcv⟩
section
variable {adj adj' : Nat → Nat → Prop} {x y : Nat} {S : List Nat}
theorem mg_or1 {A B : Nat → Prop} (hadj : ∀ u w, adj u w ↔ adj' u w ∨ (u = x ∧ w = y) ∨ (u = y ∧ w = x))
    (hS : ¬ mg_L adj' A B (fun v => v ∉ S)) (hL : mg_L adj A B (fun v => v ∉ S)) :
    mg_R adj' A (fun v => v ∉ S) x ∨ mg_R adj' A (fun v => v ∉ S) y := by
  refine Classical.byContradiction (fun hn => ?_)
  obtain ⟨v, hB, hv⟩ := hL
  refine hS ⟨v, hB, hv _ (fun a ha ht => mg_start ha ht) (fun u w hu e ht => ?_)⟩
  rcases (hadj u w).1 e with e' | ⟨e1, _⟩ | ⟨e1, _⟩
  · exact mg_step hu e' ht
  · exact absurd (Or.inl (e1 ▸ hu)) hn
  · exact absurd (Or.inr (e1 ▸ hu)) hn
theorem mg_sepA {A B : Nat → Prop} {T : List Nat} (hadj : ∀ u w, adj u w ↔ adj' u w ∨ (u = x ∧ w = y) ∨ (u = y ∧ w = x))
    (sym' : ∀ u w, adj' u w → adj' w u)
    (hS : ¬ mg_L adj' A B (fun v => v ∉ S)) (hy : mg_R adj' B (fun v => v ∉ S) y)
    (hT : ¬ mg_L adj' A (fun v => v ∈ x :: S) (fun v => v ∉ T)) : ¬ mg_L adj A B (fun v => v ∉ T) := by
  intro hL
  obtain ⟨v, hB, hv⟩ := hL
  have hP : ∀ v, mg_R adj' A (fun v => v ∉ T) v → v ∉ x :: S := fun v h m => hT ⟨v, m, h⟩
  have key := hv (fun v => mg_R adj' A (fun v => v ∉ T) v ∧ mg_R adj' A (fun v => v ∉ S) v)
    (fun a ha ht => ⟨mg_start ha ht, mg_start ha (fun m => hP a (mg_start ha ht) (List.mem_cons_of_mem _ m))⟩)
    (fun u w hu e ht => by
      rcases (hadj u w).1 e with e' | ⟨e1, _⟩ | ⟨e1, _⟩
      · exact ⟨mg_step hu.1 e' ht, mg_step hu.2 e' (fun m => hP w (mg_step hu.1 e' ht) (List.mem_cons_of_mem _ m))⟩
      · exact absurd (by rw [e1]; exact List.mem_cons_self) (hP u hu.1)
      · subst e1
        exact absurd (mg_cat sym' hu.2 hy) hS)
  exact hS ⟨v, hB, key.2⟩
theorem mg_trim {A T : Nat → Prop} {v : Nat} (hv : mg_R adj' A T v) (hp : v ∈ x :: S) :
    ∃ p, p ∈ x :: S ∧ mg_R adj' A (fun v => T v ∧ (mg_R adj' A (fun v => v ∉ S) v ∨ v ∈ S)) p := by
  have key := hv (fun v => (∃ p, p ∈ x :: S ∧ mg_R adj' A (fun v => T v ∧ (mg_R adj' A (fun v => v ∉ S) v ∨ v ∈ S)) p) ∨
      (mg_R adj' A (fun v => T v ∧ (mg_R adj' A (fun v => v ∉ S) v ∨ v ∈ S)) v ∧ mg_R adj' A (fun v => v ∉ S) v))
    (fun a ha ht => by
      by_cases e : a ∈ S
      · exact Or.inl ⟨a, List.mem_cons_of_mem _ e, mg_start ha ⟨ht, Or.inr e⟩⟩
      · exact Or.inr ⟨mg_start ha ⟨ht, Or.inl (mg_start ha e)⟩, mg_start ha e⟩)
    (fun u w hu e ht => by
      rcases hu with hu | hu
      · exact Or.inl hu
      · by_cases m : w ∈ S
        · exact Or.inl ⟨w, List.mem_cons_of_mem _ m, mg_step hu.1 e ⟨ht, Or.inr m⟩⟩
        · exact Or.inr ⟨mg_step hu.1 e ⟨ht, Or.inl (mg_step hu.2 e m)⟩, mg_step hu.2 e m⟩)
  rcases key with k | k
  · exact k
  · exact ⟨v, hp, k.1⟩
theorem mg_inv {c d : Nat → Nat} {P : List Nat} (inj : ∀ p q, p ∈ P → q ∈ P → c p = c q → p = q) : ∃ g : Nat → Nat, ∀ q, q ∈ P → g (c q) = d q := by
  refine ⟨fun j => d (Classical.epsilon (fun q => q ∈ P ∧ c q = j)), fun q hq => ?_⟩
  have h := Classical.epsilon_spec (p := fun r => r ∈ P ∧ c r = c q) ⟨q, hq, rfl⟩
  exact congrArg d (inj _ _ h.1 hq h.2)
theorem mg_glue {A B : Nat → Prop} {k : Nat} (hadj : ∀ u w, adj u w ↔ adj' u w ∨ (u = x ∧ w = y) ∨ (u = y ∧ w = x))
    (sym' : ∀ u w, adj' u w → adj' w u)
    (ih : ∀ A B : Nat → Prop, (∀ S : List Nat, ¬ mg_L adj' A B (fun v => v ∉ S) → k ≤ S.length) → ∃ c : Nat → Nat, ∀ i, i < k → mg_L adj' A B (fun v => c v = i))
    (hk : ∀ S : List Nat, ¬ mg_L adj A B (fun v => v ∉ S) → k ≤ S.length)
    (hl : S.length < k) (hS : ¬ mg_L adj' A B (fun v => v ∉ S))
    (hx : mg_R adj' A (fun v => v ∉ S) x) (hy : mg_R adj' B (fun v => v ∉ S) y) :
    ∃ c : Nat → Nat, ∀ i, i < k → mg_L adj A B (fun v => c v = i) := by
  have sym : ∀ u w, adj u w → adj w u := by
    intro u w e
    rcases (hadj u w).1 e with e' | ⟨e1, e2⟩ | ⟨e1, e2⟩
    · exact (hadj w u).2 (Or.inl (sym' u w e'))
    · exact (hadj w u).2 (Or.inr (Or.inr ⟨e2, e1⟩))
    · exact (hadj w u).2 (Or.inr (Or.inl ⟨e2, e1⟩))
  have hadj2 : ∀ u w, adj u w ↔ adj' u w ∨ (u = y ∧ w = x) ∨ (u = x ∧ w = y) := fun u w => by rw [hadj u w, Or.comm (a := u = x ∧ w = y)]
  have hS2 : ¬ mg_L adj' B A (fun v => v ∉ S) := fun h => hS (mg_Lsym sym' h)
  obtain ⟨c1, h1⟩ := ih A (fun v => v ∈ x :: S) (fun T hT => hk T (mg_sepA hadj sym' hS hy hT))
  obtain ⟨c2, h2⟩ := ih B (fun v => v ∈ y :: S) (fun T hT => hk T (fun h => mg_sepA hadj2 sym' hS2 hx hT (mg_Lsym sym h)))
  have t1 : ∀ i, i < k → ∃ p, p ∈ x :: S ∧ mg_R adj' A (fun v => c1 v = i ∧ (mg_R adj' A (fun v => v ∉ S) v ∨ v ∈ S)) p := fun i hi => by
    obtain ⟨v, hv, hr⟩ := h1 i hi
    exact mg_trim hr hv
  have t2 : ∀ i, i < k → ∃ p, p ∈ y :: S ∧ mg_R adj' B (fun v => c2 v = i ∧ (mg_R adj' B (fun v => v ∉ S) v ∨ v ∈ S)) p := fun i hi => by
    obtain ⟨v, hv, hr⟩ := h2 i hi
    exact mg_trim hr hv
  have i2 := mg_pig2 (c := c2) (k := k) (P := y :: S) (fun i hi => by
    obtain ⟨p, hp, hr⟩ := t2 i hi
    exact ⟨p, hp, (mg_in hr).1⟩) (by rw [List.length_cons]; omega)
  obtain ⟨g, hg⟩ := mg_inv (c := c2) (d := fun v => if v = y then c1 x else c1 v) i2.2
  have hyS : y ∉ S := mg_in hy
  have hdis : ∀ v, mg_R adj' A (fun v => v ∉ S) v → mg_R adj' B (fun v => v ∉ S) v → False := fun v ha hb => hS (mg_cat sym' ha hb)
  have main : ∃ c : Nat → Nat, (∀ v, (mg_R adj' A (fun v => v ∉ S) v ∨ v ∈ S) → c v = c1 v) ∧ (∀ v, ¬ (mg_R adj' A (fun v => v ∉ S) v ∨ v ∈ S) → c v = g (c2 v)) := by
    classical
    exact ⟨fun v => if mg_R adj' A (fun v => v ∉ S) v ∨ v ∈ S then c1 v else g (c2 v), fun v h => if_pos h, fun v h => if_neg h⟩
  obtain ⟨c, hc1, hc2⟩ := main
  refine ⟨c, fun i hi => ?_⟩
  obtain ⟨p, hp, hr⟩ := t1 i hi
  have hcp : c1 p = i := (mg_in hr).1
  have ra : mg_R adj A (fun v => c v = i) p := mg_mono hr (fun a ha ht => ⟨ha, (hc1 a ht.2).trans ht.1⟩) (fun u w _ e ht => ⟨(hadj u w).2 (Or.inl e), (hc1 w ht.2).trans ht.1⟩)
  have hB : ∀ q, q ∈ y :: S → g (c2 q) = i → (q ∈ S → c1 q = i) → mg_R adj B (fun v => c v = i) q := by
    intro q hq hgq hqS
    obtain ⟨q', hq', hr'⟩ := t2 (c2 q) (i2.1 q hq)
    have e : q' = q := i2.2 q' q hq' hq (mg_in hr').1
    rw [e] at hr'
    have hT : ∀ v, c2 v = c2 q ∧ (mg_R adj' B (fun v => v ∉ S) v ∨ v ∈ S) → c v = i := by
      intro v hv
      rcases hv.2 with hd | hs
      · have hn : ¬ (mg_R adj' A (fun v => v ∉ S) v ∨ v ∈ S) := fun h => by
          rcases h with h | h
          · exact hdis v h hd
          · exact mg_in hd h
        rw [hc2 v hn, hv.1, hgq]
      · have e2 : v = q := i2.2 v q (List.mem_cons_of_mem _ hs) hq hv.1
        rw [hc1 v (Or.inr hs), e2]
        exact hqS (e2 ▸ hs)
    exact mg_mono hr' (fun a ha ht => ⟨ha, hT a ht⟩) (fun u w _ e ht => ⟨(hadj u w).2 (Or.inl e), hT w ht⟩)
  by_cases e : p = x
  · subst e
    have rb := hB y List.mem_cons_self (by rw [hg y List.mem_cons_self, if_pos rfl, hcp]) (fun h => absurd h hyS)
    have hcy : c y = i := mg_in (T := fun v => c v = i) rb
    exact mg_cat sym (mg_step ra ((hadj p y).2 (Or.inr (Or.inl ⟨rfl, rfl⟩))) hcy) rb
  · have hpS : p ∈ S := by
      rcases List.mem_cons.1 hp with h | h
      · exact absurd h e
      · exact h
    have hpy : p ≠ y := fun h => hyS (h ▸ hpS)
    have rb := hB p (List.mem_cons_of_mem _ hpS) (by rw [hg p (List.mem_cons_of_mem _ hpS), if_neg hpy, hcp]) (fun _ => hcp)
    exact mg_cat sym ra rb
end
theorem mg_asym (E : List (Nat × Nat)) : ∀ u w, mg_adj E u w → mg_adj E w u := fun _ _ h => Or.comm.1 h
theorem mg_acons (x y : Nat) (E : List (Nat × Nat)) (u w : Nat) : mg_adj ((x, y) :: E) u w ↔ mg_adj E u w ∨ (u = x ∧ w = y) ∨ (u = y ∧ w = x) := by
  unfold mg_adj
  rw [List.mem_cons, List.mem_cons, Prod.mk.injEq, Prod.mk.injEq]
  constructor
  · intro h
    rcases h with (h | h) | (h | h)
    · exact Or.inr (Or.inl h)
    · exact Or.inl (Or.inl h)
    · exact Or.inr (Or.inr ⟨h.2, h.1⟩)
    · exact Or.inl (Or.inr h)
  · intro h
    rcases h with (h | h) | h | h
    · exact Or.inl (Or.inr h)
    · exact Or.inr (Or.inr h)
    · exact Or.inl (Or.inl h)
    · exact Or.inr (Or.inl ⟨h.2, h.1⟩)
theorem mg_menger : ∀ (E : List (Nat × Nat)) (A B : Nat → Prop) (k : Nat),
    (∀ S : List Nat, ¬ mg_L (mg_adj E) A B (fun v => v ∉ S) → k ≤ S.length) → ∃ c : Nat → Nat, ∀ i, i < k → mg_L (mg_adj E) A B (fun v => c v = i) := by
  intro E
  induction E with
  | nil => exact mg_base
  | cons e E ih =>
    obtain ⟨x, y⟩ := e
    intro A B k hk
    have hadj := mg_acons x y E
    by_cases h1 : ∀ S : List Nat, ¬ mg_L (mg_adj E) A B (fun v => v ∉ S) → k ≤ S.length
    · obtain ⟨c, hc⟩ := ih A B k h1
      refine ⟨c, fun i hi => ?_⟩
      obtain ⟨v, hB, hv⟩ := hc i hi
      exact ⟨v, hB, mg_mono hv (fun a ha ht => ⟨ha, ht⟩) (fun u w _ e ht => ⟨(hadj u w).2 (Or.inl e), ht⟩)⟩
    · obtain ⟨S, h2⟩ := Classical.not_forall.1 h1
      obtain ⟨hS, hlt⟩ := Classical.not_imp.1 h2
      have hl : S.length < k := Nat.lt_of_not_le hlt
      have hL : mg_L (mg_adj ((x, y) :: E)) A B (fun v => v ∉ S) := Classical.byContradiction (fun hn => hlt (hk S hn))
      have hS2 : ¬ mg_L (mg_adj E) B A (fun v => v ∉ S) := fun h => hS (mg_Lsym (mg_asym E) h)
      have hdis : ∀ v, mg_R (mg_adj E) A (fun v => v ∉ S) v → mg_R (mg_adj E) B (fun v => v ∉ S) v → False := fun v ha hb => hS (mg_cat (mg_asym E) ha hb)
      have hadj2 : ∀ u w, mg_adj ((x, y) :: E) u w ↔ mg_adj E u w ∨ (u = y ∧ w = x) ∨ (u = x ∧ w = y) := fun u w => by rw [hadj u w, Or.comm (a := u = x ∧ w = y)]
      have hA := mg_or1 hadj hS hL
      have hB := mg_or1 hadj hS2 (mg_Lsym (mg_asym _) hL)
      have ih' : ∀ A B : Nat → Prop, (∀ S : List Nat, ¬ mg_L (mg_adj E) A B (fun v => v ∉ S) → k ≤ S.length) → ∃ c : Nat → Nat, ∀ i, i < k → mg_L (mg_adj E) A B (fun v => c v = i) := fun A B => ih A B k
      rcases hA with ha | ha
      · rcases hB with hb | hb
        · exact absurd hb (fun h => hdis x ha h)
        · exact mg_glue hadj (mg_asym E) ih' hk hl hS ha hb
      · rcases hB with hb | hb
        · exact mg_glue hadj2 (mg_asym E) ih' hk hl hS ha hb
        · exact absurd hb (fun h => hdis y ha h)
end
section
/-! sizes of sets of naturals below k, masks, and the graph in an array of masks -/
def gz (p : Nat → Bool) : Nat → Nat
  | 0 => 0
  | k + 1 => gz p k + (if p k = true then 1 else 0)
theorem gz_le (p : Nat → Bool) : ∀ k, gz p k ≤ k := by
  intro k
  induction k with
  | zero => exact Nat.le_refl 0
  | succ k ih =>
    show gz p k + (if p k = true then 1 else 0) ≤ k + 1
    split <;> omega
theorem gz_mono {p q : Nat → Bool} : ∀ k, (∀ v, v < k → p v = true → q v = true) → gz p k ≤ gz q k := by
  intro k
  induction k with
  | zero => intro _; exact Nat.le_refl 0
  | succ k ih =>
    intro h
    have h1 := ih (fun v hv => h v (by omega))
    have h2 := h k (by omega)
    show gz p k + (if p k = true then 1 else 0) ≤ gz q k + (if q k = true then 1 else 0)
    by_cases e : p k = true
    · rw [if_pos e, if_pos (h2 e)]; omega
    · rw [if_neg e]; split <;> omega
theorem gz_congr {p q : Nat → Bool} (k : Nat) (h : ∀ v, v < k → p v = q v) : gz p k = gz q k :=
  Nat.le_antisymm (gz_mono k (fun v hv e => (h v hv) ▸ e)) (gz_mono k (fun v hv e => (h v hv).symm ▸ e))
theorem gz_lt {p q : Nat → Bool} {w : Nat} : ∀ k, (∀ v, v < k → p v = true → q v = true) → w < k → p w = false → q w = true → gz p k < gz q k := by
  intro k
  induction k with
  | zero => intro _ hw; omega
  | succ k ih =>
    intro h hw hp hq
    show gz p k + (if p k = true then 1 else 0) < gz q k + (if q k = true then 1 else 0)
    by_cases e : w = k
    · have h1 := gz_mono k (fun v hv => h v (by omega))
      rw [← e, hp, hq, e]
      simp
      omega
    · have h1 := ih (fun v hv => h v (by omega)) (by omega) hp hq
      by_cases e : p k = true
      · rw [if_pos e, if_pos (h k (by omega) e)]; omega
      · rw [if_neg e]; split <;> omega
theorem gz_add1 {p q : Nat → Bool} {x : Nat} : ∀ k, (∀ v, v < k → p v = true → v = x ∨ q v = true) → gz p k ≤ gz q k + (if x < k then 1 else 0) := by
  intro k
  induction k with
  | zero => intro _; exact Nat.zero_le _
  | succ k ih =>
    intro h
    have h1 := ih (fun v hv => h v (by omega))
    show gz p k + (if p k = true then 1 else 0) ≤ gz q k + (if q k = true then 1 else 0) + (if x < k + 1 then 1 else 0)
    by_cases e : p k = true
    · rw [if_pos e]
      rcases h k (by omega) e with h2 | h2
      · subst h2
        rw [if_neg (by omega)] at h1
        have h3 : k < k + 1 := by omega
        simp only [if_pos h3]
        omega
      · rw [if_pos h2]
        by_cases hx : x < k
        · rw [if_pos hx] at h1
          have h3 : x < k + 1 := by omega
          simp only [if_pos h3]
          omega
        · rw [if_neg hx] at h1; omega
    · rw [if_neg e]
      by_cases hx : x < k
      · rw [if_pos hx] at h1
        have h3 : x < k + 1 := by omega
        simp only [if_pos h3]
        omega
      · rw [if_neg hx] at h1; omega
theorem gz_split {p q : Nat → Bool} {x : Nat} : ∀ k, x < k → p x = true → q x = false → (∀ v, v < k → v ≠ x → p v = q v) → gz p k = gz q k + 1 := by
  intro k
  induction k with
  | zero => intro h; omega
  | succ k ih =>
    intro hx hp hq h
    show gz p k + (if p k = true then 1 else 0) = gz q k + (if q k = true then 1 else 0) + 1
    by_cases e : x = k
    · have h1 := gz_congr (p := p) (q := q) k (fun v hv => h v (by omega) (by omega))
      rw [← e, hp, hq, e, h1]
      simp
    · have h1 := ih (by omega) hp hq (fun v hv => h v (by omega))
      rw [h1, h k (by omega) (by omega)]
      omega
theorem gz_filter (p : Nat → Bool) : ∀ k, ((List.range k).filter p).length = gz p k := by
  intro k
  induction k with
  | zero => rfl
  | succ k ih =>
    rw [List.range_succ, List.filter_append, List.length_append, ih]
    show gz p k + _ = gz p k + _
    by_cases e : p k = true
    · simp [List.filter, e]
    · simp [List.filter, e]
theorem gz_list (S : List Nat) (k : Nat) : gz (fun v => decide (v ∈ S)) k ≤ S.length := by
  induction S with
  | nil =>
    have h : gz (fun v => decide (v ∈ ([] : List Nat))) k ≤ gz (fun _ => false) k := gz_mono k (fun v _ h => by simp at h)
    have h2 : ∀ k, gz (fun _ => false) k = 0 := by
      intro k
      induction k with
      | zero => rfl
      | succ k ih => show gz (fun _ => false) k + 0 = 0; omega
    rw [h2 k] at h
    exact h
  | cons x S ih =>
    have h := gz_add1 (p := fun v => decide (v ∈ x :: S)) (q := fun v => decide (v ∈ S)) (x := x) k (fun v _ h => by
      rcases List.mem_cons.1 (of_decide_eq_true h) with h | h
      · exact Or.inl h
      · exact Or.inr (decide_eq_true h))
    rw [List.length_cons]
    by_cases hx : x < k
    · rw [if_pos hx] at h; omega
    · rw [if_neg hx] at h; omega
theorem gz_mask (p : Nat → Bool) : ∀ n, ∃ m, m < 2 ^ n ∧ ∀ v, m.testBit v = (decide (v < n) && p v) := by
  intro n
  induction n with
  | zero => exact ⟨0, by decide, fun v => by simp⟩
  | succ n ih =>
    obtain ⟨m, hm, h⟩ := ih
    by_cases e : p n = true
    · refine ⟨m ||| 2 ^ n, ?_, fun v => ?_⟩
      · exact Nat.or_lt_two_pow (Nat.lt_of_lt_of_le hm (Nat.pow_le_pow_right (by decide) (by omega))) (Nat.pow_lt_pow_right (by decide) (by omega))
      · rw [Nat.testBit_or, h v, Nat.testBit_two_pow]
        by_cases hv : v = n
        · subst hv; simp [e]
        · have h1 : decide (n = v) = false := decide_eq_false (fun h => hv h.symm)
          have h2 : decide (v < n + 1) = decide (v < n) := decide_eq_decide.2 (by omega)
          rw [h1, h2, Bool.or_false]
    · refine ⟨m, Nat.lt_of_lt_of_le hm (Nat.pow_le_pow_right (by decide) (by omega)), fun v => ?_⟩
      rw [h v]
      by_cases hv : v = n
      · subst hv; simp [e]
      · have h2 : decide (v < n + 1) = decide (v < n) := decide_eq_decide.2 (by omega)
        rw [h2]
theorem gz_tb {m n v : Nat} (hm : m < 2 ^ n) (h : m.testBit v = true) : v < n := by
  refine Nat.lt_of_not_le (fun hv => ?_)
  rw [Nat.testBit_lt_two_pow (Nat.lt_of_lt_of_le hm (Nat.pow_le_pow_right (by decide) hv))] at h
  cases h
/-- the size of the set that a mask writes -/
def gs (m : Nat) : Nat := gz (fun v => m.testBit v) 8
theorem gs_le (m : Nat) : gs m ≤ 8 := gz_le _ 8
/-! the graph -/
def gr_adj (n : Nat) (a : Nat → Int32) (u w : Nat) : Prop := u < n ∧ bt (a u) w = true
def gr_R (n : Nat) (a : Nat → Int32) (s : Nat) (T : Nat → Prop) (v : Nat) : Prop := mg_R (gr_adj n a) (fun v => bt (a s) v = true) T v
def gr_L (n : Nat) (a : Nat → Int32) (s t : Nat) (T : Nat → Prop) : Prop := mg_L (gr_adj n a) (fun v => bt (a s) v = true) (fun v => bt (a t) v = true) T
/-- no loops, symmetric, within n -/
def gr_V (n : Nat) (a : Nat → Int32) : Prop := ∀ u w, u < n → bt (a u) w = true → w < n ∧ w ≠ u ∧ bt (a w) u = true
/-- k disjoint leading sets within T beside the ends -/
def gr_P (n : Nat) (a : Nat → Int32) (s t : Nat) (T : Nat → Prop) (k : Nat) : Prop :=
  ∃ c : Nat → Nat, ∀ i, i < k → gr_L n a s t (fun v => c v = i ∧ T v ∧ v ≠ s ∧ v ≠ t)
def gr_M (n : Nat) (a : Nat → Int32) (s t : Nat) (T : Nat → Prop) (k : Nat) : Prop :=
  gr_P n a s t T k ∧ ∀ m, gr_P n a s t T m → m ≤ k
theorem gr_Muniq {n : Nat} {a : Nat → Int32} {s t : Nat} {T : Nat → Prop} {k k' : Nat} (h : gr_M n a s t T k) (h' : gr_M n a s t T k') : k = k' :=
  Nat.le_antisymm (h'.2 k h.1) (h.2 k' h'.1)
theorem gr_sym {n : Nat} {a : Nat → Int32} (V : gr_V n a) : ∀ u w, gr_adj n a u w → gr_adj n a w u := fun u w h => ⟨(V u w h.1 h.2).1, (V u w h.1 h.2).2.2⟩
/-- the mask m writes a wall -/
def gr_W (n : Nat) (a : Nat → Int32) (s t m : Nat) : Prop :=
  m < 2 ^ n ∧ m.testBit s = false ∧ m.testBit t = false ∧ ¬ gr_L n a s t (fun v => m.testBit v = false ∧ v ≠ s ∧ v ≠ t)
/-- m is the first of the least ones of P -/
def gr_F (P : Nat → Prop) (m : Nat) : Prop := P m ∧ ∀ m', P m' → gs m < gs m' ∨ (gs m = gs m' ∧ m ≤ m')
theorem gr_Funiq {P : Nat → Prop} {m m' : Nat} (h : gr_F P m) (h' : gr_F P m') : m = m' := by
  have h1 := h.2 m' h'.1
  have h2 := h'.2 m h.1
  omega
theorem gr_Fcongr {P Q : Nat → Prop} {m : Nat} (e : ∀ m, P m ↔ Q m) (h : gr_F P m) : gr_F Q m :=
  ⟨(e m).1 h.1, fun m' h' => h.2 m' ((e m').2 h')⟩
theorem gr_Fex {P : Nat → Prop} (h : ∃ m, P m) : ∃ m, gr_F P m := by
  obtain ⟨m0, h0⟩ := h
  obtain ⟨k, ⟨m1, h1, e1⟩, hk⟩ := pk_least (fun k => ∃ m, P m ∧ gs m = k) ⟨_, m0, h0, rfl⟩
  obtain ⟨m, ⟨hm, em⟩, hl⟩ := pk_least (fun m => P m ∧ gs m = k) ⟨m1, h1, e1⟩
  refine ⟨m, hm, fun m' h' => ?_⟩
  have h2 : ¬ gs m' < k := fun h => hk _ h ⟨m', h', rfl⟩
  by_cases e : gs m' = k
  · have h3 : ¬ m' < m := fun h => hl _ h ⟨h', e⟩
    omega
  · omega
theorem gr_edges {adj : Nat → Nat → Prop} {n : Nat} (sym : ∀ u w, adj u w → adj w u) (hb : ∀ u w, adj u w → u < n) : ∃ E : List (Nat × Nat), ∀ u w, mg_adj E u w ↔ adj u w := by
  classical
  refine ⟨((List.range n).flatMap (fun u => (List.range n).map (fun w => (u, w)))).filter (fun p => decide (adj p.1 p.2)), fun u w => ?_⟩
  have key : ∀ u w, (u, w) ∈ ((List.range n).flatMap (fun u => (List.range n).map (fun w => (u, w)))).filter (fun p => decide (adj p.1 p.2)) ↔ adj u w := by
    intro u w
    rw [List.mem_filter]
    constructor
    · intro h; exact of_decide_eq_true h.2
    · intro h
      refine ⟨List.mem_flatMap.2 ⟨u, List.mem_range.2 (hb u w h), List.mem_map.2 ⟨w, List.mem_range.2 (hb w u (sym u w h)), rfl⟩⟩, decide_eq_true h⟩
  unfold mg_adj
  rw [key u w, key w u]
  exact ⟨fun h => h.elim id (sym w u), Or.inl⟩
theorem gr_Lmono {n : Nat} {a a' : Nat → Int32} {s t : Nat} {T T' : Nat → Prop} (h : gr_L n a s t T)
    (he : ∀ u w, u < n → T u ∨ u = s ∨ u = t → T w → bt (a u) w = true → bt (a' u) w = true) (hs : s < n) (ht : t < n)
    (hT : ∀ v, T v → T' v) : gr_L n a' s t T' := by
  obtain ⟨v, hB, hv⟩ := h
  exact ⟨v, he t v ht (Or.inr (Or.inr rfl)) (mg_in hv) hB, mg_mono hv (fun w ha hw => ⟨he s w hs (Or.inr (Or.inl rfl)) hw ha, hT w hw⟩) (fun u w hu e hw => ⟨⟨e.1, he u w e.1 (Or.inl hu) hw e.2⟩, hT w hw⟩)⟩
theorem gr_Lin {n : Nat} {a : Nat → Int32} {s t : Nat} {T : Nat → Prop} (V : gr_V n a) (hs : s < n) (h : gr_L n a s t T) : gr_L n a s t (fun v => T v ∧ v < n) := by
  obtain ⟨v, hB, hv⟩ := h
  exact ⟨v, hB, mg_mono hv (fun w ha hw => ⟨ha, hw, (V s w hs ha).1⟩) (fun u w _ e hw => ⟨e, hw, (V u w e.1 e.2).1⟩)⟩
/-- Menger for the masks -/
theorem gr_menger {n : Nat} {a : Nat → Int32} {s t k : Nat} (V : gr_V n a) (hn : n ≤ 8) (hs : s < n) (ht : t < n)
    (hk : ∀ m, gr_W n a s t m → k ≤ gs m) : gr_P n a s t (fun _ => True) k := by
  obtain ⟨E, hE⟩ := gr_edges (n := n) (adj := fun u w => gr_adj n a u w ∧ (u ≠ s ∧ u ≠ t) ∧ (w ≠ s ∧ w ≠ t))
    (fun u w h => ⟨gr_sym V u w h.1, h.2.2, h.2.1⟩) (fun u w h => h.1.1)
  have bt1 : ∀ T : Nat → Prop, mg_L (mg_adj E) (fun v => bt (a s) v = true ∧ v ≠ s ∧ v ≠ t) (fun v => bt (a t) v = true ∧ v ≠ s ∧ v ≠ t) T → gr_L n a s t (fun v => T v ∧ v ≠ s ∧ v ≠ t) := by
    intro T h
    obtain ⟨v, hB, hv⟩ := h
    exact ⟨v, hB.1, mg_mono hv (fun w ha hw => ⟨ha.1, hw, ha.2⟩) (fun u w _ e hw => ⟨((hE u w).1 e).1, hw, ((hE u w).1 e).2.2⟩)⟩
  have bt2 : ∀ T : Nat → Prop, gr_L n a s t (fun v => T v ∧ v ≠ s ∧ v ≠ t) → mg_L (mg_adj E) (fun v => bt (a s) v = true ∧ v ≠ s ∧ v ≠ t) (fun v => bt (a t) v = true ∧ v ≠ s ∧ v ≠ t) T := by
    intro T h
    obtain ⟨v, hB, hv⟩ := h
    exact ⟨v, ⟨hB, (mg_in hv).2⟩, mg_mono hv (fun w ha hw => ⟨⟨ha, hw.2⟩, hw.1⟩) (fun u w hu e hw => ⟨(hE u w).2 ⟨e, hu.2, hw.2⟩, hw.1⟩)⟩
  obtain ⟨c, hc⟩ := mg_menger E _ _ k (fun S hS => by
    obtain ⟨m, hm, hb⟩ := gz_mask (fun v => decide (v ∈ S) && (decide (v ≠ s) && decide (v ≠ t))) n
    have hW : gr_W n a s t m := by
      refine ⟨hm, by rw [hb]; simp, by rw [hb]; simp, fun h => hS (bt2 _ (gr_Lmono (a' := a) (gr_Lin V hs h) (fun _ _ _ _ _ e => e) hs ht ?_))⟩
      intro v hv
      refine ⟨fun hS => ?_, hv.1.2⟩
      have h1 := hv.1.1
      rw [hb v] at h1
      simp [hS, hv.2, hv.1.2.1, hv.1.2.2] at h1
    have h1 := hk m hW
    have h2 : gs m ≤ gz (fun v => decide (v ∈ S)) 8 := gz_mono 8 (fun v _ h => by
      have h3 : m.testBit v = true := h
      rw [hb v] at h3
      simp at h3
      exact decide_eq_true h3.2.1)
    have h3 := gz_list S 8
    omega)
  refine ⟨c, fun i hi => ?_⟩
  have h := bt1 _ (hc i hi)
  exact gr_Lmono (a' := a) h (fun _ _ _ _ _ e => e) hs ht (fun v hv => ⟨hv.1, True.intro, hv.2⟩)
/-- no packing is larger than a wall -/
theorem gr_weak {n : Nat} {a : Nat → Int32} {s t m k : Nat} {T : Nat → Prop} (hn : n ≤ 8) (hs : s < n) (ht : t < n)
    (hW : gr_W n a s t m) (hP : gr_P n a s t T k) : k ≤ gs m := by
  obtain ⟨c, hc⟩ := hP
  have h := mg_pig c k ((List.range 8).filter (fun v => m.testBit v)) (fun i hi => by
    refine Classical.byContradiction (fun hno => hW.2.2.2 (gr_Lmono (a' := a) (hc i hi) (fun _ _ _ _ _ e => e) hs ht (fun v hv => ⟨?_, hv.2.2⟩)))
    refine Bool.eq_false_iff.2 (fun hb => hno ⟨v, ?_, hv.1⟩)
    have h8 := gz_tb hW.1 hb
    exact List.mem_filter.2 ⟨List.mem_range.2 (by omega), hb⟩)
  rw [gz_filter] at h
  exact h
theorem gr_FM {n : Nat} {a : Nat → Int32} {s t m : Nat} (V : gr_V n a) (hn : n ≤ 8) (hs : s < n) (ht : t < n)
    (h : gr_F (gr_W n a s t) m) : gr_M n a s t (fun _ => True) (gs m) :=
  ⟨gr_menger V hn hs ht (fun m' h' => by have := h.2 m' h'; omega), fun _ hk => gr_weak hn hs ht h.1 hk⟩
theorem gr_Pmono {n : Nat} {a a' : Nat → Int32} {s t k : Nat} {T T' : Nat → Prop} (h : gr_P n a s t T k)
    (he : ∀ u w, u < n → bt (a u) w = true → bt (a' u) w = true) (hs : s < n) (ht : t < n) (hT : ∀ v, T v → T' v) : gr_P n a' s t T' k := by
  obtain ⟨c, hc⟩ := h
  exact ⟨c, fun i hi => gr_Lmono (hc i hi) (fun u w hu _ _ e => he u w hu e) hs ht (fun v hv => ⟨hv.1, hT v hv.2.1, hv.2.2⟩)⟩
/-- the mask of all but the ends is a wall -/
theorem gr_all {n : Nat} {s t : Nat} (a : Nat → Int32) (V : gr_V n a) (hs : s < n) : ∃ m, gr_W n a s t m ∧ ∀ v, m.testBit v = (decide (v < n) && (decide (v ≠ s) && decide (v ≠ t))) := by
  obtain ⟨m, hm, hb⟩ := gz_mask (fun v => decide (v ≠ s) && decide (v ≠ t)) n
  refine ⟨m, ⟨hm, by rw [hb]; simp, by rw [hb]; simp, fun h => ?_⟩, hb⟩
  obtain ⟨v, hB, hv⟩ := gr_Lin V hs h
  have h1 := mg_in hv
  have h2 := h1.1.1
  rw [hb v] at h2
  simp [h1.2, h1.1.2.1, h1.1.2.2] at h2
theorem gr_Mex {n : Nat} {a : Nat → Int32} {s t : Nat} (V : gr_V n a) (hn : n ≤ 8) (hs : s < n) (ht : t < n) : ∃ k, gr_M n a s t (fun _ => True) k := by
  obtain ⟨m, hW, _⟩ := gr_all (t := t) a V hs
  obtain ⟨m', h'⟩ := gr_Fex ⟨m, hW⟩
  exact ⟨_, gr_FM V hn hs ht h'⟩
/-- the most paths beside the direct one -/
noncomputable def gm (n : Nat) (a : Nat → Int32) (s t : Nat) : Nat := Classical.epsilon (fun k => gr_M n a s t (fun _ => True) k)
theorem gm_M {n : Nat} {a : Nat → Int32} {s t : Nat} (V : gr_V n a) (hn : n ≤ 8) (hs : s < n) (ht : t < n) : gr_M n a s t (fun _ => True) (gm n a s t) :=
  Classical.epsilon_spec (p := fun k => gr_M n a s t (fun _ => True) k) (gr_Mex V hn hs ht)
theorem gm_eq {n : Nat} {a : Nat → Int32} {s t k : Nat} (h : gr_M n a s t (fun _ => True) k) : gm n a s t = k :=
  gr_Muniq (Classical.epsilon_spec (p := fun k => gr_M n a s t (fun _ => True) k) ⟨k, h⟩) h
theorem gm_le8 {n : Nat} {a : Nat → Int32} {s t : Nat} (V : gr_V n a) (hn : n ≤ 8) (hs : s < n) (ht : t < n) : gm n a s t ≤ 8 := by
  obtain ⟨m, hW, _⟩ := gr_all (t := t) a V hs
  have := gr_weak hn hs ht hW (gm_M V hn hs ht).1
  have := gs_le m
  omega
/-- all paths, the direct one counted -/
noncomputable def gp (n : Nat) (a : Nat → Int32) (s t : Nat) : Nat := (if bt (a s) t = true then 1 else 0) + gm n a s t
theorem gp_mono {n : Nat} {a a' : Nat → Int32} {s t : Nat} (V : gr_V n a) (V' : gr_V n a') (hn : n ≤ 8) (hs : s < n) (ht : t < n)
    (he : ∀ u w, u < n → bt (a u) w = true → bt (a' u) w = true) : gp n a s t ≤ gp n a' s t := by
  have h1 := (gm_M V' hn hs ht).2 _ (gr_Pmono (gm_M V hn hs ht).1 he hs ht (fun _ h => h))
  have h2 := he s t hs
  unfold gp
  by_cases e : bt (a s) t = true
  · rw [if_pos e, if_pos (h2 e)]; omega
  · rw [if_neg e]; split <;> omega
/-- the wall with v of the graph, and the wall of the graph without v -/
theorem gm_loss {n : Nat} {a a' : Nat → Int32} {s t v m : Nat} (V : gr_V n a) (V' : gr_V n a') (hn : n ≤ 8) (hs : s < n) (ht : t < n)
    (hv : v < n) (hvs : v ≠ s) (hvt : v ≠ t)
    (ha : ∀ u w, u < n → w < n → (bt (a' u) w = true ↔ bt (a u) w = true ∧ u ≠ v ∧ w ≠ v))
    (h : gr_F (fun m => gr_W n a s t m ∧ m.testBit v = true) m) : gm n a' s t + 1 = gs m := by
  obtain ⟨m0, hW0, _⟩ := gr_all (t := t) a' V' hs
  obtain ⟨m', h'⟩ := gr_Fex ⟨m0, hW0⟩
  rw [gm_eq (gr_FM V' hn hs ht h')]
  obtain ⟨x, hx, hxb⟩ := gz_mask (fun w => m.testBit w && decide (w ≠ v)) n
  obtain ⟨y, hy, hyb⟩ := gz_mask (fun w => m'.testBit w || decide (w = v)) n
  have hxW : gr_W n a' s t x := by
    refine ⟨hx, by rw [hxb, h.1.1.2.1]; simp, by rw [hxb, h.1.1.2.2.1]; simp, fun hL => h.1.1.2.2.2 ?_⟩
    have hL2 := gr_Lin V' hs hL
    obtain ⟨z, hB, hz⟩ := hL2
    have hzz := mg_in hz
    have hq : ∀ w, w < n → x.testBit w = false → w ≠ v → m.testBit w = false := fun w hw h1 h2 => by
      rw [hxb w] at h1
      simpa [hw, h2] using h1
    have hB2 := (ha t z ht hzz.2).1 hB
    exact ⟨z, hB2.1, mg_mono hz (fun w h1 h2 => ⟨((ha s w hs h2.2).1 h1).1, hq w h2.2 h2.1.1 ((ha s w hs h2.2).1 h1).2.2, h2.1.2⟩)
      (fun u w _ e h2 => ⟨⟨e.1, ((ha u w e.1 h2.2).1 e.2).1⟩, hq w h2.2 h2.1.1 ((ha u w e.1 h2.2).1 e.2).2.2, h2.1.2⟩)⟩
  have hyW : gr_W n a s t y ∧ y.testBit v = true := by
    refine ⟨⟨hy, by rw [hyb, h'.1.2.1]; simp; omega, by rw [hyb, h'.1.2.2.1]; simp; omega, fun hL => h'.1.2.2.2 ?_⟩, by rw [hyb]; simp [hv]⟩
    have hL2 := gr_Lin V hs hL
    obtain ⟨z, hB, hz⟩ := hL2
    have hzz := mg_in hz
    have hq : ∀ w, w < n → y.testBit w = false → m'.testBit w = false ∧ w ≠ v := fun w hw h1 => by
      rw [hyb w] at h1
      simpa [hw] using h1
    refine ⟨z, (ha t z ht hzz.2).2 ⟨hB, fun e => hvt e.symm, (hq z hzz.2 hzz.1.1).2⟩, mg_mono hz (fun w h1 h2 => ⟨(ha s w hs h2.2).2 ⟨h1, fun e => hvs e.symm, (hq w h2.2 h2.1.1).2⟩, (hq w h2.2 h2.1.1).1, h2.1.2⟩)
      (fun u w hu e h2 => ⟨⟨e.1, (ha u w e.1 h2.2).2 ⟨e.2, (hq u hu.2 hu.1.1).2, (hq w h2.2 h2.1.1).2⟩⟩, (hq w h2.2 h2.1.1).1, h2.1.2⟩)⟩
  have e1 : gs m = gs x + 1 := by
    refine gz_split 8 (x := v) (by omega) h.1.2 (by rw [hxb]; simp) (fun w hw hne => ?_)
    show m.testBit w = x.testBit w
    rw [hxb w]
    by_cases hwn : w < n
    · simp [hwn, hne]
    · have : m.testBit w = false := Bool.eq_false_iff.2 (fun hb => hwn (gz_tb h.1.1.1 hb))
      simp [this]
  have e2 : gs y ≤ gs m' + 1 := by
    have h1 := gz_add1 (p := fun w => y.testBit w) (q := fun w => m'.testBit w) (x := v) 8 (fun w hw hb => by
      have h2 : y.testBit w = true := hb
      rw [hyb w] at h2
      simp at h2
      rcases h2.2 with h3 | h3
      · exact Or.inr h3
      · exact Or.inl h3)
    rw [if_pos (by omega)] at h1
    exact h1
  have h1 := h'.2 x hxW
  have h2 := h.2 y hyW
  omega
end
section
/-! bits of masks, and the closure that both sides reckon -/
theorem gb_1 : ∀ i, i < 32 → bt 1 i = decide (i = 0) := by decide +kernel
theorem gb_nI (m : Nat) {i : Nat} (hi : i < 32) : bt (nI m) i = m.testBit i := by
  show (BitVec.ofNat 32 m).getLsbD i = _
  rw [BitVec.getLsbD_ofNat]
  simp [hi]
theorem gb_nIa {m n : Nat} (hm : m < 2 ^ n) (hn : n ≤ 8) (i : Nat) : bt (nI m) i = m.testBit i := by
  by_cases hi : i < 32
  · exact gb_nI m hi
  · rw [b_big (by omega)]
    exact (Bool.eq_false_iff.2 (fun h => hi (by have := gz_tb hm h; omega))).symm
theorem gb_sh {v : Nat} (hv : v < 32) (i : Nat) : bt ((1 : Int32) <<< (nI v &&& 31)) i = decide (i = v) := by
  by_cases hi : i < 32
  · rw [b_shl v hv 1 hi]
    by_cases h : v ≤ i
    · rw [gb_1 _ (by omega), decide_eq_true h, Bool.true_and]
      exact decide_eq_decide.2 (by omega)
    · rw [decide_eq_false h, Bool.false_and, decide_eq_false (by omega)]
  · rw [b_big (by omega), decide_eq_false (by omega)]
theorem gb_not (x : Int32) {i : Nat} (hi : i < 32) : bt (x ^^^ (-1)) i = !bt x i := by
  rw [b_xor, b_m1 i hi, Bool.xor_true]
theorem gb_get {v : Nat} (hv : v < 32) (x : Int32) : ((x >>> (nI v &&& 31)) &&& 1) = nI (if bt x v = true then 1 else 0) := by
  apply b_ext
  intro i hi
  rw [b_and, b_sshr v hv x hi, gb_1 i hi]
  by_cases h : i = 0
  · subst h
    rw [if_pos (by omega), decide_eq_true rfl, Bool.and_true, Nat.add_zero]
    by_cases e : bt x v = true
    · rw [if_pos e, e]; decide
    · rw [if_neg e, Bool.eq_false_iff.2 e]; decide
  · rw [decide_eq_false h, Bool.and_false]
    by_cases e : bt x v = true
    · rw [if_pos e]
      show false = bt 1 i
      rw [gb_1 i hi, decide_eq_false h]
    · rw [if_neg e]
      show false = bt 0 i
      rw [b_0]
theorem gb_get1 {v : Nat} (hv : v < 32) (x : Int32) (h : bt x v = true) : ((x >>> (nI v &&& 31)) &&& 1) = 1 := by
  rw [gb_get hv, if_pos h]; rfl
theorem gb_get0 {v : Nat} (hv : v < 32) (x : Int32) (h : bt x v = false) : ((x >>> (nI v &&& 31)) &&& 1) = 0 := by
  rw [gb_get hv, if_neg (by rw [h]; decide)]; rfl
theorem gb_and0 (x y : Int32) : (x &&& y) = 0 ↔ ¬ ∃ v, bt y v = true ∧ bt x v = true := by
  constructor
  · intro h hv
    obtain ⟨v, h1, h2⟩ := hv
    have h3 := b_and x y v
    rw [h, b_0, h1, h2] at h3
    cases h3
  · intro h
    apply b_ext
    intro i _
    rw [b_and, b_0]
    refine Bool.eq_false_iff.2 (fun e => h ⟨i, ?_⟩)
    rw [Bool.and_eq_true] at e
    exact ⟨e.2, e.1⟩
theorem gb_all : ∀ n, n < 9 → ((1 : Int32) <<< (nI n &&& 31)) = nI (2 ^ n) := by decide +kernel
theorem gb_all1 : ∀ n, n < 9 → ((1 : Int32) <<< (nI n &&& 31)) - 1 = nI (2 ^ n - 1) := by decide +kernel
theorem gb_allb : ∀ n, n < 9 → ∀ i, i < 32 → bt (((1 : Int32) <<< (nI n &&& 31)) - 1) i = decide (i < n) := by decide +kernel
theorem gb_pow {n : Nat} (hn : n ≤ 8) : 2 ^ n ≤ 256 := Nat.pow_le_pow_right (by decide) hn
/-- the mask of all but the ends, as each side writes it -/
def gi_b (n s t m : Nat) : Prop := ∀ v, m.testBit v = (decide (v < n) && (decide (v ≠ s) && decide (v ≠ t)))
theorem gi_X {n s t m : Nat} (hn : n ≤ 8) (hs : s < n) (ht : t < n) (h : gi_b n s t m) :
    (((1 : Int32) <<< (nI n &&& 31)) - 1) &&& ((((1 : Int32) <<< (nI s &&& 31)) ||| ((1 : Int32) <<< (nI t &&& 31))) ^^^ (-1)) = nI m := by
  apply b_ext
  intro i hi
  rw [b_and, gb_allb n (by omega) i hi, gb_not _ hi, b_or, gb_sh (by omega), gb_sh (by omega), gb_nI m hi, h i, Bool.not_or, ← decide_not, ← decide_not]
theorem gi_Y {n s t m : Nat} (hn : n ≤ 8) (hs : s < n) (ht : t < n) (h : gi_b n s t m) :
    ((((1 : Int32) <<< (nI n &&& 31)) - 1) &&& (((1 : Int32) <<< (nI s &&& 31)) ^^^ (-1))) &&& (((1 : Int32) <<< (nI t &&& 31)) ^^^ (-1)) = nI m := by
  apply b_ext
  intro i hi
  rw [b_and, b_and, gb_allb n (by omega) i hi, gb_not _ hi, gb_not _ hi, gb_sh (by omega), gb_sh (by omega), gb_nI m hi, h i, ← decide_not, ← decide_not, Bool.and_assoc]
theorem gi_n8 : ∀ n, n < 9 → gz (fun v => decide (v < n)) 8 = n := by decide +kernel
theorem gi_gs {n s t m : Nat} (hn : n ≤ 8) (hs : s < n) (ht : t < n) (hne : s ≠ t) (h : gi_b n s t m) : gs m + 2 = n := by
  have h1 := gz_split (p := fun v => decide (v < n)) (q := fun v => decide (v < n) && decide (v ≠ s)) (x := s) 8 (by omega) (decide_eq_true hs) (by simp) (fun v _ hv => by simp [hv])
  have h2 := gz_split (p := fun v => decide (v < n) && decide (v ≠ s)) (q := fun v => m.testBit v) (x := t) 8 (by omega) (by simp [ht]; omega) (by simp [h t]) (fun v _ hv => by simp [h v, hv])
  rw [gi_n8 n (by omega)] at h1
  unfold gs
  omega
theorem gi_max {n s t m m' : Nat} {a : Nat → Int32} (hn : n ≤ 8) (h : gi_b n s t m) (hW : gr_W n a s t m') (e : gs m' = gs m) : m' = m := by
  have hsub : ∀ v, m'.testBit v = true → m.testBit v = true := fun v hv => by
    have h1 := gz_tb hW.1 hv
    have h2 : v ≠ s := fun e => by rw [e, hW.2.1] at hv; cases hv
    have h3 : v ≠ t := fun e => by rw [e, hW.2.2.1] at hv; cases hv
    rw [h v]; simp [h1, h2, h3]
  apply Nat.eq_of_testBit_eq
  intro v
  by_cases h1 : m'.testBit v = true
  · rw [h1, hsub v h1]
  · refine Classical.byContradiction (fun hne => ?_)
    have h2 : m'.testBit v = false := Bool.eq_false_iff.2 h1
    have h3 : m.testBit v = true := by
      rw [h2] at hne
      cases hb : m.testBit v with
      | true => rfl
      | false => exact absurd hb.symm hne
    have h5 : v < n := by
      rw [h v] at h3
      simp at h3
      exact h3.1
    have h4 := gz_lt (p := fun v => m'.testBit v) (q := fun v => m.testBit v) (w := v) 8 (fun v _ => hsub v) (by omega) h2 h3
    unfold gs at e
    omega
theorem gi_F {n s t m : Nat} {a : Nat → Int32} (V : gr_V n a) (hs : s < n) (h : gi_b n s t m) : gr_W n a s t m := by
  obtain ⟨m', hW, hb⟩ := gr_all (t := t) a V hs
  have e : m = m' := Nat.eq_of_testBit_eq (fun v => by rw [h v, hb v])
  rw [e]; exact hW
/-! the closure by rounds -/
def gc_C (n : Nat) (a : Nat → Int32) (T : Nat → Prop) (S : Int32) : Prop := ∀ u w, u < n → bt S u = true → bt (a u) w = true → T w → bt S w = true
def gc_I (n : Nat) (a : Nat → Int32) (s : Nat) (T : Nat → Prop) (i : Nat) (S : Int32) : Prop :=
  (∀ v, bt S v = true → gr_R n a s T v) ∧ (∀ v, bt (a s) v = true → T v → bt S v = true) ∧ (gc_C n a T S ∨ i < gz (bt S) n)
theorem gz_zero {p : Nat → Bool} {v : Nat} : ∀ k, v < k → p v = true → 0 < gz p k := by
  intro k hv hp
  have h := gz_lt (p := fun _ => false) (q := p) (w := v) k (fun _ _ h => by cases h) hv rfl hp
  omega
theorem gc_0 {n : Nat} {a : Nat → Int32} {s : Nat} {T : Nat → Prop} {S : Int32} (h : ∀ v, bt S v = true ↔ bt (a s) v = true ∧ T v) : gc_I n a s T 0 S := by
  refine ⟨fun v hv => mg_start ((h v).1 hv).1 ((h v).1 hv).2, fun v h1 h2 => (h v).2 ⟨h1, h2⟩, ?_⟩
  by_cases e : 0 < gz (bt S) n
  · exact Or.inr e
  · exact Or.inl (fun u w hu hS _ _ => absurd (gz_zero n hu hS) e)
theorem gc_least {n : Nat} {a : Nat → Int32} {s : Nat} {T : Nat → Prop} {S : Int32} (h1 : ∀ v, bt (a s) v = true → T v → bt S v = true) (h2 : gc_C n a T S) : ∀ v, gr_R n a s T v → bt S v = true :=
  fun v hv => hv (fun v => bt S v = true) h1 (fun u w hu e ht => h2 u w e.1 hu e.2 ht)
theorem gc_S {n : Nat} {a : Nat → Int32} {s i : Nat} {T : Nat → Prop} {S S' : Int32} (V : gr_V n a) (h : gc_I n a s T i S)
    (hsub : ∀ v, bt S v = true → bt S' v = true)
    (hstep : ∀ u w, u < n → bt S u = true → bt (a u) w = true → T w → bt S' w = true)
    (hsnd : ∀ v, bt S' v = true → gr_R n a s T v) : gc_I n a s T (i + 1) S' := by
  refine ⟨hsnd, fun v h1 h2 => hsub v (h.2.1 v h1 h2), ?_⟩
  by_cases hc : gc_C n a T S
  · refine Or.inl (fun u w hu hS ha ht => ?_)
    exact hsub w (hc u w hu (gc_least h.2.1 hc u (hsnd u hS)) ha ht)
  · rcases h.2.2 with h3 | h3
    · exact absurd h3 hc
    · refine Or.inr ?_
      refine Classical.byContradiction (fun hno => hc (fun u w hu hS ha ht => ?_))
      refine Classical.byContradiction (fun hw => hno ?_)
      have h4 := gz_lt (p := bt S) (q := bt S') (w := w) n (fun v _ => hsub v) (V u w hu ha).1 (Bool.eq_false_iff.2 hw) (hstep u w hu hS ha ht)
      omega
theorem gc_E {n : Nat} {a : Nat → Int32} {s i : Nat} {T : Nat → Prop} {S : Int32} (h : gc_I n a s T i S) (hi : n ≤ i) (v : Nat) : bt S v = true ↔ gr_R n a s T v := by
  have hc : gc_C n a T S := by
    rcases h.2.2 with h3 | h3
    · exact h3
    · have := gz_le (bt S) n
      omega
  exact ⟨h.1 v, gc_least h.2.1 hc v⟩
theorem gc_L {n : Nat} {a : Nat → Int32} {s t i : Nat} {T : Nat → Prop} {S : Int32} (h : gc_I n a s T i S) (hi : n ≤ i) : (S &&& a t) = 0 ↔ ¬ gr_L n a s t T := by
  rw [gb_and0]
  have e : (∃ v, bt (a t) v = true ∧ bt S v = true) ↔ gr_L n a s t T := by
    constructor
    · intro hv
      obtain ⟨v, h1, h2⟩ := hv
      exact ⟨v, h1, (gc_E h hi v).1 h2⟩
    · intro hv
      obtain ⟨v, h1, h2⟩ := hv
      exact ⟨v, h1, (gc_E h hi v).2 h2⟩
  rw [e]
/-- the union of the rows of x's members below k -/
def gn (a : Nat → Int32) (x : Int32) : Nat → Int32
  | 0 => 0
  | k + 1 => if bt x k = true then gn a x k ||| a k else gn a x k
theorem gn_b (a : Nat → Int32) (x : Int32) (w : Nat) : ∀ k, bt (gn a x k) w = true ↔ ∃ v, v < k ∧ bt x v = true ∧ bt (a v) w = true := by
  intro k
  induction k with
  | zero =>
    show bt 0 w = true ↔ _
    rw [b_0]
    refine ⟨fun h => (by cases h), fun h => ?_⟩
    obtain ⟨v, hv, _⟩ := h
    omega
  | succ k ih =>
    show bt (if bt x k = true then gn a x k ||| a k else gn a x k) w = true ↔ _
    by_cases e : bt x k = true
    · rw [if_pos e, b_or, Bool.or_eq_true, ih]
      constructor
      · intro h
        rcases h with ⟨v, h1, h2⟩ | h
        · exact ⟨v, by omega, h2⟩
        · exact ⟨k, by omega, e, h⟩
      · intro h
        obtain ⟨v, h1, h2⟩ := h
        by_cases hv : v = k
        · subst hv; exact Or.inr h2.2
        · exact Or.inl ⟨v, by omega, h2⟩
    · rw [if_neg e, ih]
      constructor
      · intro h
        obtain ⟨v, h1, h2⟩ := h
        exact ⟨v, by omega, h2⟩
      · intro h
        obtain ⟨v, h1, h2⟩ := h
        by_cases hv : v = k
        · subst hv; exact absurd h2.1 e
        · exact ⟨v, by omega, h2⟩
end
section
/-! the component's walks -/
section
variable {post : Int32 → Prop} {n s t : Nat} {a : Nat → Int32} {S T : Int32}
theorem wx_size {x : Int32} (h : post (nI (gz (bt x) 8))) : wpX_sizeOf post x := by
  have key : ∀ d j, j + d = 8 → wX_sizeOf_4 post x (d + 1) (nI (gz (bt x) j)) (nI j) := by
    intro d
    induction d with
    | zero =>
      intro j hj
      have e : j = 8 := by omega
      subst e
      exact pk_le 8 8 (fun _ => h) (fun h => absurd h (by omega))
    | succ d ih =>
      intro j hj
      refine pk_le 8 j (fun h => absurd h (by omega)) (fun _ => nm_r (e' := nI (gz (bt x) (j + 1))) ?_ (nm_r (nI_1 j) (ih (j + 1) (by omega))))
      rw [gb_get (by omega), nI_add]
      rfl
  exact ⟨9, key 8 0 rfl⟩
theorem wx_has {x : Int32} {v : Nat} (hv : v < 32) (h1 : bt x v = true → post 1) (h0 : bt x v = false → post 0) : wpX_contains post x (nI v) := by
  unfold wpX_contains
  by_cases e : bt x v = true
  · rw [gb_get1 hv x e]
    exact br_f (by decide) (h1 e)
  · have e0 : bt x v = false := Bool.eq_false_iff.2 e
    rw [gb_get0 hv x e0]
    exact br_t rfl (h0 e0)
theorem wx_edge {u v : Nat} {N : Int32} (hu : u < 8) (hv : v < 8) (h1 : bt (a u) v = true → post 1) (h0 : bt (a u) v = false → post 0) : wpX_hasEdge post (N, S, T, a) (nI u) (nI v) := by
  unfold wpX_hasEdge
  dsimp only
  rw [nI_clamp (by omega)]
  exact ⟨pk_in u 8 hu, wx_has (by omega) (fun e => ⟨rfl, h1 e⟩) (fun e => ⟨rfl, h0 e⟩)⟩
theorem wx_nb {x : Int32} (hn : n ≤ 8) (h : post (gn a x n)) : wpX_neighboursOf post (nI n, S, T, a) x := by
  have key : ∀ d j, j + d = n → wX_neighboursOf_4 post x (nI n) S T a (d + 1) (gn a x j) (nI j) := by
    intro d
    induction d with
    | zero =>
      intro j hj
      have e : j = n := by omega
      subst e
      exact pk_le j j (fun _ => h) (fun h => absurd h (by omega))
    | succ d ih =>
      intro j hj
      refine pk_le n j (fun h => absurd h (by omega)) (fun _ => ?_)
      have ih2 := ih (j + 1) (by omega)
      by_cases e : bt x j = true
      · rw [gb_get1 (by omega) x e]
        refine br_f (by decide) ⟨pk_in j 8 (by omega), nm_r ?_ (nm_r (nI_1 j) ih2)⟩
        rw [nI_clamp (by omega)]
        show gn a x j ||| a j = (if bt x j = true then gn a x j ||| a j else gn a x j)
        rw [if_pos e]
      · rw [gb_get0 (by omega) x (Bool.eq_false_iff.2 e)]
        have e2 : gn a x (j + 1) = gn a x j := by
          show (if bt x j = true then gn a x j ||| a j else gn a x j) = _
          rw [if_neg e]
        rw [e2] at ih2
        exact br_t rfl (nm_r (nI_1 j) ih2)
  exact ⟨n + 1, key n 0 (by omega)⟩
theorem wx_wall (V : gr_V n a) (hn : n ≤ 8) (hs : s < n) (ht : t < n) {m : Nat} (hm : m < 2 ^ n)
    (h1 : gr_W n a s t m → post 1) (h0 : ¬ gr_W n a s t m → post 0) : wpX_isWall post (nI n, S, T, a) (nI m) (nI s) (nI t) := by
  unfold wpX_isWall
  dsimp only
  unfold wpX_endsOf
  have hb : ∀ v, bt (((1 : Int32) <<< (nI s &&& 31)) ||| ((1 : Int32) <<< (nI t &&& 31))) v = (decide (v = s) || decide (v = t)) := fun v => by
    rw [b_or, gb_sh (by omega), gb_sh (by omega)]
  generalize ((1 : Int32) <<< (nI s &&& 31)) ||| ((1 : Int32) <<< (nI t &&& 31)) = both at hb ⊢
  have hz : (nI m &&& both) = 0 ↔ m.testBit s = false ∧ m.testBit t = false := by
    rw [gb_and0]
    constructor
    · intro h
      refine ⟨Bool.eq_false_iff.2 (fun e => h ⟨s, by rw [hb]; simp, by rw [gb_nIa hm hn]; exact e⟩), Bool.eq_false_iff.2 (fun e => h ⟨t, by rw [hb]; simp, by rw [gb_nIa hm hn]; exact e⟩)⟩
    · intro h hv
      obtain ⟨v, h1, h2⟩ := hv
      rw [hb] at h1
      rw [gb_nIa hm hn] at h2
      rw [Bool.or_eq_true] at h1
      rcases h1 with h1 | h1
      · rw [of_decide_eq_true h1, h.1] at h2; cases h2
      · rw [of_decide_eq_true h1, h.2] at h2; cases h2
  by_cases hends : m.testBit s = false ∧ m.testBit t = false
  · refine br_t (hz.2 hends) (nm_e ⟨pk_in s 8 (by omega), ?_⟩)
    rw [nI_clamp (by omega)]
    have ho : ∀ v, v < 32 → (bt ((nI m ||| both) ^^^ (-1)) v = true ↔ m.testBit v = false ∧ v ≠ s ∧ v ≠ t) := fun v hv => by
      rw [gb_not _ hv, b_or, hb, gb_nIa hm hn]
      simp
    generalize (nI m ||| both) ^^^ (-1) = op at ho
    have hlt : ∀ (x : Int32) v, bt x v = true → v < 32 := fun x v h => Nat.lt_of_not_le (fun hv => by rw [b_big hv] at h; cases h)
    have hfin : ∀ R, gc_I n a s (fun v => m.testBit v = false ∧ v ≠ s ∧ v ≠ t) n R → ((((R &&& (a (nI t).toNatClampNeg)) = 0 → (post 1)) ∧ (¬ (R &&& (a (nI t).toNatClampNeg)) = 0 → (post 0)))) := by
      intro R hR
      rw [nI_clamp (by omega)]
      have hL := gc_L (t := t) hR (Nat.le_refl n)
      refine br_c (fun z => h1 ⟨hm, hends.1, hends.2, hL.1 z⟩) (fun z => h0 (fun hW => z (hL.2 hW.2.2.2)))
    have key : ∀ d i, i + d = n → ∀ R, gc_I n a s (fun v => m.testBit v = false ∧ v ≠ s ∧ v ≠ t) i R → wX_isWall_38 post (nI t) op (nI n) S T a (d + 1) R (nI i) := by
      intro d
      induction d with
      | zero =>
        intro i hi R hR
        have e : i = n := by omega
        subst e
        exact pk_le i i (fun _ => ⟨pk_in t 8 (by omega), hfin R hR⟩) (fun h => absurd h (by omega))
      | succ d ih =>
        intro i hi R hR
        refine pk_le n i (fun h => absurd h (by omega)) (fun _ => wx_nb hn (nm_e (nm_r (nI_1 i) (ih (i + 1) (by omega) _ ?_))))
        have hnew : ∀ v, bt (R ||| (gn a R n &&& op)) v = true ↔ bt R v = true ∨ ((∃ u, u < n ∧ bt R u = true ∧ bt (a u) v = true) ∧ (m.testBit v = false ∧ v ≠ s ∧ v ≠ t)) := by
          intro v
          rw [b_or, b_and, Bool.or_eq_true, Bool.and_eq_true, gn_b]
          constructor
          · intro h
            rcases h with h | h
            · exact Or.inl h
            · exact Or.inr ⟨h.1, (ho v (hlt _ v h.2)).1 h.2⟩
          · intro h
            rcases h with h | h
            · exact Or.inl h
            · obtain ⟨u, _, _, h5⟩ := h.1
              exact Or.inr ⟨h.1, (ho v (hlt _ v h5)).2 h.2⟩
        refine gc_S V hR (fun v hv => (hnew v).2 (Or.inl hv)) (fun u w hu hS ha hT => (hnew w).2 (Or.inr ⟨⟨u, hu, hS, ha⟩, hT⟩)) (fun v hv => ?_)
        rcases (hnew v).1 hv with h | h
        · exact hR.1 v h
        · obtain ⟨u, h3, h4, h5⟩ := h.1
          exact mg_step (hR.1 u h4) ⟨h3, h5⟩ h.2
    refine nm_e ⟨n + 1, key n 0 (by omega) _ (gc_0 (fun v => ?_))⟩
    rw [b_and, Bool.and_eq_true]
    constructor
    · intro h; exact ⟨h.1, (ho v (hlt _ v h.2)).1 h.2⟩
    · intro h; exact ⟨h.1, (ho v (hlt _ v h.1)).2 h.2⟩
  · exact br_f (fun z => hends (hz.1 z)) (h0 (fun hW => hends ⟨hW.2.1, hW.2.2.1⟩))
theorem gs_bt {m n : Nat} (hm : m < 2 ^ n) (hn : n ≤ 8) : gz (bt (nI m)) 8 = gs m := gz_congr 8 (fun v _ => gb_nIa hm hn v)
theorem wx_least (V : gr_V n a) (hn : n ≤ 8) (hs : s < n) (ht : t < n) (hne : s ≠ t) {q : Int32} {Q : Nat → Prop}
    (hq : ∀ m, m < 2 ^ n → ((nI m &&& q) = q ↔ Q m)) (hQ : ∀ m, gi_b n s t m → Q m)
    (h : ∀ m, gr_F (fun m => gr_W n a s t m ∧ Q m) m → post (nI m)) : wpX_leastWall post (nI n, S, T, a) (nI s) (nI t) q := by
  have hp := gb_pow hn
  have hp0 : 0 < 2 ^ n := Nat.two_pow_pos n
  obtain ⟨m0, hm0, hb0⟩ : ∃ m, gr_W n a s t m ∧ gi_b n s t m := gr_all (t := t) a V hs
  have hg0 := gi_gs hn hs ht hne hb0
  have key : ∀ d i, i + d = 2 ^ n → ∀ b, gr_W n a s t b ∧ Q b → (b < i ∨ b = m0) → (∀ m', m' < i → gr_W n a s t m' ∧ Q m' → gs b < gs m' ∨ (gs b = gs m' ∧ b ≤ m')) →
      wX_leastWall_33 post (nI s) (nI t) q (nI (2 ^ n - 1)) (nI n) S T a (d + 1) (nI b) (nI (gs b)) (nI i) := by
    intro d
    induction d with
    | zero =>
      intro i hi b hb _ hl
      refine pk_lt (2 ^ n - 1) i (fun _ => h b ⟨hb, fun m' h' => hl m' ?_ h'⟩) (fun h => absurd h (by omega))
      have := h'.1.1
      omega
    | succ d ih =>
      intro i hi b hb hbi hl
      have hi2 : i < 2 ^ n := by omega
      have hgb := gs_le b
      have hgi := gs_le i
      refine pk_lt (2 ^ n - 1) i (fun h => absurd h (by omega)) (fun _ => wx_size ?_)
      rw [gs_bt hi2 hn]
      have skip : (gr_W n a s t i ∧ Q i → gs b < gs i ∨ (gs b = gs i ∧ b ≤ i)) → wX_leastWall_33 post (nI s) (nI t) q (nI (2 ^ n - 1)) (nI n) S T a (d + 1) (nI b) (nI (gs b)) (nI (i + 1)) := fun hnew =>
        ih (i + 1) (by omega) b hb (by omega) (fun m' hm' h' => by
          by_cases e : m' = i
          · subst e; exact hnew h'
          · exact hl m' (by omega) h')
      refine pk_le (gs b) (gs i) (fun hle => nm_r (nI_1 i) (skip (fun hP => ?_))) (fun hlt => ?_)
      · by_cases e : gs b = gs i
        · refine Or.inr ⟨e, ?_⟩
          rcases hbi with h1 | h1
          · omega
          · have := gi_max hn hb0 hP.1 (by rw [← e, h1])
            omega
        · omega
      · by_cases hQi : Q i
        · refine br_t ((hq i hi2).2 hQi) (wx_wall V hn hs ht hi2 (fun hW => br_f (by decide) (nm_r (nI_1 i) ?_)) (fun hW => br_t rfl (nm_r (nI_1 i) (skip (fun hP => absurd hP.1 hW)))))
          refine ih (i + 1) (by omega) i ⟨hW, hQi⟩ (Or.inl (by omega)) (fun m' hm' h' => ?_)
          by_cases e : m' = i
          · subst e; omega
          · have := hl m' (by omega) h'
            omega
        · exact br_f (fun z => hQi ((hq i hi2).1 z)) (nm_r (nI_1 i) (skip (fun hP => absurd hP.2 hQi)))
  refine nm_r (gb_all1 n (by omega)) ?_
  unfold wpX_endsOf
  refine nm_r (e' := nI m0) ?_ (nm_r (e' := nI (gs m0)) ?_ ⟨2 ^ n + 1, key (2 ^ n) 0 (by omega) m0 ⟨hm0, hQ m0 hb0⟩ (Or.inr rfl) (fun m' hm' => absurd hm' (by omega))⟩)
  · rw [← gb_all1 n (by omega)]
    exact gi_X hn hs ht hb0
  · rw [← hg0]
    show nI (gs m0 + 2) - nI 2 = _
    rw [pk_sub (by omega), Nat.add_sub_cancel]
theorem gq_0 {n : Nat} : ∀ m, m < 2 ^ n → ((nI m &&& 0) = (0 : Int32) ↔ True) := fun m _ => by
  refine ⟨fun _ => True.intro, fun _ => ?_⟩
  apply b_ext
  intro i _
  rw [b_and, b_0, Bool.and_false]
theorem gq_v {n v : Nat} (hn : n ≤ 8) (hv : v < n) : ∀ m, m < 2 ^ n → ((nI m &&& ((1 : Int32) <<< (nI v &&& 31))) = ((1 : Int32) <<< (nI v &&& 31)) ↔ m.testBit v = true) := fun m hm => by
  constructor
  · intro h
    have h2 := congrArg (fun x => bt x v) h
    rw [b_and, gb_sh (by omega), gb_nIa hm hn] at h2
    simpa using h2
  · intro h
    apply b_ext
    intro i _
    rw [b_and, gb_sh (by omega), gb_nIa hm hn]
    by_cases e : i = v
    · subst e; simp [h]
    · simp [e]
theorem wx_least0 (V : gr_V n a) (hn : n ≤ 8) (hs : s < n) (ht : t < n) (hne : s ≠ t)
    (h : ∀ m, gr_F (gr_W n a s t) m → post (nI m)) : wpX_leastWall post (nI n, S, T, a) (nI s) (nI t) 0 :=
  wx_least (Q := fun _ => True) V hn hs ht hne gq_0 (fun _ _ => True.intro) (fun m hm => h m (gr_Fcongr (fun m => ⟨fun h => h.1, fun h => ⟨h, True.intro⟩⟩) hm))
theorem wx_leastV (V : gr_V n a) (hn : n ≤ 8) (hs : s < n) (ht : t < n) (hne : s ≠ t) {v : Nat} (hv : v < n) (hvs : v ≠ s) (hvt : v ≠ t)
    (h : ∀ m, gr_F (fun m => gr_W n a s t m ∧ m.testBit v = true) m → post (nI m)) : wpX_leastWall post (nI n, S, T, a) (nI s) (nI t) ((1 : Int32) <<< (nI v &&& 31)) :=
  wx_least (Q := fun m => m.testBit v = true) V hn hs ht hne (gq_v hn hv) (fun m hm => by rw [hm v]; simp [hv, hvs, hvt]) h
theorem wx_most (V : gr_V n a) (hn : n ≤ 8) (hs : s < n) (ht : t < n) (hne : s ≠ t)
    (h : post (nI (gp n a s t))) : wpX_mostPaths post (nI n, S, T, a) (nI s) (nI t) := by
  unfold wpX_mostPaths
  dsimp only
  refine wx_least0 V hn hs ht hne (fun m hm => ?_)
  have hg := gm_eq (gr_FM V hn hs ht hm)
  unfold gp at h
  rw [hg] at h
  refine wx_edge (by omega) (by omega) (fun e => br_f (by decide) ?_) (fun e => br_t rfl ?_)
  · refine wx_size ?_
    rw [gs_bt hm.1.1 hn]
    rw [if_pos e, ← nI_add] at h
    exact h
  · refine wx_size ?_
    rw [gs_bt hm.1.1 hn]
    rw [if_neg (by rw [e]; decide), ← nI_add] at h
    exact h
end
end
section
/-! the reference's walks: has, sizeOf, leads, parts, paths, leastCut -/
section
variable {post : Int32 → Prop} {n s t : Nat} {a w mo : Nat → Int32}
theorem wy_has {x : Int32} {v : Nat} {N S T : Int32} (hv : v < 32) (h1 : bt x v = true → post 1) (h0 : bt x v = false → post 0) : wpY_has post (N, S, T, a, w, mo) x (nI v) := by
  unfold wpY_has
  dsimp only
  by_cases e : bt x v = true
  · rw [gb_get1 hv x e]
    exact br_t rfl (h1 e)
  · have e0 : bt x v = false := Bool.eq_false_iff.2 e
    rw [gb_get0 hv x e0]
    exact br_f (by decide) (h0 e0)
theorem wy_size {x N S T : Int32} (h : post (nI (gz (bt x) 8))) : wpY_sizeOf post (N, S, T, a, w, mo) x := by
  have key : ∀ d j, j + d = 8 → wY_sizeOf_4 post x N S T a w mo (d + 1) (nI (gz (bt x) j)) (nI j) := by
    intro d
    induction d with
    | zero =>
      intro j hj
      have e : j = 8 := by omega
      subst e
      exact pk_le 8 8 (fun _ => h) (fun h => absurd h (by omega))
    | succ d ih =>
      intro j hj
      refine pk_le 8 j (fun h => absurd h (by omega)) (fun _ => nm_r (e' := nI (gz (bt x) (j + 1))) ?_ (nm_r (nI_1 j) (ih (j + 1) (by omega))))
      rw [gb_get (by omega), nI_add]
      rfl
  exact ⟨9, key 8 0 rfl⟩
theorem wy_leads (V : gr_V n a) (hn : n ≤ 8) (hs : s < n) (ht : t < n) {X : Int32}
    (h1 : gr_L n a s t (fun v => bt X v = true) → post 1) (h0 : ¬ gr_L n a s t (fun v => bt X v = true) → post 0) : wpY_leads post (nI n, nI s, nI t, a, w, mo) X := by
  have inner : ∀ (i : Nat) (J : Int32 → Int32 → Prop) (R : Int32), gc_I n a s (fun v => bt X v = true) i R → (∀ R', gc_I n a s (fun v => bt X v = true) (i + 1) R' → J R' (nI (i + 1))) →
      ∀ d j, j + d = n → ∀ R', (∀ v, bt R v = true → bt R' v = true) → (∀ u z, u < j → bt R u = true → bt (a u) z = true → bt X z = true → bt R' z = true) → (∀ v, bt R' v = true → gr_R n a s (fun v => bt X v = true) v) →
      wY_leads_23 post J X (nI i) (nI n) (nI s) (nI t) a w mo (d + 1) R' (nI j) := by
    intro i J R hR hJ d
    induction d with
    | zero =>
      intro j hj R' h3 h4 h5
      have e : j = n := by omega
      subst e
      exact pk_le j j (fun _ => nm_r (nI_1 i) (hJ R' (gc_S V hR h3 h4 h5))) (fun h => absurd h (by omega))
    | succ d ih =>
      intro j hj R' h3 h4 h5
      refine pk_le n j (fun h => absurd h (by omega)) (fun _ => wy_has (by omega) (fun e => br_f (by decide) ⟨pk_in j 8 (by omega), ?_⟩) (fun e => br_t rfl (nm_r (nI_1 j) (ih (j + 1) (by omega) R' h3 (fun u z hu hS ha hX => ?_) h5))))
      · rw [nI_clamp (by omega)]
        refine nm_e (nm_r (nI_1 j) (ih (j + 1) (by omega) _ (fun v hv => by rw [b_or, h3 v hv, Bool.true_or]) (fun u z hu hS ha hX => ?_) (fun v hv => ?_)))
        · by_cases e2 : u = j
          · subst e2
            rw [b_or, b_and, ha, hX]
            simp
          · rw [b_or, h4 u z (by omega) hS ha hX, Bool.true_or]
        · rw [b_or, b_and, Bool.or_eq_true, Bool.and_eq_true] at hv
          rcases hv with hv | hv
          · exact h5 v hv
          · exact mg_step (h5 j e) ⟨by omega, hv.1⟩ hv.2
      · by_cases e2 : u = j
        · subst e2
          rw [h3 u hS] at e
          cases e
        · exact h4 u z (by omega) hS ha hX
  have outer : ∀ d i, i + d = 8 → ∀ R, gc_I n a s (fun v => bt X v = true) i R → wY_leads_14 post X (nI n) (nI s) (nI t) a w mo (d + 1) R (nI i) := by
    intro d
    induction d with
    | zero =>
      intro i hi R hR
      have e : i = 8 := by omega
      subst e
      refine pk_le 8 8 (fun _ => ⟨pk_in t 8 (by omega), ?_⟩) (fun h => absurd h (by omega))
      rw [nI_clamp (by omega)]
      have hL := gc_L (t := t) hR hn
      exact br_c (fun z => h0 (hL.1 z)) (fun z => h1 (Classical.byContradiction (fun h => z (hL.2 h))))
    | succ d ih =>
      intro i hi R hR
      exact pk_le 8 i (fun h => absurd h (by omega)) (fun _ => ⟨n + 1, inner i _ R hR (fun R' hR' => ih (i + 1) (by omega) R' hR') n 0 (by omega) R (fun _ h => h) (fun u _ hu => absurd hu (by omega)) hR.1⟩)
  unfold wpY_leads
  dsimp only
  rw [nI_clamp (by omega)]
  refine ⟨pk_in s 8 (by omega), nm_e ⟨9, outer 8 0 rfl _ (gc_0 (fun v => ?_))⟩⟩
  rw [b_and, Bool.and_eq_true]
/-! subsets as masks -/
def ms (m A : Nat) : Prop := ∀ v, m.testBit v = true → A.testBit v = true
theorem ms_and {m A : Nat} : m &&& A = m ↔ ms m A := by
  constructor
  · intro h v hv
    rw [← h, Nat.testBit_and, Bool.and_eq_true] at hv
    exact hv.2
  · intro h
    apply Nat.eq_of_testBit_eq
    intro v
    rw [Nat.testBit_and]
    by_cases e : m.testBit v = true
    · rw [e, h v e]; rfl
    · rw [Bool.eq_false_iff.2 e]; rfl
theorem ms_I {m A : Nat} (hm : m < 2 ^ 31) (hA : A < 2 ^ 31) : (nI m &&& nI A) = nI m ↔ ms m A := by
  rw [nx_and, nI_eq (Nat.lt_of_le_of_lt Nat.and_le_left hm) hm, ms_and]
theorem ms_le {m A : Nat} (h : ms m A) : m ≤ A := by
  have e := ms_and.2 h
  rw [← e]
  exact Nat.and_le_right
theorem ms_sub {m p : Nat} (hm : m < 256) (hp : p < 256) : ∃ q, q < 256 ∧ nI m &&& (nI p ^^^ (-1)) = nI q ∧ ∀ v, q.testBit v = (m.testBit v && !p.testBit v) := by
  obtain ⟨q, hq, hb⟩ := gz_mask (fun v => m.testBit v && !p.testBit v) 8
  have hb2 : ∀ v, q.testBit v = (m.testBit v && !p.testBit v) := fun v => by
    rw [hb v]
    by_cases hv : v < 8
    · simp [hv]
    · have h1 : m.testBit v = false := Bool.eq_false_iff.2 (fun h => hv (gz_tb (n := 8) hm h))
      rw [h1]; simp
  refine ⟨q, hq, ?_, hb2⟩
  apply b_ext
  intro i hi
  rw [b_and, gb_not _ hi, gb_nI m hi, gb_nI p hi, gb_nI q hi, hb2 i]
/-- the most disjoint leading sets within the set that m writes -/
def im (n : Nat) (a : Nat → Int32) (s t m k : Nat) : Prop := gr_M n a s t (fun v => m.testBit v = true) k
/-- the set that m writes leads -/
def il (n : Nat) (a : Nat → Int32) (s t m : Nat) : Prop := gr_L n a s t (fun v => bt (nI m) v = true)
theorem il_tb {n : Nat} {a : Nat → Int32} {s t m : Nat} (hm : m < 256) : il n a s t m ↔ gr_L n a s t (fun v => m.testBit v = true) := by
  unfold il
  have e : (fun v => bt (nI m) v = true) = (fun v => m.testBit v = true) := funext (fun v => by rw [gb_nIa (n := 8) hm (Nat.le_refl 8)])
  rw [e]
theorem im_le8 {k m : Nat} (V : gr_V n a) (hn : n ≤ 8) (hs : s < n) (ht : t < n) (h : gr_P n a s t (fun v => m.testBit v = true) k) : k ≤ 8 := by
  have h1 := (gm_M V hn hs ht).2 k (gr_Pmono h (fun _ _ _ e => e) hs ht (fun _ _ => True.intro))
  have h2 := gm_le8 (s := s) (t := t) V hn hs ht
  omega
theorem wy_parts (V : gr_V n a) (hn : n ≤ 8) (hs : s < n) (ht : t < n) {A m : Nat} (hA : A < 256) (hmA : ms m A) (hA2 : ∀ v, A.testBit v = true → v ≠ s ∧ v ≠ t)
    (hw : ∀ m', m' ≤ m → ms m' A → (w m' = 0 ↔ ¬ il n a s t m'))
    (hmo : ∀ m', m' < m → ms m' A → ∃ k, k ≤ 8 ∧ mo m' = nI k ∧ im n a s t m' k)
    (h : ∀ k, k ≤ 8 → im n a s t m k → post (nI k)) : wpY_parts post (nI n, nI s, nI t, a, w, mo) (nI m) := by
  have hm : m < 256 := Nat.lt_of_le_of_lt (ms_le hmA) hA
  have hsub : ∀ p, 1 ≤ p → p ≤ m → ms p m → ∃ q, q < m ∧ nI m &&& (nI p ^^^ (-1)) = nI q ∧ (∀ v, q.testBit v = (m.testBit v && !p.testBit v)) ∧ ∃ k, k ≤ 8 ∧ mo q = nI k ∧ im n a s t q k := by
    intro p hp0 hpm hp
    obtain ⟨q, hq, e, hb⟩ := ms_sub hm (Nat.lt_of_le_of_lt hpm hm)
    have hqm : ms q m := fun v hv => by
      rw [hb v, Bool.and_eq_true] at hv
      exact hv.1
    have hlt : q < m := by
      refine Nat.lt_of_le_of_ne (ms_le hqm) (fun e2 => ?_)
      obtain ⟨v, hv⟩ := Nat.exists_testBit_of_ne_zero (x := p) (by omega)
      have h3 := hb v
      rw [e2, hp v hv, hv] at h3
      cases h3
    exact ⟨q, hlt, e, hb, hmo q hlt (fun v hv => hmA v (hqm v hv))⟩
  have key : ∀ d p, p + d = m + 1 → 1 ≤ p → ∀ b, gr_P n a s t (fun v => m.testBit v = true) b →
      (∀ p', 1 ≤ p' → p' < p → ms p' m → il n a s t p' → ∀ q k, (∀ v, q.testBit v = (m.testBit v && !p'.testBit v)) → im n a s t q k → 1 + k ≤ b) →
      wY_parts_4 post (nI m) (nI n) (nI s) (nI t) a w mo (d + 1) (nI b) (nI p) := by
    intro d
    induction d with
    | zero =>
      intro p hp hp1 b hb hl
      refine pk_lt m p (fun _ => h b (im_le8 V hn hs ht hb) ⟨hb, fun k' hk' => ?_⟩) (fun h => absurd h (by omega))
      cases k' with
      | zero => exact Nat.zero_le _
      | succ j =>
        obtain ⟨c, hc⟩ := hk'
        obtain ⟨p', hp', hpb⟩ := gz_mask (fun v => m.testBit v && decide (c v = j)) 8
        have hpb2 : ∀ v, p'.testBit v = (m.testBit v && decide (c v = j)) := fun v => by
          rw [hpb v]
          by_cases hv : v < 8
          · simp [hv]
          · have h1 : m.testBit v = false := Bool.eq_false_iff.2 (fun h => hv (gz_tb (n := 8) hm h))
            rw [h1]; simp
        have hpm : ms p' m := fun v hv => by
          rw [hpb2 v, Bool.and_eq_true] at hv
          exact hv.1
        have hL : gr_L n a s t (fun v => p'.testBit v = true) := gr_Lmono (a' := a) (hc j (by omega)) (fun _ _ _ _ _ e => e) hs ht (fun v hv => by
          have h1 : m.testBit v = true := hv.2.1
          show p'.testBit v = true
          rw [hpb2 v, h1, decide_eq_true hv.1]; rfl)
        have hp1' : 1 ≤ p' := by
          obtain ⟨v, _, hv⟩ := hL
          have hv2 : p'.testBit v = true := mg_in (T := fun v => p'.testBit v = true) hv
          refine Nat.pos_of_ne_zero (fun e => ?_)
          rw [e, Nat.zero_testBit] at hv2
          cases hv2
        have hle := ms_le hpm
        obtain ⟨q, hqm, _, hqb, k, _, _, hk⟩ := hsub p' hp1' hle hpm
        have h2 := hl p' hp1' (by omega) hpm ((il_tb hp').2 hL) q k hqb hk
        have h3 : j ≤ k := hk.2 j ⟨c, fun i hi => gr_Lmono (a' := a) (hc i (by omega)) (fun _ _ _ _ _ e => e) hs ht (fun v hv => ⟨hv.1, by
          have h1 : m.testBit v = true := hv.2.1
          have h4 : c v = i := hv.1
          show q.testBit v = true
          rw [hqb v, hpb2 v, h1, decide_eq_false (by omega)]; rfl, hv.2.2⟩)⟩
        omega
    | succ d ih =>
      intro p hp hp1 b hb hl
      have hb8 := im_le8 V hn hs ht hb
      refine pk_lt m p (fun h => absurd h (by omega)) (fun hpm => ?_)
      have skip : ∀ b', gr_P n a s t (fun v => m.testBit v = true) b' → b ≤ b' → (ms p m → il n a s t p → ∀ q k, (∀ v, q.testBit v = (m.testBit v && !p.testBit v)) → im n a s t q k → 1 + k ≤ b') →
          wY_parts_4 post (nI m) (nI n) (nI s) (nI t) a w mo (d + 1) (nI b') (nI (p + 1)) := fun b' hb' hle hnew =>
        ih (p + 1) (by omega) (by omega) b' hb' (fun p' h1 h2 h3 h4 q k h5 h6 => by
          by_cases e : p' = p
          · subst e; exact hnew h3 h4 q k h5 h6
          · have := hl p' h1 (by omega) h3 h4 q k h5 h6
            omega)
      by_cases hsb : ms p m
      · refine br_t ((ms_I (by omega) (by omega)).2 hsb) ⟨pk_in p 256 (by omega), ?_⟩
        rw [nI_clamp (by omega)]
        by_cases hLp : il n a s t p
        · refine br_f (fun z => (hw p hpm (fun v hv => hmA v (hsb v hv))).1 z hLp) ?_
          obtain ⟨q, hqm, eq, hqb, k, hk8, ek, hk⟩ := hsub p hp1 hpm hsb
          rw [eq, nI_clamp (by omega), ek]
          have e1 : 1 + nI k = nI (1 + k) := nI_add 1 k
          rw [e1]
          have huniq : ∀ q' k', (∀ v, q'.testBit v = (m.testBit v && !p.testBit v)) → im n a s t q' k' → k' = k := fun q' k' h1 h2 => by
            have e2 : q' = q := Nat.eq_of_testBit_eq (fun v => by rw [h1 v, hqb v])
            rw [e2] at h2
            exact gr_Muniq h2 hk
          refine ⟨pk_in q 256 (by omega), pk_le (1 + k) b (fun hle => nm_r (nI_1 p) (skip b hb (Nat.le_refl b) (fun _ _ q' k' h1 h2 => by rw [huniq q' k' h1 h2]; exact hle))) (fun hlt => ⟨pk_in q 256 (by omega), nm_e (nm_r (nI_1 p) (skip (1 + k) ?_ (by omega) (fun _ _ q' k' h1 h2 => by rw [huniq q' k' h1 h2]; exact Nat.le_refl _)))⟩)⟩
          obtain ⟨c, hc⟩ := hk.1
          refine ⟨fun v => if p.testBit v = true then k else c v, fun i hi => ?_⟩
          by_cases e : i = k
          · refine gr_Lmono (a' := a) ((il_tb (Nat.lt_of_le_of_lt hpm hm)).1 hLp) (fun _ _ _ _ _ e => e) hs ht (fun v hv => ⟨?_, hsb v hv, hA2 v (hmA v (hsb v hv))⟩)
            exact (if_pos hv).trans e.symm
          · refine gr_Lmono (a' := a) (hc i (by omega)) (fun _ _ _ _ _ e => e) hs ht (fun v hv => ?_)
            have h1 : q.testBit v = true := hv.2.1
            rw [hqb v, Bool.and_eq_true] at h1
            refine ⟨?_, h1.1, hv.2.2⟩
            have h2 : ¬ p.testBit v = true := fun h => by rw [h] at h1; exact absurd h1.2 (by decide)
            exact (if_neg h2).trans hv.1
        · exact br_t ((hw p hpm (fun v hv => hmA v (hsb v hv))).2 hLp) (nm_r (nI_1 p) (skip b hb (Nat.le_refl b) (fun _ h => absurd h hLp)))
      · exact br_f (fun z => hsb ((ms_I (by omega) (by omega)).1 z)) (nm_r (nI_1 p) (skip b hb (Nat.le_refl b) (fun h => absurd h hsb)))
  exact ⟨m + 1, key m 1 (by omega) (Nat.le_refl 1) 0 ⟨fun _ => 0, fun i hi => absurd hi (by omega)⟩ (fun p' h1 h2 => absurd h1 (by omega))⟩
end
theorem wy_paths {post : Int32 → SY → Prop} {n s t : Nat} {a w mo : Nat → Int32} (V : gr_V n a) (hn : n ≤ 8) (hs : s < n) (ht : t < n)
    (h : ∀ w' mo', post (nI (gp n a s t)) (nI n, nI s, nI t, a, w', mo')) : wpY_paths post (nI n, nI s, nI t, a, w, mo) := by
  obtain ⟨A, hW, hb⟩ : ∃ m, gr_W n a s t m ∧ gi_b n s t m := gr_all (t := t) a V hs
  have hp := gb_pow hn
  have hA : A < 256 := Nat.lt_of_lt_of_le hW.1 hp
  have hA2 : ∀ v, A.testBit v = true → v ≠ s ∧ v ≠ t := fun v hv => by
    rw [hb v] at hv
    simp at hv
    exact hv.2
  have key : ∀ (dr : Nat), (∀ w' mo', post (nI dr + nI (gm n a s t)) (nI n, nI s, nI t, a, w', mo')) → ∀ d i, i + d = A + 1 → ∀ w mo,
      (∀ m', m' < i → ms m' A → (w m' = 0 ↔ ¬ il n a s t m')) → (∀ m', m' < i → ms m' A → ∃ k, k ≤ 8 ∧ mo m' = nI k ∧ im n a s t m' k) →
      wY_paths_33 post (nI A) (nI dr) (nI n) (nI s) (nI t) (d + 1) (nI i) a w mo := by
    intro dr hpost d
    induction d with
    | zero =>
      intro i hi w mo hw hmo
      refine pk_lt A i (fun _ => ⟨pk_in A 256 hA, ?_⟩) (fun h => absurd h (by omega))
      obtain ⟨k, _, ek, hk⟩ := hmo A (by omega) (fun _ h => h)
      rw [nI_clamp (by omega), ek]
      have e : gm n a s t = k := gm_eq ⟨gr_Pmono hk.1 (fun _ _ _ e => e) hs ht (fun _ _ => True.intro), fun m hm => by
        obtain ⟨c, hc⟩ := hm
        refine hk.2 m ⟨c, fun i hi => gr_Lmono (a' := a) (gr_Lin V hs (hc i hi)) (fun _ _ _ _ _ e => e) hs ht (fun v hv => ⟨hv.1.1, ?_, hv.1.2.2⟩)⟩
        show A.testBit v = true
        rw [hb v]
        simp [hv.2, hv.1.2.2.1, hv.1.2.2.2]⟩
      rw [← e]
      exact hpost w mo
    | succ d ih =>
      intro i hi w mo hw hmo
      refine pk_lt A i (fun h => absurd h (by omega)) (fun hiA => ?_)
      by_cases hsb : ms i A
      · refine br_t ((ms_I (by omega) (by omega)).2 hsb) ?_
        have go : ∀ r : Int32, (r = 0 ↔ ¬ il n a s t i) → (r = 0 ∨ r = 1) → (vp_in (nI i) 256 ∧ ∀ (a_whole_29 : Nat → Int32), a_whole_29 = upd w (nI i).toNatClampNeg (vp_nar .boolean r) →
            (wpY_parts (fun r_30 => (vp_in (nI i) 256 ∧ ∀ (a_most_38 : Nat → Int32), a_most_38 = upd mo (nI i).toNatClampNeg r_30 → (∀ (x3_39 : Int32), x3_39 = nI i + 1 → (wY_paths_33 post (nI A) (nI dr) (nI n) (nI s) (nI t) (d + 1) x3_39 a a_whole_29 a_most_38)))) (nI n, nI s, nI t, a, a_whole_29, mo) (nI i))) := by
          intro r hr h01
          refine ⟨pk_in i 256 (by omega), nm_e ?_⟩
          rw [nI_clamp (by omega)]
          have er : vp_nar .boolean r = r := by
            rcases h01 with e | e
            · rw [e]; rfl
            · rw [e]; rfl
          rw [er]
          have hw2 : ∀ m', m' < i + 1 → ms m' A → (upd w i r m' = 0 ↔ ¬ il n a s t m') := fun m' h1 h2 => by
            by_cases e : m' = i
            · subst e; rw [pk_us]; exact hr
            · rw [pk_un e]; exact hw m' (by omega) h2
          refine wy_parts V hn hs ht hA hsb hA2 (fun m' h1 h2 => hw2 m' (by omega) h2) hmo (fun k hk8 hk => ⟨pk_in i 256 (by omega), nm_e (nm_r (nI_1 i) (ih (i + 1) (by omega) _ _ hw2 (fun m' h1 h2 => ?_)))⟩)
          by_cases e : m' = i
          · subst e
            exact ⟨k, hk8, pk_us, hk⟩
          · rw [pk_un e]
            exact hmo m' (by omega) h2
        exact wy_leads V hn hs ht (fun hL => go 1 ⟨fun z => absurd z (by decide), fun z => absurd hL z⟩ (Or.inr rfl)) (fun hL => go 0 ⟨fun _ => hL, fun _ => rfl⟩ (Or.inl rfl))
      · exact br_f (fun z => hsb ((ms_I (by omega) (by omega)).1 z)) (nm_r (nI_1 i) (ih (i + 1) (by omega) w mo (fun m' h1 h2 => by
          by_cases e : m' = i
          · subst e; exact absurd h2 hsb
          · exact hw m' (by omega) h2) (fun m' h1 h2 => by
          by_cases e : m' = i
          · subst e; exact absurd h2 hsb
          · exact hmo m' (by omega) h2)))
  unfold wpY_paths wpY_inner
  dsimp only
  rw [gi_Y hn hs ht hb, nI_clamp (by omega)]
  refine ⟨pk_in s 8 (by omega), wy_has (by omega) (fun e => br_f (by decide) ?_) (fun e => br_t rfl ?_)⟩
  · refine ⟨A + 2, key 1 (fun w' mo' => ?_) (A + 1) 0 (by omega) w mo (fun m' h1 => absurd h1 (by omega)) (fun m' h1 => absurd h1 (by omega))⟩
    have h2 := h w' mo'
    unfold gp at h2
    rw [if_pos e, ← nI_add] at h2
    exact h2
  · refine ⟨A + 2, key 0 (fun w' mo' => ?_) (A + 1) 0 (by omega) w mo (fun m' h1 => absurd h1 (by omega)) (fun m' h1 => absurd h1 (by omega))⟩
    have h2 := h w' mo'
    unfold gp at h2
    rw [if_neg (by rw [e]; decide), ← nI_add] at h2
    exact h2
end
section
/-! the reference's least cut; vertices and pairs; stores of an edge -/
section
variable {post : Int32 → Prop} {n s t : Nat} {a w mo : Nat → Int32}
theorem wy_isCut (V : gr_V n a) (hn : n ≤ 8) (hs : s < n) (ht : t < n) {m : Nat} (hm : m < 2 ^ n)
    (h1 : bt (a s) t = false → gr_W n a s t m → post 1) (h0 : ¬ (bt (a s) t = false ∧ gr_W n a s t m) → post 0) : wpY_isCut post (nI n, nI s, nI t, a, w, mo) (nI m) := by
  obtain ⟨A, hW, hb⟩ : ∃ m, gr_W n a s t m ∧ gi_b n s t m := gr_all (t := t) a V hs
  have hp := gb_pow hn
  have hA : A < 256 := Nat.lt_of_lt_of_le hW.1 hp
  have hm2 : m < 256 := Nat.lt_of_lt_of_le hm hp
  unfold wpY_isCut wpY_inner
  dsimp only
  rw [gi_Y hn hs ht hb, nI_clamp (by omega)]
  refine ⟨pk_in s 8 (by omega), wy_has (by omega) (fun e => br_f (by decide) (h0 (fun h => by rw [e] at h; exact absurd h.1 (by decide)))) (fun e => br_t rfl ?_)⟩
  by_cases hsb : ms m A
  · refine br_t ((ms_I (by omega) (by omega)).2 hsb) ?_
    obtain ⟨q, hq, eq, hqb⟩ := ms_sub hA hm2
    rw [eq]
    have hends : m.testBit s = false ∧ m.testBit t = false := by
      constructor
      · refine Bool.eq_false_iff.2 (fun h => ?_)
        have h2 := hsb s h
        rw [hb s] at h2
        simp at h2
      · refine Bool.eq_false_iff.2 (fun h => ?_)
        have h2 := hsb t h
        rw [hb t] at h2
        simp at h2
    have hL : gr_L n a s t (fun v => bt (nI q) v = true) ↔ gr_L n a s t (fun v => m.testBit v = false ∧ v ≠ s ∧ v ≠ t) := by
      constructor
      · intro h
        refine gr_Lmono (a' := a) h (fun _ _ _ _ _ e => e) hs ht (fun v hv => ?_)
        rw [gb_nIa (n := 8) hq (Nat.le_refl 8), hqb v, hb v] at hv
        simp at hv
        exact ⟨hv.2, hv.1.2⟩
      · intro h
        refine gr_Lmono (a' := a) (gr_Lin V hs h) (fun _ _ _ _ _ e => e) hs ht (fun v hv => ?_)
        rw [gb_nIa (n := 8) hq (Nat.le_refl 8), hqb v, hb v]
        simp [hv.1.1, hv.1.2.1, hv.1.2.2, hv.2]
    exact wy_leads V hn hs ht (fun h => br_f (by decide) (h0 (fun hW => hW.2.2.2.2 (hL.1 h)))) (fun h => br_t rfl (h1 e ⟨hm, hends.1, hends.2, fun h2 => h (hL.2 h2)⟩))
  · refine br_f (fun z => hsb ((ms_I (by omega) (by omega)).1 z)) (h0 (fun hW => hsb (fun v hv => ?_)))
    have h2 := gz_tb hm hv
    have h3 : v ≠ s := fun e => by rw [e, hW.2.2.1] at hv; cases hv
    have h4 : v ≠ t := fun e => by rw [e, hW.2.2.2.1] at hv; cases hv
    rw [hb v]
    simp [h2, h3, h4]
theorem wy_least (V : gr_V n a) (hn : n ≤ 8) (hs : s < n) (ht : t < n) {q : Int32} {Q : Nat → Prop}
    (hq : ∀ m, m < 2 ^ n → ((nI m &&& q) = q ↔ Q m))
    (h1 : ∀ m, gr_F (fun m => bt (a s) t = false ∧ gr_W n a s t m ∧ Q m) m → post (nI m))
    (h0 : (∀ m, ¬ (bt (a s) t = false ∧ gr_W n a s t m ∧ Q m)) → post (-4)) : wpY_leastCut post (nI n, nI s, nI t, a, w, mo) q := by
  have hp := gb_pow hn
  have hp0 : 0 < 2 ^ n := Nat.two_pow_pos n
  have e2 := gb_all n (by omega)
  have key1 : ∀ d i, i + d = 2 ^ n → ∀ b, (bt (a s) t = false ∧ gr_W n a s t b ∧ Q b) → b < i → (∀ m', m' < i → (bt (a s) t = false ∧ gr_W n a s t m' ∧ Q m') → gs b < gs m' ∨ (gs b = gs m' ∧ b ≤ m')) →
      wY_leastCut_9 post q (nI n) (nI s) (nI t) a w mo (d + 1) (nI b) (nI (gs b)) (nI i) := by
    intro d
    induction d with
    | zero =>
      intro i hi b hb _ hl
      refine pk_le (2 ^ n) i (fun _ => h1 b ⟨hb, fun m' h' => hl m' ?_ h'⟩) (fun h => absurd h (by omega)) (hx := e2)
      have := h'.2.1.1
      omega
    | succ d ih =>
      intro i hi b hb hbi hl
      have hi2 : i < 2 ^ n := by omega
      have hgb := gs_le b
      have hgi := gs_le i
      have skip : ((bt (a s) t = false ∧ gr_W n a s t i ∧ Q i) → gs b < gs i ∨ (gs b = gs i ∧ b ≤ i)) → wY_leastCut_9 post q (nI n) (nI s) (nI t) a w mo (d + 1) (nI b) (nI (gs b)) (nI (i + 1)) := fun hnew =>
        ih (i + 1) (by omega) b hb (by omega) (fun m' hm' h' => by
          by_cases e : m' = i
          · subst e; exact hnew h'
          · exact hl m' (by omega) h')
      refine pk_le (2 ^ n) i (fun h => absurd h (by omega)) (fun _ => ?_) (hx := e2)
      by_cases hQi : Q i
      · refine br_t ((hq i hi2).2 hQi) (wy_isCut V hn hs ht hi2 (fun hst hW => br_f (by decide) (wy_size ?_)) (fun hno => br_t rfl (nm_r (nI_1 i) (skip (fun hP => absurd ⟨hP.1, hP.2.1⟩ hno)))))
        rw [gs_bt hi2 hn]
        refine pk_le (gs b) (gs i) (fun hle => nm_r (nI_1 i) (skip (fun _ => by omega))) (fun hlt => wy_size ?_)
        rw [gs_bt hi2 hn]
        refine nm_r (nI_1 i) (ih (i + 1) (by omega) i ⟨hst, hW, hQi⟩ (by omega) (fun m' hm' h' => ?_))
        by_cases e : m' = i
        · subst e; omega
        · have := hl m' (by omega) h'
          omega
      · exact br_f (fun z => hQi ((hq i hi2).1 z)) (nm_r (nI_1 i) (skip (fun hP => absurd hP.2.2 hQi)))
  have key0 : ∀ d i, i + d = 2 ^ n → (∀ m', m' < i → ¬ (bt (a s) t = false ∧ gr_W n a s t m' ∧ Q m')) →
      wY_leastCut_9 post q (nI n) (nI s) (nI t) a w mo (d + 1) (-4) 9 (nI i) := by
    intro d
    induction d with
    | zero =>
      intro i hi hl
      refine pk_le (2 ^ n) i (fun _ => h0 (fun m' h' => hl m' ?_ h')) (fun h => absurd h (by omega)) (hx := e2)
      have := h'.2.1.1
      omega
    | succ d ih =>
      intro i hi hl
      have hi2 : i < 2 ^ n := by omega
      have hgi := gs_le i
      have skip : ¬ (bt (a s) t = false ∧ gr_W n a s t i ∧ Q i) → wY_leastCut_9 post q (nI n) (nI s) (nI t) a w mo (d + 1) (-4) 9 (nI (i + 1)) := fun hnew =>
        ih (i + 1) (by omega) (fun m' hm' h' => by
          by_cases e : m' = i
          · subst e; exact hnew h'
          · exact hl m' (by omega) h')
      refine pk_le (2 ^ n) i (fun h => absurd h (by omega)) (fun _ => ?_) (hx := e2)
      by_cases hQi : Q i
      · refine br_t ((hq i hi2).2 hQi) (wy_isCut V hn hs ht hi2 (fun hst hW => br_f (by decide) (wy_size ?_)) (fun hno => br_t rfl (nm_r (nI_1 i) (skip (fun hP => absurd ⟨hP.1, hP.2.1⟩ hno)))))
        rw [gs_bt hi2 hn]
        refine pk_le 9 (gs i) (fun hle => absurd hle (by omega)) (fun hlt => wy_size ?_)
        rw [gs_bt hi2 hn]
        refine nm_r (nI_1 i) (key1 d (i + 1) (by omega) i ⟨hst, hW, hQi⟩ (by omega) (fun m' hm' h' => ?_))
        by_cases e : m' = i
        · subst e; omega
        · exact absurd h' (hl m' (by omega))
      · exact br_f (fun z => hQi ((hq i hi2).1 z)) (nm_r (nI_1 i) (skip (fun hP => absurd hP.2.2 hQi)))
  exact ⟨2 ^ n + 1, key0 (2 ^ n) 0 (by omega) (fun m' h => absurd h (by omega))⟩
theorem gq_m4 {m : Nat} (hm : m < 2 ^ 31) : ¬ nI m = -4 := fun e => by
  have h := nI_pos hm
  rw [e] at h
  exact h (by decide)
/-! vertices and pairs -/
theorem wx_isV {v : Nat} {S T : Int32} (hn : n ≤ 8) (hv : v < n) (h : post 1) : wpX_isVertex post (nI n, S, T, a) (nI v) :=
  br_f (nI_pos (by omega)) (pk_le n v (fun h => absurd h (by omega)) (fun _ => h))
theorem wx_nV {p S T : Int32} (hn : n ≤ 8) (hp : ¬ ∃ v, v < n ∧ p = nI v) (h : post 0) : wpX_isVertex post (nI n, S, T, a) p := by
  rcases pk_ix p (n := n) (by omega) with h1 | h1 | h1
  · exact br_t h1 h
  · exact br_c (fun _ => h) (fun _ => br_t h1 h)
  · exact absurd h1 hp
theorem wy_isV {v : Nat} {S T : Int32} (hn : n ≤ 8) (hv : v < n) (h : post 1) : wpY_isVertex post (nI n, S, T, a, w, mo) (nI v) :=
  br_f (nI_pos (by omega)) (pk_le n v (fun h => absurd h (by omega)) (fun _ => h))
theorem wy_nV {p S T : Int32} (hn : n ≤ 8) (hp : ¬ ∃ v, v < n ∧ p = nI v) (h : post 0) : wpY_isVertex post (nI n, S, T, a, w, mo) p := by
  rcases pk_ix p (n := n) (by omega) with h1 | h1 | h1
  · exact br_t h1 h
  · exact br_c (fun _ => h) (fun _ => br_t h1 h)
  · exact absurd h1 hp
theorem wx_isP {u v : Nat} {S T : Int32} (hn : n ≤ 8) (hu : u < n) (hv : v < n) (hne : u ≠ v) (h : post 1) : wpX_isPair post (nI n, S, T, a) (nI u) (nI v) := by
  unfold wpX_isPair
  dsimp only
  exact wx_isV hn hu (br_f (by decide) (wx_isV hn hv (br_f (by decide) (pk_eq u v (fun e => absurd e hne) (fun _ => h)))))
theorem wx_nP {p q S T : Int32} (hn : n ≤ 8) (hp : ¬ ∃ u v, u < n ∧ v < n ∧ u ≠ v ∧ p = nI u ∧ q = nI v) (h : post 0) : wpX_isPair post (nI n, S, T, a) p q := by
  unfold wpX_isPair
  dsimp only
  by_cases h1 : ∃ u, u < n ∧ p = nI u
  · obtain ⟨u, hu, rfl⟩ := h1
    refine wx_isV hn hu (br_f (by decide) ?_)
    by_cases h2 : ∃ v, v < n ∧ q = nI v
    · obtain ⟨v, hv, rfl⟩ := h2
      exact wx_isV hn hv (br_f (by decide) (pk_eq u v (fun _ => h) (fun hne => absurd ⟨u, v, hu, hv, hne, rfl, rfl⟩ hp)))
    · exact wx_nV hn h2 (br_t rfl h)
  · exact wx_nV hn h1 (br_t rfl h)
end
/-! an edge stored -/
theorem gx_ext {a b : Nat → Int32} (h : ∀ x i, bt (a x) i = bt (b x) i) : a = b := funext (fun x => b_ext (fun i _ => h x i))
def ge (a : Nat → Int32) (u v : Nat) (on : Bool) : Nat → Int32 :=
  if on = true then upd (upd a u (a u ||| ((1 : Int32) <<< (nI v &&& 31)))) v (upd a u (a u ||| ((1 : Int32) <<< (nI v &&& 31))) v ||| ((1 : Int32) <<< (nI u &&& 31)))
  else upd (upd a u (a u &&& (((1 : Int32) <<< (nI v &&& 31)) ^^^ (-1)))) v (upd a u (a u &&& (((1 : Int32) <<< (nI v &&& 31)) ^^^ (-1))) v &&& (((1 : Int32) <<< (nI u &&& 31)) ^^^ (-1)))
theorem gb_ntrue {x : Int32} {i v : Nat} (hv : v < 32) : bt (x &&& (((1 : Int32) <<< (nI v &&& 31)) ^^^ (-1))) i = (bt x i && !decide (i = v)) := by
  rw [b_and]
  by_cases hi : i < 32
  · rw [gb_not _ hi, gb_sh hv]
  · rw [b_big (x := x) (by omega)]; rfl
theorem ge_b {a : Nat → Int32} {u v : Nat} (hu : u < 8) (hv : v < 8) (hne : u ≠ v) (on : Bool) (x i : Nat) :
    bt (ge a u v on x) i = if (x = u ∧ i = v) ∨ (x = v ∧ i = u) then on else bt (a x) i := by
  unfold ge
  cases on with
  | true =>
    rw [if_pos rfl]
    by_cases e1 : x = v
    · subst e1
      rw [pk_us, b_or, pk_un (by omega), gb_sh (by omega)]
      by_cases e2 : i = u
      · rw [if_pos (Or.inr ⟨rfl, e2⟩), decide_eq_true e2, Bool.or_true]
      · rw [if_neg (by omega), decide_eq_false e2, Bool.or_false]
    · rw [pk_un e1]
      by_cases e2 : x = u
      · subst e2
        rw [pk_us, b_or, gb_sh (by omega)]
        by_cases e3 : i = v
        · rw [if_pos (Or.inl ⟨rfl, e3⟩), decide_eq_true e3, Bool.or_true]
        · rw [if_neg (by omega), decide_eq_false e3, Bool.or_false]
      · rw [pk_un e2, if_neg (by omega)]
  | false =>
    rw [if_neg (by decide)]
    by_cases e1 : x = v
    · subst e1
      rw [pk_us, gb_ntrue (by omega), pk_un (by omega)]
      by_cases e2 : i = u
      · rw [if_pos (Or.inr ⟨rfl, e2⟩), decide_eq_true e2, Bool.not_true, Bool.and_false]
      · rw [if_neg (by omega), decide_eq_false e2, Bool.not_false, Bool.and_true]
    · rw [pk_un e1]
      by_cases e2 : x = u
      · subst e2
        rw [pk_us, gb_ntrue (by omega)]
        by_cases e3 : i = v
        · rw [if_pos (Or.inl ⟨rfl, e3⟩), decide_eq_true e3, Bool.not_true, Bool.and_false]
        · rw [if_neg (by omega), decide_eq_false e3, Bool.not_false, Bool.and_true]
      · rw [pk_un e2, if_neg (by omega)]
theorem gr_Vs {n u v : Nat} {a : Nat → Int32} (V : gr_V n a) (hu : u < n) (hv : v < n) : bt (a u) v = bt (a v) u := by
  by_cases e : bt (a u) v = true
  · rw [e, (V u v hu e).2.2]
  · by_cases e2 : bt (a v) u = true
    · exact absurd (V v u hv e2).2.2 e
    · rw [Bool.eq_false_iff.2 e, Bool.eq_false_iff.2 e2]
theorem ge_V {n u v : Nat} {a : Nat → Int32} (V : gr_V n a) (hn : n ≤ 8) (hu : u < n) (hv : v < n) (hne : u ≠ v) (on : Bool) : gr_V n (ge a u v on) := by
  intro x i hx h
  rw [ge_b (by omega) (by omega) hne] at h
  by_cases c : (x = u ∧ i = v) ∨ (x = v ∧ i = u)
  · rw [if_pos c] at h
    refine ⟨by omega, by omega, ?_⟩
    rw [ge_b (by omega) (by omega) hne, if_pos (by omega)]
    exact h
  · rw [if_neg c] at h
    have h2 := V x i hx h
    refine ⟨h2.1, h2.2.1, ?_⟩
    rw [ge_b (by omega) (by omega) hne, if_neg (by omega)]
    exact h2.2.2
theorem ge_same {n u v : Nat} {a : Nat → Int32} {on : Bool} (V : gr_V n a) (hn : n ≤ 8) (hu : u < n) (hv : v < n) (hne : u ≠ v) (h : bt (a u) v = on) : ge a u v on = a := by
  apply gx_ext
  intro x i
  rw [ge_b (by omega) (by omega) hne]
  by_cases c : (x = u ∧ i = v) ∨ (x = v ∧ i = u)
  · rw [if_pos c]
    rcases c with ⟨e1, e2⟩ | ⟨e1, e2⟩
    · rw [e1, e2, h]
    · rw [e1, e2, ← gr_Vs V hu hv, h]
  · rw [if_neg c]
theorem ge_ge {n u v : Nat} {a : Nat → Int32} {on on' : Bool} (hn : n ≤ 8) (hu : u < n) (hv : v < n) (hne : u ≠ v) : ge (ge a u v on) u v on' = ge a u v on' := by
  apply gx_ext
  intro x i
  rw [ge_b (by omega) (by omega) hne, ge_b (by omega) (by omega) hne, ge_b (by omega) (by omega) hne]
  by_cases c : (x = u ∧ i = v) ∨ (x = v ∧ i = u)
  · rw [if_pos c, if_pos c]
  · rw [if_neg c, if_neg c, if_neg c]
theorem wx_flip {post : SX → Prop} {n u v : Nat} {a : Nat → Int32} {N S T : Int32} (V : gr_V n a) (hn : n ≤ 8) (hu : u < n) (hv : v < n) (hne : u ≠ v)
    (h : post (N, S, T, ge a u v (!bt (a u) v))) : wpX_flipEdge post (N, S, T, a) (nI u) (nI v) := by
  have e : upd (upd a u (a u ^^^ ((1 : Int32) <<< (nI v &&& 31)))) v (upd a u (a u ^^^ ((1 : Int32) <<< (nI v &&& 31))) v ^^^ ((1 : Int32) <<< (nI u &&& 31))) = ge a u v (!bt (a u) v) := by
    apply gx_ext
    intro x i
    rw [ge_b (by omega) (by omega) hne]
    by_cases e1 : x = v
    · subst e1
      rw [pk_us, b_xor, pk_un (by omega), gb_sh (by omega)]
      by_cases e2 : i = u
      · rw [if_pos (Or.inr ⟨rfl, e2⟩), decide_eq_true e2, Bool.xor_true, e2, gr_Vs V hv hu]
      · rw [if_neg (by omega), decide_eq_false e2, Bool.xor_false]
    · rw [pk_un e1]
      by_cases e2 : x = u
      · subst e2
        rw [pk_us, b_xor, gb_sh (by omega)]
        by_cases e3 : i = v
        · rw [if_pos (Or.inl ⟨rfl, e3⟩), decide_eq_true e3, Bool.xor_true, e3]
        · rw [if_neg (by omega), decide_eq_false e3, Bool.xor_false]
      · rw [pk_un e2, if_neg (by omega)]
  unfold wpX_flipEdge
  dsimp only
  rw [nI_clamp (by omega), nI_clamp (by omega)]
  refine ⟨pk_in u 8 (by omega), pk_in u 8 (by omega), nm_e ⟨pk_in v 8 (by omega), pk_in v 8 (by omega), nm_e ?_⟩⟩
  rw [e]
  exact h
theorem wy_put1 {post : SY → Prop} {u v : Nat} {a w mo : Nat → Int32} {N S T : Int32} (hu : u < 8) (hv : v < 8)
    (h : post (N, S, T, ge a u v true, w, mo)) : wpY_put post (N, S, T, a, w, mo) (nI u) (nI v) 1 := by
  unfold wpY_put wY_put_34
  dsimp only
  rw [nI_clamp (by omega), nI_clamp (by omega)]
  exact br_f (by decide) ⟨pk_in u 8 hu, pk_in u 8 hu, nm_e (br_f (by decide) ⟨pk_in v 8 hv, pk_in v 8 hv, nm_e h⟩)⟩
theorem wy_put0 {post : SY → Prop} {u v : Nat} {a w mo : Nat → Int32} {N S T : Int32} (hu : u < 8) (hv : v < 8)
    (h : post (N, S, T, ge a u v false, w, mo)) : wpY_put post (N, S, T, a, w, mo) (nI u) (nI v) 0 := by
  unfold wpY_put wY_put_34
  dsimp only
  rw [nI_clamp (by omega), nI_clamp (by omega)]
  exact br_t rfl ⟨pk_in u 8 hu, pk_in u 8 hu, nm_e (br_t rfl ⟨pk_in v 8 hv, pk_in v 8 hv, nm_e h⟩)⟩
end
section
/-! the loops over pairs, the distance, loss, clear -/
theorem wd_both {n s t : Nat} {a w mo : Nat → Int32} (hn : n ≤ 8) (ht : t < n) : ∀ d e, e + d = n → ∀ R : Int32, ∃ r : Int32,
    (∀ post : Int32 → Prop, post r → wX_distance_9 post (nI n) (nI s) (nI t) a (d + 1) R (nI e)) ∧
    (∀ post : Int32 → Prop, post r → wY_distance_9 post (nI n) (nI s) (nI t) a w mo (d + 1) R (nI e)) := by
  intro d
  induction d with
  | zero =>
    intro e he R
    exact ⟨-4, fun post h => pk_le n e (fun _ => h) (fun h => absurd h (by omega)), fun post h => pk_le n e (fun _ => h) (fun h => absurd h (by omega))⟩
  | succ d ih =>
    intro e he R
    have innerY : ∀ (post : Int32 → Prop) (J : Int32 → Int32 → Prop), (bt (R ||| gn a R n) t = true → post (nI e)) → (bt (R ||| gn a R n) t = false → J (R ||| gn a R n) (nI (e + 1))) →
        ∀ d2 j, j + d2 = n → wY_distance_22 post J R (nI e) (nI n) (nI s) (nI t) a w mo (d2 + 1) (R ||| gn a R j) (nI j) := by
      intro post J h1 h0 d2
      induction d2 with
      | zero =>
        intro j hj
        have ej : j = n := by omega
        subst ej
        exact pk_le j j (fun _ => wy_has (by omega) (fun b => br_f (by decide) (h1 b)) (fun b => br_t rfl (nm_r (nI_1 e) (h0 b)))) (fun h => absurd h (by omega))
      | succ d2 ih2 =>
        intro j hj
        have ih3 := ih2 (j + 1) (by omega)
        refine pk_le n j (fun h => absurd h (by omega)) (fun _ => wy_has (by omega) (fun b => br_f (by decide) ⟨pk_in j 8 (by omega), ?_⟩) (fun b => br_t rfl (nm_r (nI_1 j) ?_)))
        · rw [nI_clamp (by omega)]
          refine nm_r ?_ (nm_r (nI_1 j) ih3)
          show R ||| gn a R j ||| a j = R ||| (if bt R j = true then gn a R j ||| a j else gn a R j)
          rw [if_pos b]
          exact b_ext (fun i _ => by rw [b_or, b_or, b_or, b_or, Bool.or_assoc])
        · have e2 : gn a R (j + 1) = gn a R j := by
            show (if bt R j = true then gn a R j ||| a j else gn a R j) = _
            rw [if_neg (by rw [b]; decide)]
          rw [e2] at ih3
          exact ih3
    have e0 : R ||| gn a R 0 = R := b_ext (fun i _ => by show bt (R ||| 0) i = _; rw [b_or, b_0, Bool.or_false])
    by_cases b : bt (R ||| gn a R n) t = true
    · refine ⟨nI e, fun post h => ?_, fun post h => ?_⟩
      · exact pk_le n e (fun h => absurd h (by omega)) (fun _ => wx_nb hn (nm_e (wx_has (by omega) (fun _ => br_f (by decide) h) (fun b0 => absurd b (by rw [b0]; decide)))))
      · have h2 := innerY post (wY_distance_9 post (nI n) (nI s) (nI t) a w mo (d + 1)) (fun _ => h) (fun b0 => absurd b (by rw [b0]; decide)) n 0 (by omega)
        rw [e0] at h2
        exact pk_le n e (fun h => absurd h (by omega)) (fun _ => ⟨n + 1, h2⟩)
    · have b0 : bt (R ||| gn a R n) t = false := Bool.eq_false_iff.2 b
      obtain ⟨r, hX, hY⟩ := ih (e + 1) (by omega) (R ||| gn a R n)
      refine ⟨r, fun post h => ?_, fun post h => ?_⟩
      · exact pk_le n e (fun h => absurd h (by omega)) (fun _ => wx_nb hn (nm_e (wx_has (by omega) (fun b1 => absurd b1 b) (fun _ => br_t rfl (nm_r (nI_1 e) (hX post h))))))
      · have h2 := innerY post (wY_distance_9 post (nI n) (nI s) (nI t) a w mo (d + 1)) (fun b1 => absurd b1 b) (fun _ => hY post h) n 0 (by omega)
        rw [e0] at h2
        exact pk_le n e (fun h => absurd h (by omega)) (fun _ => ⟨n + 1, h2⟩)
/-! counts over pairs -/
def tr (f : Nat → Bool) : Nat → Nat → Nat
  | _, 0 => 0
  | v, d + 1 => (if f v = true then 1 else 0) + tr f (v + 1) d
def tt (f : Nat → Nat → Bool) (n : Nat) : Nat → Nat → Nat
  | _, 0 => 0
  | u, d + 1 => tr (f u) (u + 1) (n - (u + 1)) + tt f n (u + 1) d
noncomputable def tf (n s t : Nat) (a : Nat → Int32) (e : Bool) (u v : Nat) : Bool := (bt (a u) v == e) && decide (gp n (ge a u v (!e)) s t ≠ gp n a s t)
theorem gp_le {n s t : Nat} {a : Nat → Int32} (V : gr_V n a) (hn : n ≤ 8) (hs : s < n) (ht : t < n) : gp n a s t ≤ 9 := by
  have h := gm_le8 (s := s) (t := t) V hn hs ht
  unfold gp
  split <;> omega
theorem tf_no {n s t : Nat} {a : Nat → Int32} {e : Bool} {u v : Nat} (h : bt (a u) v = !e) : tf n s t a e u v = false := by
  unfold tf
  rw [h]
  cases e <;> rfl
theorem tf_yes {n s t : Nat} {a : Nat → Int32} {e : Bool} {u v : Nat} (h : bt (a u) v = e) : tf n s t a e u v = decide (gp n (ge a u v (!e)) s t ≠ gp n a s t) := by
  unfold tf
  rw [h]
  cases e <;> rfl
theorem tf_y1 {n s t : Nat} {a : Nat → Int32} {e : Bool} {u v : Nat} (h : bt (a u) v = e) (h2 : gp n (ge a u v (!e)) s t ≠ gp n a s t) : tf n s t a e u v = true := by
  rw [tf_yes h]
  exact decide_eq_true h2
theorem tf_y0 {n s t : Nat} {a : Nat → Int32} {e : Bool} {u v : Nat} (h : bt (a u) v = e) (h2 : gp n (ge a u v (!e)) s t = gp n a s t) : tf n s t a e u v = false := by
  rw [tf_yes h]
  exact decide_eq_false (fun z => z h2)
theorem ge_off {n s t u v : Nat} {a : Nat → Int32} (V : gr_V n a) (hn : n ≤ 8) (hs : s < n) (ht : t < n) (hu : u < n) (hv : v < n) (hne : u ≠ v) : gp n (ge a u v false) s t ≤ gp n a s t := by
  refine gp_mono (ge_V V hn hu hv hne false) V hn hs ht (fun x i _ h => ?_)
  rw [ge_b (by omega) (by omega) hne] at h
  by_cases c : (x = u ∧ i = v) ∨ (x = v ∧ i = u)
  · rw [if_pos c] at h; cases h
  · rw [if_neg c] at h; exact h
theorem ge_on {n s t u v : Nat} {a : Nat → Int32} (V : gr_V n a) (hn : n ≤ 8) (hs : s < n) (ht : t < n) (hu : u < n) (hv : v < n) (hne : u ≠ v) : gp n a s t ≤ gp n (ge a u v true) s t := by
  refine gp_mono V (ge_V V hn hu hv hne true) hn hs ht (fun x i _ h => ?_)
  rw [ge_b (by omega) (by omega) hne]
  by_cases c : (x = u ∧ i = v) ∨ (x = v ∧ i = u)
  · rw [if_pos c]
  · rw [if_neg c]; exact h
theorem wx_paf {post : Int32 → SX → Prop} {n s t u v : Nat} {a : Nat → Int32} (V : gr_V n a) (hn : n ≤ 8) (hs : s < n) (ht : t < n) (hst : s ≠ t) (hu : u < n) (hv : v < n) (hne : u ≠ v)
    (h : post (nI (gp n (ge a u v (!bt (a u) v)) s t)) (nI n, nI s, nI t, a)) : wpX_pathsAfterFlip post (nI n, nI s, nI t, a) (nI u) (nI v) := by
  unfold wpX_pathsAfterFlip
  dsimp only
  have V2 := ge_V V hn hu hv hne (!bt (a u) v)
  refine wx_flip V hn hu hv hne (wx_most V2 hn hs ht hst (wx_flip V2 hn hu hv hne ?_))
  rw [ge_ge hn hu hv hne, ge_b (by omega) (by omega) hne, if_pos (Or.inl ⟨rfl, rfl⟩), Bool.not_not, ge_same V hn hu hv hne rfl]
  exact h
section
variable {post : Int32 → SX → Prop} {n s t : Nat} {a : Nat → Int32}
theorem wx_tightI (V : gr_V n a) (hn : n ≤ 8) (hs : s < n) (ht : t < n) (hst : s ≠ t) {u : Nat} (hu : u < n) {J : Int32 → Int32 → Int32 → Int32 → Int32 → (Nat → Int32) → Prop} :
    ∀ d v, v + d = n → u < v → ∀ c, J (nI (c + tr (tf n s t a true u) v d)) (nI (u + 1)) (nI n) (nI s) (nI t) a →
    wX_tightEdges_30 post J (nI (gp n a s t)) (nI u) (d + 1) (nI c) (nI v) (nI n) (nI s) (nI t) a := by
  intro d
  induction d with
  | zero =>
    intro v hv huv c h
    exact pk_le n v (fun _ => nm_r (nI_1 u) h) (fun h => absurd h (by omega))
  | succ d ih =>
    intro v hv huv c h
    have hvn : v < n := by omega
    have hne : u ≠ v := by omega
    have h9 := gp_le (s := s) (t := t) V hn hs ht
    have h10 := gp_le (s := s) (t := t) (ge_V V hn hu hvn hne false) hn hs ht
    have hoff := ge_off (s := s) (t := t) V hn hs ht hu hvn hne
    have go : ∀ c2, c2 = c + (if tf n s t a true u v = true then 1 else 0) → wX_tightEdges_30 post J (nI (gp n a s t)) (nI u) (d + 1) (nI c2) (nI (v + 1)) (nI n) (nI s) (nI t) a := fun c2 e => by
      refine ih (v + 1) (by omega) (by omega) c2 ?_
      rw [e, Nat.add_assoc]
      exact h
    refine pk_le n v (fun h => absurd h (by omega)) (fun _ => wx_edge (by omega) (by omega) (fun b => br_f (by decide) (wx_paf V hn hs ht hst hu hvn hne ?_)) (fun b => br_t rfl (nm_r (nI_1 v) (go c ?_))))
    · rw [b]
      refine pk_le (gp n a s t) (gp n (ge a u v false) s t) (fun hle => nm_r (nI_1 v) (go c ?_)) (fun hlt => nm_r (nI_1 c) (nm_r (nI_1 v) (go (c + 1) ?_)))
      · rw [tf_y0 b (Nat.le_antisymm hoff hle), if_neg (by decide)]
        exact (Nat.add_zero c).symm
      · have hz : gp n (ge a u v false) s t ≠ gp n a s t := by omega
        rw [tf_y1 b hz, if_pos rfl]
    · rw [tf_no b, if_neg (by decide)]; exact (Nat.add_zero c).symm
theorem wx_tightO (V : gr_V n a) (hn : n ≤ 8) (hs : s < n) (ht : t < n) (hst : s ≠ t) :
    ∀ d u, u + d = n → ∀ c, post (nI (c + tt (tf n s t a true) n u d)) (nI n, nI s, nI t, a) →
    wX_tightEdges_17 post (nI (gp n a s t)) (d + 1) (nI c) (nI u) (nI n) (nI s) (nI t) a := by
  intro d
  induction d with
  | zero =>
    intro u hu c h
    exact pk_le n u (fun _ => h) (fun h => absurd h (by omega))
  | succ d ih =>
    intro u hu c h
    refine pk_le n u (fun h => absurd h (by omega)) (fun _ => nm_r (nI_1 u) ⟨(n - (u + 1)) + 1, wx_tightI V hn hs ht hst (by omega) (n - (u + 1)) (u + 1) (by omega) (by omega) c (ih (u + 1) (by omega) _ ?_)⟩)
    rw [Nat.add_assoc]
    exact h
theorem wx_helpI (V : gr_V n a) (hn : n ≤ 8) (hs : s < n) (ht : t < n) (hst : s ≠ t) {u : Nat} (hu : u < n) {J : Int32 → Int32 → Int32 → Int32 → Int32 → (Nat → Int32) → Prop} :
    ∀ d v, v + d = n → u < v → ∀ c, J (nI (c + tr (tf n s t a false u) v d)) (nI (u + 1)) (nI n) (nI s) (nI t) a →
    wX_helpfulEdges_30 post J (nI (gp n a s t)) (nI u) (d + 1) (nI c) (nI v) (nI n) (nI s) (nI t) a := by
  intro d
  induction d with
  | zero =>
    intro v hv huv c h
    exact pk_le n v (fun _ => nm_r (nI_1 u) h) (fun h => absurd h (by omega))
  | succ d ih =>
    intro v hv huv c h
    have hvn : v < n := by omega
    have hne : u ≠ v := by omega
    have h9 := gp_le (s := s) (t := t) V hn hs ht
    have h10 := gp_le (s := s) (t := t) (ge_V V hn hu hvn hne true) hn hs ht
    have hon := ge_on (s := s) (t := t) V hn hs ht hu hvn hne
    have go : ∀ c2, c2 = c + (if tf n s t a false u v = true then 1 else 0) → wX_helpfulEdges_30 post J (nI (gp n a s t)) (nI u) (d + 1) (nI c2) (nI (v + 1)) (nI n) (nI s) (nI t) a := fun c2 e => by
      refine ih (v + 1) (by omega) (by omega) c2 ?_
      rw [e, Nat.add_assoc]
      exact h
    refine pk_le n v (fun h => absurd h (by omega)) (fun _ => wx_edge (by omega) (by omega) (fun b => br_f (by decide) (nm_r (nI_1 v) (go c ?_))) (fun b => br_t rfl (wx_paf V hn hs ht hst hu hvn hne ?_)))
    · rw [tf_no b, if_neg (by decide)]; exact (Nat.add_zero c).symm
    · rw [b]
      refine pk_le (gp n (ge a u v true) s t) (gp n a s t) (fun hle => nm_r (nI_1 v) (go c ?_)) (fun hlt => nm_r (nI_1 c) (nm_r (nI_1 v) (go (c + 1) ?_)))
      · rw [tf_y0 b (Nat.le_antisymm hle hon), if_neg (by decide)]
        exact (Nat.add_zero c).symm
      · have hz : gp n (ge a u v true) s t ≠ gp n a s t := by omega
        rw [tf_y1 b hz, if_pos rfl]
theorem wx_helpO (V : gr_V n a) (hn : n ≤ 8) (hs : s < n) (ht : t < n) (hst : s ≠ t) :
    ∀ d u, u + d = n → ∀ c, post (nI (c + tt (tf n s t a false) n u d)) (nI n, nI s, nI t, a) →
    wX_helpfulEdges_17 post (nI (gp n a s t)) (d + 1) (nI c) (nI u) (nI n) (nI s) (nI t) a := by
  intro d
  induction d with
  | zero =>
    intro u hu c h
    exact pk_le n u (fun _ => h) (fun h => absurd h (by omega))
  | succ d ih =>
    intro u hu c h
    refine pk_le n u (fun h => absurd h (by omega)) (fun _ => nm_r (nI_1 u) ⟨(n - (u + 1)) + 1, wx_helpI V hn hs ht hst (by omega) (n - (u + 1)) (u + 1) (by omega) (by omega) c (ih (u + 1) (by omega) _ ?_)⟩)
    rw [Nat.add_assoc]
    exact h
end
section
variable {post : Int32 → SY → Prop} {n s t : Nat} {a : Nat → Int32}
theorem wy_tell (V : gr_V n a) (hn : n ≤ 8) (hs : s < n) (ht : t < n) {u v : Nat} (hu : u < n) (hv : v < n) (hne : u ≠ v) {c : Nat} {e : Bool} {z0 z1 : Int32} (b : bt (a u) v = e)
    (hz : z0 = if e = true then 1 else 0) (hz1 : z1 = if e = true then 0 else 1)
    {J10 J25 : Int32 → Int32 → Int32 → Int32 → Int32 → (Nat → Int32) → (Nat → Int32) → (Nat → Int32) → Prop} {w mo : Nat → Int32}
    (h : ∀ w mo, J25 (nI (c + (if tf n s t a e u v = true then 1 else 0))) (nI (v + 1)) (nI n) (nI s) (nI t) a w mo) :
    wY_telling_65 post J10 J25 z0 (nI (gp n a s t)) (nI c) (nI u) (nI v) z1 (nI v) (nI u) (nI n) (nI s) (nI t) a w mo := by
  have V2 := ge_V V hn hu hv hne (!e)
  have h9 := gp_le (s := s) (t := t) V hn hs ht
  have h10 := gp_le (s := s) (t := t) V2 hn hs ht
  have back : ∀ w mo c2, c2 = c + (if tf n s t a e u v = true then 1 else 0) → wY_telling_83 post J10 J25 z0 (nI (gp n a s t)) (nI u) (nI v) (nI c2) (nI n) (nI s) (nI t) (ge a u v (!e)) w mo := by
    intro w mo c2 hc2
    have h2 := h w mo
    rw [← hc2, ← ge_same V hn hu hv hne b, ← ge_ge (on := !e) hn hu hv hne] at h2
    unfold wY_telling_83
    cases e with
    | true =>
      rw [hz]
      exact wy_put1 (by omega) (by omega) (nm_r (nI_1 v) h2)
    | false =>
      rw [hz]
      exact wy_put0 (by omega) (by omega) (nm_r (nI_1 v) h2)
  have mid : ∀ w mo, wpY_paths (fun r_30 u2 => match u2 with | (f_n_31, f_s_32, f_t_33, a_near_34, a_whole_35, a_most_36) => (((r_30 = nI (gp n a s t) → (wY_telling_83 post J10 J25 z0 (nI (gp n a s t)) (nI u) (nI v) (nI c) f_n_31 f_s_32 f_t_33 a_near_34 a_whole_35 a_most_36)) ∧ (¬ r_30 = nI (gp n a s t) → (wY_telling_83 post J10 J25 z0 (nI (gp n a s t)) (nI u) (nI v) (nI c + 1) f_n_31 f_s_32 f_t_33 a_near_34 a_whole_35 a_most_36))))) (nI n, nI s, nI t, ge a u v (!e), w, mo) := by
    intro w mo
    refine wy_paths V2 hn hs ht (fun w' mo' => ?_)
    refine pk_eq (gp n (ge a u v (!e)) s t) (gp n a s t) (fun eq => back w' mo' c ?_) (fun ne => ?_)
    · rw [tf_y0 b eq, if_neg (by decide)]; exact (Nat.add_zero c).symm
    · rw [nI_1]
      exact back w' mo' (c + 1) (by rw [tf_y1 b ne, if_pos rfl])
  unfold wY_telling_65
  cases e with
  | true =>
    rw [hz1]
    exact wy_put0 (by omega) (by omega) (mid w mo)
  | false =>
    rw [hz1]
    exact wy_put1 (by omega) (by omega) (mid w mo)
theorem wy_tellI (V : gr_V n a) (hn : n ≤ 8) (hs : s < n) (ht : t < n) (e : Bool) {z0 : Int32} (hz : z0 = if e = true then 1 else 0) {u : Nat} (hu : u < n)
    {J : Int32 → Int32 → Int32 → Int32 → Int32 → (Nat → Int32) → (Nat → Int32) → (Nat → Int32) → Prop} :
    ∀ d v, v + d = n → u < v → ∀ c w mo, (∀ w mo, J (nI (c + tr (tf n s t a e u) v d)) (nI (u + 1)) (nI n) (nI s) (nI t) a w mo) →
    wY_telling_25 post J z0 (nI (gp n a s t)) (nI u) (d + 1) (nI c) (nI v) (nI n) (nI s) (nI t) a w mo := by
  intro d
  induction d with
  | zero =>
    intro v hv huv c w mo h
    exact pk_le n v (fun _ => nm_r (nI_1 u) (h w mo)) (fun h => absurd h (by omega))
  | succ d ih =>
    intro v hv huv c w mo h
    have hvn : v < n := by omega
    have hne : u ≠ v := by omega
    have go : ∀ c2, c2 = c + (if tf n s t a e u v = true then 1 else 0) → ∀ w mo, wY_telling_25 post J z0 (nI (gp n a s t)) (nI u) (d + 1) (nI c2) (nI (v + 1)) (nI n) (nI s) (nI t) a w mo := fun c2 e w mo => by
      refine ih (v + 1) (by omega) (by omega) c2 w mo (fun w mo => ?_)
      rw [e, Nat.add_assoc]
      exact h w mo
    refine pk_le n v (fun h => absurd h (by omega)) (fun _ => ⟨pk_in u 8 (by omega), ?_⟩)
    rw [nI_clamp (by omega)]
    cases e with
    | true =>
      subst hz
      refine wy_has (by omega) (fun b => br_t rfl (br_f (by decide) (wy_tell V hn hs ht hu hvn hne b rfl rfl (go _ rfl)))) (fun b => br_f (by decide) (nm_r (nI_1 v) (go c ?_ w mo)))
      rw [tf_no b, if_neg (by decide)]; exact (Nat.add_zero c).symm
    | false =>
      subst hz
      refine wy_has (by omega) (fun b => br_f (by decide) (nm_r (nI_1 v) (go c ?_ w mo))) (fun b => br_t rfl (br_t rfl (wy_tell V hn hs ht hu hvn hne b rfl rfl (go _ rfl))))
      rw [tf_no b, if_neg (by decide)]; exact (Nat.add_zero c).symm
theorem wy_tellO (V : gr_V n a) (hn : n ≤ 8) (hs : s < n) (ht : t < n) (e : Bool) {z0 : Int32} (hz : z0 = if e = true then 1 else 0) :
    ∀ d u, u + d = n → ∀ c w mo, (∀ w mo, post (nI (c + tt (tf n s t a e) n u d)) (nI n, nI s, nI t, a, w, mo)) →
    wY_telling_10 post z0 (nI (gp n a s t)) (d + 1) (nI c) (nI u) (nI n) (nI s) (nI t) a w mo := by
  intro d
  induction d with
  | zero =>
    intro u hu c w mo h
    exact pk_le n u (fun _ => h w mo) (fun h => absurd h (by omega))
  | succ d ih =>
    intro u hu c w mo h
    refine pk_le n u (fun h => absurd h (by omega)) (fun _ => nm_r (nI_1 u) ⟨(n - (u + 1)) + 1, wy_tellI V hn hs ht e hz (by omega) (n - (u + 1)) (u + 1) (by omega) (by omega) c w mo (fun w mo => ih (u + 1) (by omega) _ w mo (fun w mo => ?_))⟩)
    rw [Nat.add_assoc]
    exact h w mo
theorem wy_telling (V : gr_V n a) (hn : n ≤ 8) (hs : s < n) (ht : t < n) (e : Bool) {z0 : Int32} (hz : z0 = if e = true then 1 else 0) {w mo : Nat → Int32}
    (h : ∀ w mo, post (nI (tt (tf n s t a e) n 0 n)) (nI n, nI s, nI t, a, w, mo)) : wpY_telling post (nI n, nI s, nI t, a, w, mo) z0 := by
  unfold wpY_telling
  dsimp only
  refine wy_paths V hn hs ht (fun w' mo' => ⟨n + 1, wy_tellO V hn hs ht e hz n 0 (by omega) 0 w' mo' (fun w mo => ?_)⟩)
  rw [Nat.zero_add]
  exact h w mo
end
end
section
/-! strength -/
noncomputable def sv (n : Nat) (a : Nat → Int32) (u : Nat) : Nat → Nat → Nat → Nat
  | 0, _, c => c
  | d + 1, v, c => sv n a u d (v + 1) (if bt (a u) v = true then c else if c ≤ gp n a u v then c else gp n a u v)
noncomputable def so (n : Nat) (a : Nat → Int32) : Nat → Nat → Nat → Nat
  | 0, _, c => c
  | d + 1, u, c => so n a d (u + 1) (sv n a u (n - (u + 1)) (u + 1) c)
theorem sv_le (n : Nat) (a : Nat → Int32) (u : Nat) : ∀ d v c, c ≤ 9 → sv n a u d v c ≤ 9 := by
  intro d
  induction d with
  | zero => intro v c h; exact h
  | succ d ih =>
    intro v c h
    refine ih (v + 1) _ ?_
    split
    · exact h
    · split <;> omega
section
variable {n : Nat} {a : Nat → Int32}
theorem wx_strI {post : Int32 → Prop} {S T : Int32} (V : gr_V n a) (hn : n ≤ 8) {u : Nat} (hu : u < n) {J : Int32 → Int32 → Prop} :
    ∀ d v, v + d = n → u < v → ∀ c, c ≤ 9 → J (nI (sv n a u d v c)) (nI (u + 1)) → wX_strength_21 post J (nI u) (nI n) S T a (d + 1) (nI c) (nI v) := by
  intro d
  induction d with
  | zero =>
    intro v hv huv c hc h
    exact pk_le n v (fun _ => nm_r (nI_1 u) h) (fun h => absurd h (by omega))
  | succ d ih =>
    intro v hv huv c hc h
    have hvn : v < n := by omega
    have hne : u ≠ v := by omega
    have h9 := gp_le (s := u) (t := v) V hn hu hvn
    have go : ∀ c2, c2 ≤ 9 → c2 = (if bt (a u) v = true then c else if c ≤ gp n a u v then c else gp n a u v) → wX_strength_21 post J (nI u) (nI n) S T a (d + 1) (nI c2) (nI (v + 1)) := fun c2 h2 e => by
      refine ih (v + 1) (by omega) (by omega) c2 h2 ?_
      rw [e]
      exact h
    refine pk_le n v (fun h => absurd h (by omega)) (fun _ => wx_edge (by omega) (by omega) (fun b => br_f (by decide) (nm_r (nI_1 v) (go c hc (by rw [if_pos b])))) (fun b => br_t rfl (wx_most V hn hu hvn hne ?_)))
    have b2 : ¬ bt (a u) v = true := by rw [b]; decide
    exact pk_le c (gp n a u v) (fun hle => nm_r (nI_1 v) (go c hc (by rw [if_neg b2, if_pos hle]))) (fun hlt => nm_r (nI_1 v) (go _ h9 (by rw [if_neg b2, if_neg (by omega)])))
theorem wx_strO {post : Int32 → Prop} {S T : Int32} (V : gr_V n a) (hn : n ≤ 8) :
    ∀ d u, u + d = n → ∀ c, c ≤ 9 → post (nI (so n a d u c)) → wX_strength_9 post (nI n) S T a (d + 1) (nI c) (nI u) := by
  intro d
  induction d with
  | zero =>
    intro u hu c hc h
    exact pk_le n u (fun _ => h) (fun h => absurd h (by omega))
  | succ d ih =>
    intro u hu c hc h
    exact pk_le n u (fun h => absurd h (by omega)) (fun _ => nm_r (nI_1 u) ⟨(n - (u + 1)) + 1, wx_strI V hn (by omega) (n - (u + 1)) (u + 1) (by omega) (by omega) c hc (ih (u + 1) (by omega) _ (sv_le n a u _ _ c hc) h)⟩)
theorem wy_strI {post : Int32 → SY → Prop} {P Q : Int32} (V : gr_V n a) (hn : n ≤ 8) {u : Nat} (hu : u < n)
    {J : Int32 → Int32 → Int32 → Int32 → Int32 → (Nat → Int32) → (Nat → Int32) → (Nat → Int32) → Prop} :
    ∀ d v, v + d = n → u < v → ∀ c S T w mo, c ≤ 9 → (∀ S T w mo, J (nI (sv n a u d v c)) (nI (u + 1)) (nI n) S T a w mo) → wY_strength_35 post J P Q (nI u) (d + 1) (nI c) (nI v) (nI n) S T a w mo := by
  intro d
  induction d with
  | zero =>
    intro v hv huv c S T w mo hc h
    exact pk_le n v (fun _ => nm_r (nI_1 u) (h S T w mo)) (fun h => absurd h (by omega))
  | succ d ih =>
    intro v hv huv c S T w mo hc h
    have hvn : v < n := by omega
    have hne : u ≠ v := by omega
    have h9 := gp_le (s := u) (t := v) V hn hu hvn
    have go : ∀ c2, c2 ≤ 9 → c2 = (if bt (a u) v = true then c else if c ≤ gp n a u v then c else gp n a u v) → ∀ S T w mo, wY_strength_35 post J P Q (nI u) (d + 1) (nI c2) (nI (v + 1)) (nI n) S T a w mo := fun c2 h2 e S T w mo => by
      refine ih (v + 1) (by omega) (by omega) c2 S T w mo h2 (fun S T w mo => ?_)
      rw [e]
      exact h S T w mo
    refine pk_le n v (fun h => absurd h (by omega)) (fun _ => ⟨pk_in u 8 (by omega), ?_⟩)
    rw [nI_clamp (by omega)]
    refine wy_has (by omega) (fun b => br_f (by decide) (nm_r (nI_1 v) (go c hc (by rw [if_pos b]) S T w mo))) (fun b => br_t rfl (wy_paths V hn hu hvn (fun w' mo' => ?_)))
    have b2 : ¬ bt (a u) v = true := by rw [b]; decide
    exact pk_le c (gp n a u v) (fun hle => nm_r (nI_1 v) (go c hc (by rw [if_neg b2, if_pos hle]) _ _ _ _)) (fun hlt => nm_r (nI_1 v) (go _ h9 (by rw [if_neg b2, if_neg (by omega)]) _ _ _ _))
theorem wy_strO {post : Int32 → SY → Prop} {P Q : Int32} (V : gr_V n a) (hn : n ≤ 8) :
    ∀ d u, u + d = n → ∀ c S T w mo, c ≤ 9 → (∀ w mo, post (nI (so n a d u c)) (nI n, P, Q, a, w, mo)) → wY_strength_20 post P Q (d + 1) (nI c) (nI u) (nI n) S T a w mo := by
  intro d
  induction d with
  | zero =>
    intro u hu c S T w mo hc h
    exact pk_le n u (fun _ => h w mo) (fun h => absurd h (by omega))
  | succ d ih =>
    intro u hu c S T w mo hc h
    exact pk_le n u (fun h => absurd h (by omega)) (fun _ => nm_r (nI_1 u) ⟨(n - (u + 1)) + 1, wy_strI V hn (by omega) (n - (u + 1)) (u + 1) (by omega) (by omega) c S T w mo hc (fun S T w mo => ih (u + 1) (by omega) _ S T w mo (sv_le n a u _ _ c hc) h)⟩)
end
/-! loss: all edges at v taken away, and put back -/
def lo_cut (a : Nat → Int32) (v lo hi x i : Nat) : Bool := if (x = v ∧ lo ≤ i ∧ i < hi ∧ i ≠ v) ∨ (i = v ∧ lo ≤ x ∧ x < hi ∧ x ≠ v) then false else bt (a x) i
section
variable {post : Int32 → SY → Prop} {n s t v : Nat} {a : Nat → Int32}
theorem lo_V {a' : Nat → Int32} (V : gr_V n a) (hv : v < n) (h : ∀ x i, bt (a' x) i = lo_cut a v 0 n x i) :
    (∀ u w, u < n → w < n → (bt (a' u) w = true ↔ bt (a u) w = true ∧ u ≠ v ∧ w ≠ v)) ∧ gr_V n a' := by
  have h1 : ∀ u w, u < n → w < n → (bt (a' u) w = true ↔ bt (a u) w = true ∧ u ≠ v ∧ w ≠ v) := by
    intro u w hu hw
    rw [h u w]
    unfold lo_cut
    by_cases c : (u = v ∧ 0 ≤ w ∧ w < n ∧ w ≠ v) ∨ (w = v ∧ 0 ≤ u ∧ u < n ∧ u ≠ v)
    · rw [if_pos c]
      exact ⟨fun h => (by cases h), fun h => absurd c (by omega)⟩
    · rw [if_neg c]
      refine ⟨fun hb => ⟨hb, ?_⟩, fun hb => hb.1⟩
      have h2 := (V u w hu hb).2.1
      omega
  refine ⟨h1, fun u w hu hb => ?_⟩
  have hb2 : bt (a u) w = true := by
    rw [h u w] at hb
    unfold lo_cut at hb
    by_cases c : (u = v ∧ 0 ≤ w ∧ w < n ∧ w ≠ v) ∨ (w = v ∧ 0 ≤ u ∧ u < n ∧ u ≠ v)
    · rw [if_pos c] at hb; cases hb
    · rw [if_neg c] at hb; exact hb
  have h2 := V u w hu hb2
  have h3 := (h1 u w hu h2.1).1 hb
  exact ⟨h2.1, h2.2.1, (h1 w u h2.1 hu).2 ⟨h2.2.2, h3.2.2, h3.2.1⟩⟩
theorem wy_back (V : gr_V n a) (hn : n ≤ 8) (hv : v < n) {x2 x4 : Int32} (h : ∀ w mo, post (x2 - x4) (nI n, nI s, nI t, a, w, mo)) :
    ∀ d j, j + d = n → ∀ a' w mo, (∀ x i, bt (a' x) i = lo_cut a v j n x i) → wY_loss_81 post (nI v) x2 (a v) x4 (d + 1) (nI j) (nI n) (nI s) (nI t) a' w mo := by
  intro d
  induction d with
  | zero =>
    intro j hj a' w mo h'
    have e : a' = a := gx_ext (fun x i => by
      rw [h' x i]
      unfold lo_cut
      rw [if_neg (by omega)])
    rw [e]
    exact pk_le n j (fun _ => h w mo) (fun h => absurd h (by omega))
  | succ d ih =>
    intro j hj a' w mo h'
    refine pk_le n j (fun h => absurd h (by omega)) (fun _ => pk_eq j v (fun e => nm_r (nI_1 j) (ih (j + 1) (by omega) a' w mo (fun x i => ?_))) (fun hne => ?_))
    · rw [h' x i]
      unfold lo_cut
      by_cases c : (x = v ∧ j ≤ i ∧ i < n ∧ i ≠ v) ∨ (i = v ∧ j ≤ x ∧ x < n ∧ x ≠ v)
      · rw [if_pos c, if_pos (by omega)]
      · rw [if_neg c, if_neg (by omega)]
    · have go : ∀ on, bt (a v) j = on → ∀ x i, bt (ge a' j v on x) i = lo_cut a v (j + 1) n x i := by
        intro on hon x i
        rw [ge_b (by omega) (by omega) hne, h' x i]
        unfold lo_cut
        by_cases c : (x = j ∧ i = v) ∨ (x = v ∧ i = j)
        · rw [if_pos c, if_neg (by omega)]
          rcases c with ⟨e1, e2⟩ | ⟨e1, e2⟩
          · rw [e1, e2, gr_Vs V (by omega) hv, hon]
          · rw [e1, e2, hon]
        · rw [if_neg c]
          by_cases c2 : (x = v ∧ j ≤ i ∧ i < n ∧ i ≠ v) ∨ (i = v ∧ j ≤ x ∧ x < n ∧ x ≠ v)
          · rw [if_pos c2, if_pos (by omega)]
          · rw [if_neg c2, if_neg (by omega)]
      exact wy_has (by omega) (fun b => wy_put1 (by omega) (by omega) (nm_r (nI_1 j) (ih (j + 1) (by omega) _ w mo (go true b)))) (fun b => wy_put0 (by omega) (by omega) (nm_r (nI_1 j) (ih (j + 1) (by omega) _ w mo (go false b))))
theorem wy_away (V : gr_V n a) (hn : n ≤ 8) (hs : s < n) (ht : t < n) (hv : v < n) {x2 : Int32}
    (h : ∀ a', (∀ x i, bt (a' x) i = lo_cut a v 0 n x i) → gr_V n a' → ∀ w mo, post (x2 - nI (gp n a' s t)) (nI n, nI s, nI t, a, w, mo)) :
    ∀ d j, j + d = n → ∀ a' w mo, (∀ x i, bt (a' x) i = lo_cut a v 0 j x i) → wY_loss_43 post (nI v) x2 (a v) (d + 1) (nI j) (nI n) (nI s) (nI t) a' w mo := by
  intro d
  induction d with
  | zero =>
    intro j hj a' w mo h'
    have e : j = n := by omega
    subst e
    have V' := (lo_V V hv h').2
    exact pk_le j j (fun _ => wy_paths V' hn hs ht (fun w' mo' => ⟨j + 1, wy_back V hn hv (fun w mo => h a' h' V' w mo) j 0 (by omega) a' w' mo' h'⟩)) (fun h => absurd h (by omega))
  | succ d ih =>
    intro j hj a' w mo h'
    refine pk_le n j (fun h => absurd h (by omega)) (fun _ => pk_eq j v (fun e => nm_r (nI_1 j) (ih (j + 1) (by omega) a' w mo (fun x i => ?_))) (fun hne => wy_put0 (by omega) (by omega) (nm_r (nI_1 j) (ih (j + 1) (by omega) _ w mo (fun x i => ?_)))))
    · rw [h' x i]
      unfold lo_cut
      by_cases c : (x = v ∧ 0 ≤ i ∧ i < j ∧ i ≠ v) ∨ (i = v ∧ 0 ≤ x ∧ x < j ∧ x ≠ v)
      · rw [if_pos c, if_pos (by omega)]
      · rw [if_neg c, if_neg (by omega)]
    · rw [ge_b (by omega) (by omega) hne, h' x i]
      unfold lo_cut
      by_cases c : (x = j ∧ i = v) ∨ (x = v ∧ i = j)
      · rw [if_pos c, if_pos (by omega)]
      · rw [if_neg c]
        by_cases c2 : (x = v ∧ 0 ≤ i ∧ i < j ∧ i ≠ v) ∨ (i = v ∧ 0 ≤ x ∧ x < j ∧ x ≠ v)
        · rw [if_pos c2, if_pos (by omega)]
        · rw [if_neg c2, if_neg (by omega)]
end
/-! clear -/
theorem wc_both {n s t : Nat} (hn : n ≤ 8) : ∀ d v, v + d = n → ∀ (c : Int32) (a : Nat → Int32), (∀ x, x < v → a x = 0) → ∃ (r : Int32) (a' : Nat → Int32), (∀ x, x < n → a' x = 0) ∧
    (∀ post : Int32 → SX → Prop, post r (nI n, nI s, nI t, a') → wX_clear_4 post (nI n) (nI s) (nI t) (d + 1) c (nI v) a) ∧
    (∀ (post : Int32 → SY → Prop) (w mo : Nat → Int32), post r (nI n, nI s, nI t, a', w, mo) → wY_clear_4 post (nI n) (nI s) (nI t) (d + 1) c (nI v) a w mo) := by
  intro d
  induction d with
  | zero =>
    intro v hv c a ha
    have e : v = n := by omega
    subst e
    exact ⟨c / 2, a, ha, fun post h => pk_le v v (fun _ => ⟨by decide, h⟩) (fun h => absurd h (by omega)), fun post w mo h => pk_le v v (fun _ => ⟨by decide, h⟩) (fun h => absurd h (by omega))⟩
  | succ d ih =>
    intro v hv c a ha
    obtain ⟨r, a', h0, hX, hY⟩ := ih (v + 1) (by omega) (c + nI (gz (bt (a v)) 8)) (upd a v 0) (fun x hx => by
      by_cases e : x = v
      · rw [e, pk_us]
      · rw [pk_un e]; exact ha x (by omega))
    refine ⟨r, a', h0, fun post h => ?_, fun post w mo h => ?_⟩
    · refine pk_le n v (fun h => absurd h (by omega)) (fun _ => ⟨pk_in v 8 (by omega), ?_⟩)
      rw [nI_clamp (by omega)]
      exact wx_size (nm_e ⟨pk_in v 8 (by omega), nm_e (nm_r (nI_1 v) (hX post h))⟩)
    · refine pk_le n v (fun h => absurd h (by omega)) (fun _ => ⟨pk_in v 8 (by omega), ?_⟩)
      rw [nI_clamp (by omega)]
      exact wy_size (nm_e ⟨pk_in v 8 (by omega), nm_e (nm_r (nI_1 v) (hY post w mo h))⟩)
end
section
/-- both hold one graph, by one array, and one pair of ends; the reference's tables are free -/
def i_Rel (_ : Nat) (u : SX) (v : SY) : Prop :=
  ∃ (n s t : Nat) (a w mo : Nat → Int32), 3 ≤ n ∧ n ≤ 8 ∧ s < n ∧ t < n ∧ s ≠ t ∧ gr_V n a ∧ u = (nI n, nI s, nI t, a) ∧ v = (nI n, nI s, nI t, a, w, mo)
theorem i_up {k : Nat} {u : SX} {v : SY} (h : i_Rel k u v) : i_Rel (k + 4) u v := h
theorem ow_V0 (n : Nat) : gr_V n (fun _ => 0) := fun u w _ h => by
  have h2 : bt 0 w = true := h
  rw [b_0] at h2
  cases h2
theorem ow_0 {k n : Nat} (h3 : 3 ≤ n) (h8 : n ≤ 8) : i_Rel k (nI n, 0, nI n - 1, fun _ => 0) (nI n, 0, nI n - 1, fun _ => 0, fun _ => 0, fun _ => 0) := by
  have e : nI n - 1 = nI (n - 1) := pk_sub (a := n) (b := 1) (by omega)
  rw [e]
  exact ⟨n, 0, n - 1, _, _, _, h3, h8, by omega, by omega, by omega, ow_V0 n, rfl, rfl⟩
theorem i_vc0 (k0 : Int32) : wpX_init (fun u => wpY_init (fun v => i_Rel 1 u v) k0) k0 := by
  by_cases h3 : 3 ≤ k0
  · refine br_t h3 ?_
    by_cases h8 : k0 ≤ 8
    · obtain ⟨j, hj, rfl⟩ := nI_of2 (M := 8) (n := 8) (x := k0) (by decide) (fun z => Int32.lt_irrefl (Int32.lt_of_lt_of_le z (Int32.le_trans (by decide : (0 : Int32) ≤ 3) h3))) h8
      have h3' : 3 ≤ j := (nI_leI (a := 3) (by omega) (by omega)).1 h3
      exact br_t h8 (nm_e (br_t h3 (br_t h8 (nm_e (ow_0 h3' hj)))))
    · exact br_f h8 (nm_e (br_t h3 (br_f h8 (nm_e (ow_0 (n := 8) (by omega) (by omega))))))
  · exact br_f h3 (nm_e (br_f h3 (nm_e (ow_0 (n := 3) (by omega) (by omega)))))
theorem i_vc_vertices {k : Nat} {u : SX} {v : SY} (I : i_Rel k u v) (hk : k + 4 ≤ 2049) : wpX_vertices (fun r => wpY_vertices (fun r' => r' = r ∧ i_Rel (k + 4) u v) v) u := by
  have I2 := I
  obtain ⟨n, s, t, a, w, mo, h3, h8, hs, ht, hne, V, rfl, rfl⟩ := I
  exact ⟨rfl, I2⟩
theorem ow_edgeX {post : Int32 → SX → Prop} {n s t x y : Nat} {a : Nat → Int32} {p : Int32} (V : gr_V n a) (hn : n ≤ 8) (hx : x < n) (hy : y < n) (hne : x ≠ y)
    (h : post (nI (if bt (a x) y = true then 1 else 0)) (nI n, nI s, nI t, ge a x y (decide (p ≠ 0)))) : wpX_edge post (nI n, nI s, nI t, a) (nI x) (nI y) p := by
  unfold wpX_edge
  dsimp only
  refine wx_isP hn hx hy hne (br_f (by decide) (wx_edge (by omega) (by omega) (fun b => ?_) (fun b => ?_)))
  · rw [if_pos b] at h
    by_cases e : p = 0
    · rw [decide_eq_false (fun z => z e)] at h
      refine br_t e (br_f (by decide) (wx_flip V hn hx hy hne (br_f (by decide) ?_)))
      rw [b]
      exact h
    · rw [decide_eq_true e, ge_same V hn hx hy hne b] at h
      exact br_f e (br_t rfl (br_f (by decide) h))
  · rw [if_neg (by rw [b]; decide)] at h
    by_cases e : p = 0
    · rw [decide_eq_false (fun z => z e), ge_same V hn hx hy hne b] at h
      exact br_t e (br_t rfl (br_t rfl h))
    · rw [decide_eq_true e] at h
      refine br_f e (br_f (by decide) (wx_flip V hn hx hy hne (br_t rfl ?_)))
      rw [b]
      exact h
theorem ow_edgeY {post : Int32 → SY → Prop} {n s t x y : Nat} {a w mo : Nat → Int32} {p : Int32} (hn : n ≤ 8) (hx : x < n) (hy : y < n) (hne : x ≠ y)
    (h : post (nI (if bt (a x) y = true then 1 else 0)) (nI n, nI s, nI t, ge a x y (decide (p ≠ 0)), w, mo)) : wpY_edge post (nI n, nI s, nI t, a, w, mo) (nI x) (nI y) p := by
  unfold wpY_edge
  dsimp only
  refine wy_isV hn hx (br_f (by decide) (wy_isV hn hy (br_f (by decide) (pk_eq x y (fun e => absurd e hne) (fun _ => ⟨pk_in x 8 (by omega), ?_⟩)))))
  rw [nI_clamp (by omega)]
  refine wy_has (by omega) (fun b => br_f (by decide) ?_) (fun b => br_t rfl ?_)
  · rw [if_pos b] at h
    by_cases e : p = 0
    · rw [decide_eq_false (fun z => z e)] at h
      exact br_t e (wy_put0 (by omega) (by omega) h)
    · rw [decide_eq_true e] at h
      exact br_f e (wy_put1 (by omega) (by omega) h)
  · rw [if_neg (by rw [b]; decide)] at h
    by_cases e : p = 0
    · rw [decide_eq_false (fun z => z e)] at h
      exact br_t e (wy_put0 (by omega) (by omega) h)
    · rw [decide_eq_true e] at h
      exact br_f e (wy_put1 (by omega) (by omega) h)
theorem i_vc_edge {k : Nat} {u : SX} {v : SY} (I : i_Rel k u v) (hk : k + 4 ≤ 2049) (v1 : Int32) (v2 : Int32) (v3 : Int32) : wpX_edge (fun r u' => wpY_edge (fun r' v' => r' = r ∧ i_Rel (k + 4) u' v') v v1 v2 v3) u v1 v2 v3 := by
  have I2 := I
  obtain ⟨n, s, t, a, w, mo, h3, h8, hs, ht, hne, V, rfl, rfl⟩ := I
  by_cases hp : ∃ x y, x < n ∧ y < n ∧ x ≠ y ∧ v1 = nI x ∧ v2 = nI y
  · obtain ⟨x, y, hx, hy, hxy, rfl, rfl⟩ := hp
    refine ow_edgeX V h8 hx hy hxy (ow_edgeY h8 hx hy hxy ⟨rfl, ?_⟩)
    exact ⟨n, s, t, _, w, mo, h3, h8, hs, ht, hne, ge_V V h8 hx hy hxy _, rfl, rfl⟩
  · unfold wpX_edge
    dsimp only
    refine wx_nP h8 hp (br_t rfl ?_)
    unfold wpY_edge
    dsimp only
    by_cases h1 : ∃ x, x < n ∧ v1 = nI x
    · obtain ⟨x, hx, rfl⟩ := h1
      refine wy_isV h8 hx (br_f (by decide) ?_)
      by_cases h2 : ∃ y, y < n ∧ v2 = nI y
      · obtain ⟨y, hy, rfl⟩ := h2
        exact wy_isV h8 hy (br_f (by decide) (pk_eq x y (fun _ => ⟨rfl, I2⟩) (fun e => absurd ⟨x, y, hx, hy, e, rfl, rfl⟩ hp)))
      · exact wy_nV h8 h2 (br_t rfl ⟨rfl, I2⟩)
    · exact wy_nV h8 h1 (br_t rfl ⟨rfl, I2⟩)
theorem i_vc_joined {k : Nat} {u : SX} {v : SY} (I : i_Rel k u v) (hk : k + 4 ≤ 2049) (v1 : Int32) (v2 : Int32) : wpX_joined (fun r => wpY_joined (fun r' => r' = r ∧ i_Rel (k + 4) u v) v v1 v2) u v1 v2 := by
  have I2 := I
  obtain ⟨n, s, t, a, w, mo, h3, h8, hs, ht, hne, V, rfl, rfl⟩ := I
  unfold wpX_joined
  dsimp only
  by_cases hp : ∃ x y, x < n ∧ y < n ∧ x ≠ y ∧ v1 = nI x ∧ v2 = nI y
  · obtain ⟨x, y, hx, hy, hxy, rfl, rfl⟩ := hp
    have hY : ∀ r : Int32, (bt (a x) y = true → r = 1) → (bt (a x) y = false → r = 0) → wpY_joined (fun r' => r' = r ∧ i_Rel (k + 4) (nI n, nI s, nI t, a) (nI n, nI s, nI t, a, w, mo)) (nI n, nI s, nI t, a, w, mo) (nI x) (nI y) := by
      intro r r1 r0
      unfold wpY_joined
      dsimp only
      refine wy_isV h8 hx (br_f (by decide) (wy_isV h8 hy (br_f (by decide) ⟨pk_in x 8 (by omega), ?_⟩)))
      rw [nI_clamp (by omega)]
      exact wy_has (by omega) (fun b => br_f (by decide) ⟨(r1 b).symm, I2⟩) (fun b => br_t rfl ⟨(r0 b).symm, I2⟩)
    exact wx_isP h8 hx hy hxy (br_f (by decide) (wx_edge (by omega) (by omega) (fun b => br_f (by decide) (hY 1 (fun _ => rfl) (fun b0 => absurd b (by rw [b0]; decide)))) (fun b => br_t rfl (hY 0 (fun b0 => absurd b (by rw [b0]; decide)) (fun _ => rfl)))))
  · refine wx_nP h8 hp (br_t rfl ?_)
    unfold wpY_joined
    dsimp only
    by_cases h1 : ∃ x, x < n ∧ v1 = nI x
    · obtain ⟨x, hx, rfl⟩ := h1
      refine wy_isV h8 hx (br_f (by decide) ?_)
      by_cases h2 : ∃ y, y < n ∧ v2 = nI y
      · obtain ⟨y, hy, rfl⟩ := h2
        have exy : x = y := Classical.byContradiction (fun e => hp ⟨x, y, hx, hy, e, rfl, rfl⟩)
        subst exy
        refine wy_isV h8 hy (br_f (by decide) ⟨pk_in x 8 (by omega), ?_⟩)
        rw [nI_clamp (by omega)]
        exact wy_has (by omega) (fun b => absurd rfl (V x x hx b).2.1) (fun b => br_t rfl ⟨rfl, I2⟩)
      · exact wy_nV h8 h2 (br_t rfl ⟨rfl, I2⟩)
    · exact wy_nV h8 h1 (br_t rfl ⟨rfl, I2⟩)
theorem i_vc_ends {k : Nat} {u : SX} {v : SY} (I : i_Rel k u v) (hk : k + 4 ≤ 2049) (v1 : Int32) (v2 : Int32) : wpX_ends (fun r u' => wpY_ends (fun r' v' => r' = r ∧ i_Rel (k + 4) u' v') v v1 v2) u v1 v2 := by
  have I2 := I
  obtain ⟨n, s, t, a, w, mo, h3, h8, hs, ht, hne, V, rfl, rfl⟩ := I
  unfold wpX_ends
  dsimp only
  by_cases hp : ∃ x y, x < n ∧ y < n ∧ x ≠ y ∧ v1 = nI x ∧ v2 = nI y
  · obtain ⟨x, y, hx, hy, hxy, rfl, rfl⟩ := hp
    refine wx_isP h8 hx hy hxy (br_f (by decide) ?_)
    unfold wpY_ends
    dsimp only
    exact wy_isV h8 hx (br_f (by decide) (wy_isV h8 hy (br_f (by decide) (pk_eq x y (fun e => absurd e hxy) (fun _ => ⟨rfl, n, x, y, a, w, mo, h3, h8, hx, hy, hxy, V, rfl, rfl⟩)))))
  · refine wx_nP h8 hp (br_t rfl ?_)
    unfold wpY_ends
    dsimp only
    by_cases h1 : ∃ x, x < n ∧ v1 = nI x
    · obtain ⟨x, hx, rfl⟩ := h1
      refine wy_isV h8 hx (br_f (by decide) ?_)
      by_cases h2 : ∃ y, y < n ∧ v2 = nI y
      · obtain ⟨y, hy, rfl⟩ := h2
        exact wy_isV h8 hy (br_f (by decide) (pk_eq x y (fun _ => ⟨rfl, I2⟩) (fun e => absurd ⟨x, y, hx, hy, e, rfl, rfl⟩ hp)))
      · exact wy_nV h8 h2 (br_t rfl ⟨rfl, I2⟩)
    · exact wy_nV h8 h1 (br_t rfl ⟨rfl, I2⟩)
theorem i_vc_paths {k : Nat} {u : SX} {v : SY} (I : i_Rel k u v) (hk : k + 4 ≤ 2049) : wpX_paths (fun r => wpY_paths (fun r' v' => r' = r ∧ i_Rel (k + 4) u v') v) u := by
  obtain ⟨n, s, t, a, w, mo, h3, h8, hs, ht, hne, V, rfl, rfl⟩ := I
  unfold wpX_paths
  dsimp only
  exact wx_most V h8 hs ht hne (wy_paths V h8 hs ht (fun w' mo' => ⟨rfl, n, s, t, a, w', mo', h3, h8, hs, ht, hne, V, rfl, rfl⟩))
/-- the reference's least cut where the ends have no edge: the component's least wall -/
theorem ow_cut0 {post : Int32 → Prop} {n s t m : Nat} {a w mo : Nat → Int32} (V : gr_V n a) (hn : n ≤ 8) (hs : s < n) (ht : t < n) (b : bt (a s) t = false)
    (hm : gr_F (gr_W n a s t) m) (h : post (nI m)) : wpY_leastCut post (nI n, nI s, nI t, a, w, mo) 0 :=
  wy_least (Q := fun _ => True) V hn hs ht gq_0 (fun m' h' => by
    have h2 : gr_F (gr_W n a s t) m' := gr_Fcongr (fun m => ⟨fun h => h.2.1, fun h => ⟨b, h, True.intro⟩⟩) h'
    rw [gr_Funiq h2 hm]
    exact h) (fun h' => absurd ⟨b, hm.1, True.intro⟩ (h' m))
theorem ow_cutV {post : Int32 → Prop} {n s t m x : Nat} {a w mo : Nat → Int32} (V : gr_V n a) (hn : n ≤ 8) (hs : s < n) (ht : t < n) (b : bt (a s) t = false) (hx : x < n)
    (hm : gr_F (fun m => gr_W n a s t m ∧ m.testBit x = true) m) (h : post (nI m)) : wpY_leastCut post (nI n, nI s, nI t, a, w, mo) ((1 : Int32) <<< (nI x &&& 31)) :=
  wy_least (Q := fun m => m.testBit x = true) V hn hs ht (gq_v hn hx) (fun m' h' => by
    have h2 : gr_F (fun m => gr_W n a s t m ∧ m.testBit x = true) m' := gr_Fcongr (fun m => ⟨fun h => h.2, fun h => ⟨b, h⟩⟩) h'
    rw [gr_Funiq h2 hm]
    exact h) (fun h' => absurd ⟨b, hm.1⟩ (h' m))
theorem ow_cut4 {post : Int32 → Prop} {n s t : Nat} {a w mo : Nat → Int32} {q : Int32} {Q : Nat → Prop} (V : gr_V n a) (hn : n ≤ 8) (hs : s < n) (ht : t < n)
    (hq : ∀ m, m < 2 ^ n → ((nI m &&& q) = q ↔ Q m)) (hno : ∀ m, ¬ (bt (a s) t = false ∧ gr_W n a s t m ∧ Q m)) (h : post (-4)) : wpY_leastCut post (nI n, nI s, nI t, a, w, mo) q :=
  wy_least V hn hs ht hq (fun m' h' => absurd h'.1 (hno m')) (fun _ => h)
theorem ow_lt {n s t m : Nat} {a : Nat → Int32} (hn : n ≤ 8) (h : gr_W n a s t m) : m < 2 ^ 31 := by
  have h1 := h.1
  have h2 := gb_pow hn
  omega
theorem i_vc_cutSize {k : Nat} {u : SX} {v : SY} (I : i_Rel k u v) (hk : k + 4 ≤ 2049) : wpX_cutSize (fun r => wpY_cutSize (fun r' => r' = r ∧ i_Rel (k + 4) u v) v) u := by
  have I2 := I
  obtain ⟨n, s, t, a, w, mo, h3, h8, hs, ht, hne, V, rfl, rfl⟩ := I
  unfold wpX_cutSize
  dsimp only
  refine wx_edge (by omega) (by omega) (fun b => br_f (by decide) ?_) (fun b => br_t rfl (wx_least0 V h8 hs ht hne (fun m hm => wx_size ?_)))
  · unfold wpY_cutSize
    dsimp only
    exact ow_cut4 (Q := fun _ => True) V h8 hs ht gq_0 (fun m h => by rw [b] at h; exact absurd h.1 (by decide)) (br_t rfl ⟨rfl, I2⟩)
  · unfold wpY_cutSize
    dsimp only
    exact ow_cut0 V h8 hs ht b hm (br_f (gq_m4 (ow_lt h8 hm.1)) (wy_size ⟨rfl, I2⟩))
theorem i_vc_firstCut {k : Nat} {u : SX} {v : SY} (I : i_Rel k u v) (hk : k + 4 ≤ 2049) : wpX_firstCut (fun r => wpY_firstCut (fun r' => r' = r ∧ i_Rel (k + 4) u v) v) u := by
  have I2 := I
  obtain ⟨n, s, t, a, w, mo, h3, h8, hs, ht, hne, V, rfl, rfl⟩ := I
  unfold wpX_firstCut
  dsimp only
  refine wx_edge (by omega) (by omega) (fun b => br_f (by decide) ?_) (fun b => br_t rfl (wx_least0 V h8 hs ht hne (fun m hm => ?_)))
  · unfold wpY_firstCut
    dsimp only
    exact ow_cut4 (Q := fun _ => True) V h8 hs ht gq_0 (fun m h => by rw [b] at h; exact absurd h.1 (by decide)) ⟨rfl, I2⟩
  · unfold wpY_firstCut
    dsimp only
    exact ow_cut0 V h8 hs ht b hm ⟨rfl, I2⟩
theorem ow_isEnd {post : Int32 → Prop} {n s t x : Nat} {a : Nat → Int32} (hn : n ≤ 8) (hs : s < n) (ht : t < n) (hx : x < n)
    (h1 : x = s ∨ x = t → post 1) (h0 : x ≠ s → x ≠ t → post 0) : wpX_isEnd post (nI n, nI s, nI t, a) (nI x) :=
  pk_eq x s (fun e => h1 (Or.inl e)) (fun e => pk_eq x t (fun e2 => h1 (Or.inr e2)) (fun e2 => h0 e e2))
theorem i_vc_cutWith {k : Nat} {u : SX} {v : SY} (I : i_Rel k u v) (hk : k + 4 ≤ 2049) (v1 : Int32) : wpX_cutWith (fun r => wpY_cutWith (fun r' => r' = r ∧ i_Rel (k + 4) u v) v v1) u v1 := by
  have I2 := I
  obtain ⟨n, s, t, a, w, mo, h3, h8, hs, ht, hne, V, rfl, rfl⟩ := I
  unfold wpX_cutWith
  dsimp only
  by_cases hp : ∃ x, x < n ∧ v1 = nI x
  · obtain ⟨x, hx, rfl⟩ := hp
    have hY4 : (∀ m, ¬ (bt (a s) t = false ∧ gr_W n a s t m ∧ m.testBit x = true)) → wpY_cutWith (fun r' => r' = -4 ∧ i_Rel (k + 4) (nI n, nI s, nI t, a) (nI n, nI s, nI t, a, w, mo)) (nI n, nI s, nI t, a, w, mo) (nI x) := by
      intro hno
      unfold wpY_cutWith
      dsimp only
      exact wy_isV h8 hx (br_f (by decide) (ow_cut4 V h8 hs ht (gq_v h8 hx) hno (br_t rfl ⟨rfl, I2⟩)))
    refine wx_isV h8 hx (br_f (by decide) (ow_isEnd h8 hs ht hx (fun e => br_f (by decide) (hY4 (fun m h => ?_))) (fun e1 e2 => br_t rfl (wx_edge (by omega) (by omega) (fun b => br_f (by decide) (hY4 (fun m h => ?_))) (fun b => br_t rfl (wx_leastV V h8 hs ht hne hx e1 e2 (fun m hm => wx_size ?_)))))))
    · rcases e with e | e
      · rw [e, h.2.1.2.1] at h; exact absurd h.2.2 (by decide)
      · rw [e, h.2.1.2.2.1] at h; exact absurd h.2.2 (by decide)
    · rw [b] at h; exact absurd h.1 (by decide)
    · unfold wpY_cutWith
      dsimp only
      exact wy_isV h8 hx (br_f (by decide) (ow_cutV V h8 hs ht b hx hm (br_f (gq_m4 (ow_lt h8 hm.1.1)) (wy_size ⟨rfl, I2⟩))))
  · refine wx_nV h8 hp (br_t rfl ?_)
    unfold wpY_cutWith
    dsimp only
    exact wy_nV h8 hp (br_t rfl ⟨rfl, I2⟩)
theorem i_vc_loss {k : Nat} {u : SX} {v : SY} (I : i_Rel k u v) (hk : k + 4 ≤ 2049) (v1 : Int32) : wpX_loss (fun r => wpY_loss (fun r' v' => r' = r ∧ i_Rel (k + 4) u v') v v1) u v1 := by
  have I2 := I
  obtain ⟨n, s, t, a, w, mo, h3, h8, hs, ht, hne, V, rfl, rfl⟩ := I
  unfold wpX_loss
  dsimp only
  by_cases hp : ∃ x, x < n ∧ v1 = nI x
  · obtain ⟨x, hx, rfl⟩ := hp
    refine wx_isV h8 hx (br_f (by decide) (ow_isEnd h8 hs ht hx (fun e => br_f (by decide) ?_) (fun e1 e2 => br_t rfl (wx_least0 V h8 hs ht hne (fun m hm => wx_leastV V h8 hs ht hne hx e1 e2 (fun mv hmv => wx_size (nm_e (wx_size ?_))))))))
    · unfold wpY_loss
      dsimp only
      exact wy_isV h8 hx (br_f (by decide) (pk_eq x s (fun _ => ⟨rfl, I2⟩) (fun z1 => pk_eq x t (fun _ => ⟨rfl, I2⟩) (fun z2 => absurd e (by omega)))))
    · rw [gs_bt hm.1.1 h8, gs_bt hmv.1.1.1 h8]
      unfold wpY_loss
      dsimp only
      refine wy_isV h8 hx (br_f (by decide) (pk_eq x s (fun z => absurd z e1) (fun _ => pk_eq x t (fun z => absurd z e2) (fun _ => wy_paths V h8 hs ht (fun w' mo' => ⟨pk_in x 8 (by omega), ?_⟩)))))
      rw [nI_clamp (by omega)]
      refine nm_e ⟨n + 1, wy_away V h8 hs ht hx (fun a' ha' V' w2 mo2 => ⟨?_, n, s, t, a, w2, mo2, h3, h8, hs, ht, hne, V, rfl, rfl⟩) n 0 (by omega) a w' mo' (fun y i => ?_)⟩
      · unfold lo_cut
        rw [if_neg (by omega)]
      · have hl := lo_V V hx ha'
        have e3 := gm_loss V V' h8 hs ht hx e1 e2 hl.1 hmv
        have e4 := gm_eq (gr_FM V h8 hs ht hm)
        have e5 : bt (a' s) t = bt (a s) t := by
          rw [ha' s t]
          unfold lo_cut
          rw [if_neg (by omega)]
        rw [← e3, ← e4, nI_pred]
        unfold gp
        rw [e5, ← nI_add, ← nI_add]
        generalize nI (if bt (a s) t = true then 1 else 0) = z
        generalize nI (gm n a s t) = p
        generalize nI (gm n a' s t) = q
        grind
  · refine wx_nV h8 hp (br_t rfl ?_)
    unfold wpY_loss
    dsimp only
    exact wy_nV h8 hp (br_t rfl ⟨rfl, I2⟩)
theorem i_vc_tightEdges {k : Nat} {u : SX} {v : SY} (I : i_Rel k u v) (hk : k + 4 ≤ 2049) : wpX_tightEdges (fun r u' => wpY_tightEdges (fun r' v' => r' = r ∧ i_Rel (k + 4) u' v') v) u := by
  obtain ⟨n, s, t, a, w, mo, h3, h8, hs, ht, hne, V, rfl, rfl⟩ := I
  unfold wpX_tightEdges
  dsimp only
  refine wx_most V h8 hs ht hne ⟨n + 1, wx_tightO V h8 hs ht hne n 0 (by omega) 0 ?_⟩
  unfold wpY_tightEdges
  dsimp only
  refine wy_telling V h8 hs ht true rfl (fun w' mo' => ⟨?_, n, s, t, a, w', mo', h3, h8, hs, ht, hne, V, rfl, rfl⟩)
  rw [Nat.zero_add]
theorem i_vc_helpfulEdges {k : Nat} {u : SX} {v : SY} (I : i_Rel k u v) (hk : k + 4 ≤ 2049) : wpX_helpfulEdges (fun r u' => wpY_helpfulEdges (fun r' v' => r' = r ∧ i_Rel (k + 4) u' v') v) u := by
  obtain ⟨n, s, t, a, w, mo, h3, h8, hs, ht, hne, V, rfl, rfl⟩ := I
  unfold wpX_helpfulEdges
  dsimp only
  refine wx_most V h8 hs ht hne ⟨n + 1, wx_helpO V h8 hs ht hne n 0 (by omega) 0 ?_⟩
  unfold wpY_helpfulEdges
  dsimp only
  refine wy_telling V h8 hs ht false rfl (fun w' mo' => ⟨?_, n, s, t, a, w', mo', h3, h8, hs, ht, hne, V, rfl, rfl⟩)
  rw [Nat.zero_add]
theorem i_vc_distance {k : Nat} {u : SX} {v : SY} (I : i_Rel k u v) (hk : k + 4 ≤ 2049) : wpX_distance (fun r => wpY_distance (fun r' => r' = r ∧ i_Rel (k + 4) u v) v) u := by
  have I2 := I
  obtain ⟨n, s, t, a, w, mo, h3, h8, hs, ht, hne, V, rfl, rfl⟩ := I
  obtain ⟨r, hX, hY⟩ := wd_both (s := s) (a := a) (w := w) (mo := mo) h8 ht (n - 1) 1 (by omega) ((1 : Int32) <<< (nI s &&& 31))
  exact nm_e ⟨_, hX _ (nm_e ⟨_, hY _ ⟨rfl, I2⟩⟩)⟩
theorem i_vc_strength {k : Nat} {u : SX} {v : SY} (I : i_Rel k u v) (hk : k + 4 ≤ 2049) : wpX_strength (fun r => wpY_strength (fun r' v' => r' = r ∧ i_Rel (k + 4) u v') v) u := by
  obtain ⟨n, s, t, a, w, mo, h3, h8, hs, ht, hne, V, rfl, rfl⟩ := I
  have e : nI n - 1 = nI (n - 1) := pk_sub (a := n) (b := 1) (by omega)
  exact nm_r e ⟨n + 1, wx_strO V h8 n 0 (by omega) (n - 1) (by omega) (nm_r e ⟨n + 1, wy_strO V h8 n 0 (by omega) (n - 1) (nI s) (nI t) w mo (by omega) (fun w' mo' => ⟨rfl, n, s, t, a, w', mo', h3, h8, hs, ht, hne, V, rfl, rfl⟩)⟩)⟩
theorem i_vc_clear {k : Nat} {u : SX} {v : SY} (I : i_Rel k u v) (hk : k + 4 ≤ 2049) : wpX_clear (fun r u' => wpY_clear (fun r' v' => r' = r ∧ i_Rel (k + 4) u' v') v) u := by
  obtain ⟨n, s, t, a, w, mo, h3, h8, hs, ht, hne, V, rfl, rfl⟩ := I
  obtain ⟨r, a', h0, hX, hY⟩ := wc_both (s := s) (t := t) h8 n 0 (by omega) 0 a (fun x hx => absurd hx (by omega))
  refine ⟨_, hX _ ⟨_, hY _ w mo ⟨rfl, n, s, t, a', w, mo, h3, h8, hs, ht, hne, fun x i hx hb => ?_, rfl, rfl⟩⟩⟩
  rw [h0 x hx, b_0] at hb
  cases hb
end
