section
theorem pk_us {f : Nat → Int32} {k : Nat} {x : Int32} : upd f k x k = x := if_pos rfl
theorem pk_un {f : Nat → Int32} {k j : Nat} {x : Int32} (h : j ≠ k) : upd f k x j = f j := if_neg h
theorem pk_sub {a b : Nat} (h : b ≤ a) : nI a - nI b = nI (a - b) := by
  obtain ⟨c, rfl⟩ : ∃ c, a = c + b := ⟨a - b, by omega⟩
  rw [← nI_add, Int32.add_sub_cancel, Nat.add_sub_cancel]
theorem pk_m1 (n : Nat) : nI (n + 1) + (-1) = nI n := by
  rw [← nI_1, Int32.add_assoc, show (1 : Int32) + (-1) = 0 from rfl, Int32.add_zero]
theorem pk_mul (a b : Nat) : nI a * nI b = nI (a * b) := (Int32.ofNat_mul a b).symm
theorem pk_div {a d : Nat} (ha : a < 2 ^ 31) (h0 : 0 < d) (hd : d < 2 ^ 31) : nI a / nI d = nI (a / d) := by
  apply Int32.toInt_inj.mp
  rw [lg_idiv_nonneg (by rw [nI_toInt ha]; omega) (by rw [nI_toInt hd]; omega), nI_toInt ha, nI_toInt hd, nI_toInt (Nat.lt_of_le_of_lt (Nat.div_le_self a d) ha)]
  first | rfl | exact (Int.natCast_ediv _ _).symm
theorem pk_ix (x : Int32) {n : Nat} (hn : n < 2 ^ 31) : x < 0 ∨ nI n ≤ x ∨ ∃ j : Nat, j < n ∧ x = nI j := by
  by_cases h : x < 0
  · exact Or.inl h
  · obtain ⟨j, hj, rfl⟩ := nI_of h
    by_cases h2 : j < n
    · exact Or.inr (Or.inr ⟨j, h2, rfl⟩)
    · exact Or.inr (Or.inl (nI_le (by omega) hj))
theorem pk_le {x y : Int32} {A B : Prop} (a b : Nat) (f : a ≤ b → A) (g : b < a → B) (hx : x = nI a := by rfl) (hy : y = nI b := by rfl) (ha : a < 2 ^ 31 := by omega) (hb : b < 2 ^ 31 := by omega) : (x ≤ y → A) ∧ (¬ x ≤ y → B) := by
  subst hx hy
  rw [nI_leI ha hb]
  exact ⟨f, fun z => g (by omega)⟩
theorem pk_lt {x y : Int32} {A B : Prop} (a b : Nat) (f : a < b → A) (g : b ≤ a → B) (hx : x = nI a := by rfl) (hy : y = nI b := by rfl) (ha : a < 2 ^ 31 := by omega) (hb : b < 2 ^ 31 := by omega) : (x < y → A) ∧ (¬ x < y → B) := by
  subst hx hy
  rw [nI_ltI ha hb]
  exact ⟨f, fun z => g (by omega)⟩
theorem pk_eq {x y : Int32} {A B : Prop} (a b : Nat) (f : a = b → A) (g : a ≠ b → B) (hx : x = nI a := by rfl) (hy : y = nI b := by rfl) (ha : a < 2 ^ 31 := by omega) (hb : b < 2 ^ 31 := by omega) : (x = y → A) ∧ (¬ x = y → B) := by
  subst hx hy
  rw [nI_eq ha hb]
  exact ⟨f, g⟩
theorem pk_in {x : Int32} (n N : Nat) (h : n < N) (hx : x = nI n := by rfl) (hN : N < 2 ^ 31 := by omega) : vp_in x N := by
  subst hx
  exact vp_in_nI h hN
theorem pk_cl {x : Int32} (n : Nat) (hx : x = nI n := by rfl) (h : n < 2 ^ 31 := by omega) : x.toNatClampNeg = n := by
  subst hx
  exact nI_clamp h
theorem pk_tn {n : Nat} (h : n < 2 ^ 32) : (nI n).toBitVec.toNat = n := Nat.mod_eq_of_lt h
theorem pk_least (P : Nat → Prop) (h : ∃ k, P k) : ∃ k, P k ∧ ∀ j, j < k → ¬ P j := by
  obtain ⟨k, hk⟩ := h
  induction k using Nat.strongRecOn with
  | ind k ih =>
    by_cases e : ∃ j, j < k ∧ P j
    · obtain ⟨j, hj, pj⟩ := e
      exact ih j hj pj
    · exact ⟨k, hk, fun j hj pj => e ⟨j, hj, pj⟩⟩
def bt (x : Int32) (i : Nat) : Bool := x.toBitVec.getLsbD i
theorem b_ext {x y : Int32} (h : ∀ i, i < 32 → bt x i = bt y i) : x = y := Int32.toBitVec_inj.mp (BitVec.eq_of_getLsbD_eq (fun i hi => h i hi))
theorem b_or (x y : Int32) (i : Nat) : bt (x ||| y) i = (bt x i || bt y i) := by unfold bt; rw [Int32.toBitVec_or, BitVec.getLsbD_or]
theorem b_and (x y : Int32) (i : Nat) : bt (x &&& y) i = (bt x i && bt y i) := by unfold bt; rw [Int32.toBitVec_and, BitVec.getLsbD_and]
theorem b_xor (x y : Int32) (i : Nat) : bt (x ^^^ y) i = (bt x i ^^ bt y i) := by unfold bt; rw [Int32.toBitVec_xor, BitVec.getLsbD_xor]
theorem b_big {x : Int32} {i : Nat} (h : 32 ≤ i) : bt x i = false := BitVec.getLsbD_of_ge _ _ h
theorem b_255 (i : Nat) : bt 255 i = decide (i < 8) := by
  rcases Nat.lt_or_ge i 32 with h | h
  · exact (by decide +kernel : ∀ i, i < 32 → bt 255 i = decide (i < 8)) i h
  · rw [b_big h, decide_eq_false (by omega)]
theorem b_65535 (i : Nat) : bt 65535 i = decide (i < 16) := by
  rcases Nat.lt_or_ge i 32 with h | h
  · exact (by decide +kernel : ∀ i, i < 32 → bt 65535 i = decide (i < 16)) i h
  · rw [b_big h, decide_eq_false (by omega)]
theorem b_m1 : ∀ i, i < 32 → bt (-1) i = true := by decide +kernel
theorem b_0 (i : Nat) : bt 0 i = false := BitVec.getLsbD_zero
theorem s_l : ∀ n, n < 32 → ((nI n &&& 31).toBitVec.smod 32).toNat = n := by decide +kernel
theorem b_shl (n : Nat) (hn : n < 32) (x : Int32) {i : Nat} (hi : i < 32) : bt (x <<< (nI n &&& 31)) i = (decide (n ≤ i) && bt x (i - n)) := by
  unfold bt
  rw [Int32.toBitVec_shiftLeft]
  show (x.toBitVec <<< ((nI n &&& 31).toBitVec.smod 32).toNat).getLsbD i = _
  rw [s_l n hn, BitVec.getLsbD_shiftLeft]
  rcases Nat.lt_or_ge i n with h | h
  · simp [h, Nat.not_le.mpr h]
  · simp [hi, h, Nat.not_lt.mpr h]
theorem b_sshr (n : Nat) (hn : n < 32) (x : Int32) {i : Nat} (hi : i < 32) : bt (x >>> (nI n &&& 31)) i = if n + i < 32 then bt x (n + i) else bt x 31 := by
  unfold bt
  rw [Int32.toBitVec_shiftRight]
  show (x.toBitVec.sshiftRight ((nI n &&& 31).toBitVec.smod 32).toNat).getLsbD i = _
  rw [s_l n hn, BitVec.getLsbD_sshiftRight, BitVec.msb_eq_getLsbD_last]
  simp [hi]
theorem nx_and (a b : Nat) : nI a &&& nI b = nI (a &&& b) := by
  apply Int32.toBitVec_inj.1
  show BitVec.ofNat 32 a &&& BitVec.ofNat 32 b = BitVec.ofNat 32 (a &&& b)
  apply BitVec.eq_of_getLsbD_eq
  intro i hi
  simp [hi]
end
section
/-! Menger's theorem: vertices are naturals, a graph is a symmetric relation made of a list of edges, A and B two sets of vertices, a separator a list of vertices; a packing is a colouring whose first k classes each lead from A to B -/
def mg_R (adj : Nat → Nat → Prop) (A T : Nat → Prop) (v : Nat) : Prop :=
  ∀ C : Nat → Prop, (∀ a, A a → T a → C a) → (∀ u w, C u → adj u w → T w → C w) → C v
def mg_L (adj : Nat → Nat → Prop) (A B T : Nat → Prop) : Prop := ∃ v, B v ∧ mg_R adj A T v
def mg_adj (E : List (Nat × Nat)) (u w : Nat) : Prop := (u, w) ∈ E ∨ (w, u) ∈ E
theorem mg_start {adj : Nat → Nat → Prop} {A T : Nat → Prop} {a : Nat} (ha : A a) (ht : T a) : mg_R adj A T a := fun _ h0 _ => h0 a ha ht
theorem mg_step {adj : Nat → Nat → Prop} {A T : Nat → Prop} {u w : Nat} (h : mg_R adj A T u) (e : adj u w) (ht : T w) : mg_R adj A T w := fun C h0 h1 => h1 u w (h C h0 h1) e ht
theorem mg_in {adj : Nat → Nat → Prop} {A T : Nat → Prop} {v : Nat} (h : mg_R adj A T v) : T v := h T (fun _ _ t => t) (fun _ _ _ _ t => t)
theorem mg_mono {adj adj' : Nat → Nat → Prop} {A T A' T' : Nat → Prop} {v : Nat} (h : mg_R adj A T v)
    (h0 : ∀ a, A a → T a → A' a ∧ T' a) (h1 : ∀ u w, T u → adj u w → T w → adj' u w ∧ T' w) : mg_R adj' A' T' v :=
  (h (fun v => T v ∧ mg_R adj' A' T' v) (fun a ha ht => ⟨ht, mg_start (h0 a ha ht).1 (h0 a ha ht).2⟩)
    (fun u w hu e ht => ⟨ht, mg_step hu.2 (h1 u w hu.1 e ht).1 (h1 u w hu.1 e ht).2⟩)).2
theorem mg_monoT {adj : Nat → Nat → Prop} {A T T' : Nat → Prop} {v : Nat} (h : mg_R adj A T v) (hT : ∀ v, T v → T' v) : mg_R adj A T' v :=
  mg_mono h (fun a ha ht => ⟨ha, hT a ht⟩) (fun _ w _ e ht => ⟨e, hT w ht⟩)
theorem mg_cat {adj : Nat → Nat → Prop} {A B T : Nat → Prop} {v : Nat} (sym : ∀ u w, adj u w → adj w u) (ha : mg_R adj A T v) (hb : mg_R adj B T v) : mg_L adj A B T :=
  (hb (fun v => T v ∧ (mg_R adj A T v → mg_L adj A B T)) (fun b hB ht => ⟨ht, fun h => ⟨b, hB, h⟩⟩)
    (fun u w hu e ht => ⟨ht, fun h => hu.2 (mg_step h (sym u w e) hu.1)⟩)).2 ha
theorem mg_Lsym {adj : Nat → Nat → Prop} {A B T : Nat → Prop} (sym : ∀ u w, adj u w → adj w u) (h : mg_L adj A B T) : mg_L adj B A T := by
  obtain ⟨v, hB, hv⟩ := h
  exact mg_cat sym (mg_start hB (mg_in hv)) hv
theorem mg_pig (c : Nat → Nat) : ∀ (k : Nat) (P : List Nat), (∀ i, i < k → ∃ p, p ∈ P ∧ c p = i) → k ≤ P.length := by
  intro k
  induction k with
  | zero => intro P _; exact Nat.zero_le _
  | succ k ih =>
    intro P h
    obtain ⟨p, hp, hc⟩ := h k (by omega)
    have h2 := ih (P.erase p) (fun i hi => by
      obtain ⟨q, hq, hcq⟩ := h i (by omega)
      have hne : q ≠ p := fun e => by rw [e] at hcq; omega
      exact ⟨q, (List.mem_erase_of_ne hne).2 hq, hcq⟩)
    rw [List.length_erase_of_mem hp] at h2
    have h3 : 0 < P.length := List.length_pos_of_mem hp
    omega
theorem mg_pig2 {c : Nat → Nat} {k : Nat} {P : List Nat} (h : ∀ i, i < k → ∃ p, p ∈ P ∧ c p = i) (hl : P.length ≤ k) :
    (∀ p, p ∈ P → c p < k) ∧ ∀ p q, p ∈ P → q ∈ P → c p = c q → p = q := by
  have key : ∀ p, p ∈ P → ¬ ∀ i, i < k → ∃ r, r ∈ P.erase p ∧ c r = i := by
    intro p hp hh
    have h2 := mg_pig c k (P.erase p) hh
    rw [List.length_erase_of_mem hp] at h2
    have h3 : 0 < P.length := List.length_pos_of_mem hp
    omega
  constructor
  · intro p hp
    refine Nat.lt_of_not_le (fun hk => key p hp (fun i hi => ?_))
    obtain ⟨q, hq, hcq⟩ := h i hi
    have hne : q ≠ p := fun e => by rw [e] at hcq; omega
    exact ⟨q, (List.mem_erase_of_ne hne).2 hq, hcq⟩
  · intro p q hp hq hc
    refine Classical.byContradiction (fun hne => key p hp (fun i hi => ?_))
    obtain ⟨r, hr, hcr⟩ := h i hi
    by_cases e : r = p
    · subst e
      exact ⟨q, (List.mem_erase_of_ne (fun e => hne e.symm)).2 hq, by omega⟩
    · exact ⟨r, (List.mem_erase_of_ne e).2 hr, hcr⟩
theorem mg_base (A B : Nat → Prop) (k : Nat) (hk : ∀ S : List Nat, ¬ mg_L (mg_adj []) A B (fun v => v ∉ S) → k ≤ S.length) :
    ∃ c : Nat → Nat, ∀ i, i < k → mg_L (mg_adj []) A B (fun v => c v = i) := by
  have main : ∀ j, j ≤ k → ∃ (S : List Nat) (c : Nat → Nat), S.length = j ∧ ∀ i, i < j → ∃ v, v ∈ S ∧ c v = i ∧ A v ∧ B v := by
    intro j
    induction j with
    | zero => intro _; exact ⟨[], fun _ => 0, rfl, fun i hi => absurd hi (by omega)⟩
    | succ j ih =>
      intro hj
      obtain ⟨S, c, hl, hc⟩ := ih (by omega)
      have hL : mg_L (mg_adj []) A B (fun v => v ∉ S) := Classical.byContradiction (fun hn => by
        have := hk S hn
        omega)
      obtain ⟨v, hB, hv⟩ := hL
      have hA : A v ∧ v ∉ S := hv (fun v => A v ∧ v ∉ S) (fun a ha ht => ⟨ha, ht⟩) (fun u w _ e _ => by
        rcases e with e | e
        · exact absurd e List.not_mem_nil
        · exact absurd e List.not_mem_nil)
      refine ⟨v :: S, fun x => if x = v then j else c x, by rw [List.length_cons, hl], fun i hi => ?_⟩
      by_cases e : i = j
      · exact ⟨v, List.mem_cons_self, (if_pos rfl).trans e.symm, hA.1, hB⟩
      · obtain ⟨w, hw, hcw, hAB⟩ := hc i (by omega)
        have hne : w ≠ v := fun e => hA.2 (e ▸ hw)
        exact ⟨w, List.mem_cons_of_mem _ hw, (if_neg hne).trans hcw, hAB⟩
  obtain ⟨S, c, _, hc⟩ := main k (Nat.le_refl k)
  refine ⟨c, fun i hi => ?_⟩
  obtain ⟨v, _, hcv, hA, hB⟩ := hc i hi
  exact ⟨v, hB, mg_start hA hcv⟩
section
variable {adj adj' : Nat → Nat → Prop} {x y : Nat} {S : List Nat}
theorem mg_or1 {A B : Nat → Prop} (hadj : ∀ u w, adj u w ↔ adj' u w ∨ (u = x ∧ w = y) ∨ (u = y ∧ w = x))
    (hS : ¬ mg_L adj' A B (fun v => v ∉ S)) (hL : mg_L adj A B (fun v => v ∉ S)) :
    mg_R adj' A (fun v => v ∉ S) x ∨ mg_R adj' A (fun v => v ∉ S) y := by
  refine Classical.byContradiction (fun hn => ?_)
  obtain ⟨v, hB, hv⟩ := hL
  refine hS ⟨v, hB, hv _ (fun a ha ht => mg_start ha ht) (fun u w hu e ht => ?_)⟩
  rcases (hadj u w).1 e with e' | ⟨e1, _⟩ | ⟨e1, _⟩
  · exact mg_step hu e' ht
  · exact absurd (Or.inl (e1 ▸ hu)) hn
  · exact absurd (Or.inr (e1 ▸ hu)) hn
theorem mg_sepA {A B : Nat → Prop} {T : List Nat} (hadj : ∀ u w, adj u w ↔ adj' u w ∨ (u = x ∧ w = y) ∨ (u = y ∧ w = x))
    (sym' : ∀ u w, adj' u w → adj' w u)
    (hS : ¬ mg_L adj' A B (fun v => v ∉ S)) (hy : mg_R adj' B (fun v => v ∉ S) y)
    (hT : ¬ mg_L adj' A (fun v => v ∈ x :: S) (fun v => v ∉ T)) : ¬ mg_L adj A B (fun v => v ∉ T) := by
  intro hL
  obtain ⟨v, hB, hv⟩ := hL
  have hP : ∀ v, mg_R adj' A (fun v => v ∉ T) v → v ∉ x :: S := fun v h m => hT ⟨v, m, h⟩
  have key := hv (fun v => mg_R adj' A (fun v => v ∉ T) v ∧ mg_R adj' A (fun v => v ∉ S) v)
    (fun a ha ht => ⟨mg_start ha ht, mg_start ha (fun m => hP a (mg_start ha ht) (List.mem_cons_of_mem _ m))⟩)
    (fun u w hu e ht => by
      rcases (hadj u w).1 e with e' | ⟨e1, _⟩ | ⟨e1, _⟩
      · exact ⟨mg_step hu.1 e' ht, mg_step hu.2 e' (fun m => hP w (mg_step hu.1 e' ht) (List.mem_cons_of_mem _ m))⟩
      · exact absurd (by rw [e1]; exact List.mem_cons_self) (hP u hu.1)
      · subst e1
        exact absurd (mg_cat sym' hu.2 hy) hS)
  exact hS ⟨v, hB, key.2⟩
theorem mg_trim {A T : Nat → Prop} {v : Nat} (hv : mg_R adj' A T v) (hp : v ∈ x :: S) :
    ∃ p, p ∈ x :: S ∧ mg_R adj' A (fun v => T v ∧ (mg_R adj' A (fun v => v ∉ S) v ∨ v ∈ S)) p := by
  have key := hv (fun v => (∃ p, p ∈ x :: S ∧ mg_R adj' A (fun v => T v ∧ (mg_R adj' A (fun v => v ∉ S) v ∨ v ∈ S)) p) ∨
      (mg_R adj' A (fun v => T v ∧ (mg_R adj' A (fun v => v ∉ S) v ∨ v ∈ S)) v ∧ mg_R adj' A (fun v => v ∉ S) v))
    (fun a ha ht => by
      by_cases e : a ∈ S
      · exact Or.inl ⟨a, List.mem_cons_of_mem _ e, mg_start ha ⟨ht, Or.inr e⟩⟩
      · exact Or.inr ⟨mg_start ha ⟨ht, Or.inl (mg_start ha e)⟩, mg_start ha e⟩)
    (fun u w hu e ht => by
      rcases hu with hu | hu
      · exact Or.inl hu
      · by_cases m : w ∈ S
        · exact Or.inl ⟨w, List.mem_cons_of_mem _ m, mg_step hu.1 e ⟨ht, Or.inr m⟩⟩
        · exact Or.inr ⟨mg_step hu.1 e ⟨ht, Or.inl (mg_step hu.2 e m)⟩, mg_step hu.2 e m⟩)
  rcases key with k | k
  · exact k
  · exact ⟨v, hp, k.1⟩
theorem mg_inv {c d : Nat → Nat} {P : List Nat} (inj : ∀ p q, p ∈ P → q ∈ P → c p = c q → p = q) : ∃ g : Nat → Nat, ∀ q, q ∈ P → g (c q) = d q := by
  refine ⟨fun j => d (Classical.epsilon (fun q => q ∈ P ∧ c q = j)), fun q hq => ?_⟩
  have h := Classical.epsilon_spec (p := fun r => r ∈ P ∧ c r = c q) ⟨q, hq, rfl⟩
  exact congrArg d (inj _ _ h.1 hq h.2)
theorem mg_glue {A B : Nat → Prop} {k : Nat} (hadj : ∀ u w, adj u w ↔ adj' u w ∨ (u = x ∧ w = y) ∨ (u = y ∧ w = x))
    (sym' : ∀ u w, adj' u w → adj' w u)
    (ih : ∀ A B : Nat → Prop, (∀ S : List Nat, ¬ mg_L adj' A B (fun v => v ∉ S) → k ≤ S.length) → ∃ c : Nat → Nat, ∀ i, i < k → mg_L adj' A B (fun v => c v = i))
    (hk : ∀ S : List Nat, ¬ mg_L adj A B (fun v => v ∉ S) → k ≤ S.length)
    (hl : S.length < k) (hS : ¬ mg_L adj' A B (fun v => v ∉ S))
    (hx : mg_R adj' A (fun v => v ∉ S) x) (hy : mg_R adj' B (fun v => v ∉ S) y) :
    ∃ c : Nat → Nat, ∀ i, i < k → mg_L adj A B (fun v => c v = i) := by
  have sym : ∀ u w, adj u w → adj w u := by
    intro u w e
    rcases (hadj u w).1 e with e' | ⟨e1, e2⟩ | ⟨e1, e2⟩
    · exact (hadj w u).2 (Or.inl (sym' u w e'))
    · exact (hadj w u).2 (Or.inr (Or.inr ⟨e2, e1⟩))
    · exact (hadj w u).2 (Or.inr (Or.inl ⟨e2, e1⟩))
  have hadj2 : ∀ u w, adj u w ↔ adj' u w ∨ (u = y ∧ w = x) ∨ (u = x ∧ w = y) := fun u w => by rw [hadj u w, Or.comm (a := u = x ∧ w = y)]
  have hS2 : ¬ mg_L adj' B A (fun v => v ∉ S) := fun h => hS (mg_Lsym sym' h)
  obtain ⟨c1, h1⟩ := ih A (fun v => v ∈ x :: S) (fun T hT => hk T (mg_sepA hadj sym' hS hy hT))
  obtain ⟨c2, h2⟩ := ih B (fun v => v ∈ y :: S) (fun T hT => hk T (fun h => mg_sepA hadj2 sym' hS2 hx hT (mg_Lsym sym h)))
  have t1 : ∀ i, i < k → ∃ p, p ∈ x :: S ∧ mg_R adj' A (fun v => c1 v = i ∧ (mg_R adj' A (fun v => v ∉ S) v ∨ v ∈ S)) p := fun i hi => by
    obtain ⟨v, hv, hr⟩ := h1 i hi
    exact mg_trim hr hv
  have t2 : ∀ i, i < k → ∃ p, p ∈ y :: S ∧ mg_R adj' B (fun v => c2 v = i ∧ (mg_R adj' B (fun v => v ∉ S) v ∨ v ∈ S)) p := fun i hi => by
    obtain ⟨v, hv, hr⟩ := h2 i hi
    exact mg_trim hr hv
  have i2 := mg_pig2 (c := c2) (k := k) (P := y :: S) (fun i hi => by
    obtain ⟨p, hp, hr⟩ := t2 i hi
    exact ⟨p, hp, (mg_in hr).1⟩) (by rw [List.length_cons]; omega)
  obtain ⟨g, hg⟩ := mg_inv (c := c2) (d := fun v => if v = y then c1 x else c1 v) i2.2
  have hyS : y ∉ S := mg_in hy
  have hdis : ∀ v, mg_R adj' A (fun v => v ∉ S) v → mg_R adj' B (fun v => v ∉ S) v → False := fun v ha hb => hS (mg_cat sym' ha hb)
  have main : ∃ c : Nat → Nat, (∀ v, (mg_R adj' A (fun v => v ∉ S) v ∨ v ∈ S) → c v = c1 v) ∧ (∀ v, ¬ (mg_R adj' A (fun v => v ∉ S) v ∨ v ∈ S) → c v = g (c2 v)) := by
    classical
    exact ⟨fun v => if mg_R adj' A (fun v => v ∉ S) v ∨ v ∈ S then c1 v else g (c2 v), fun v h => if_pos h, fun v h => if_neg h⟩
  obtain ⟨c, hc1, hc2⟩ := main
  refine ⟨c, fun i hi => ?_⟩
  obtain ⟨p, hp, hr⟩ := t1 i hi
  have hcp : c1 p = i := (mg_in hr).1
  have ra : mg_R adj A (fun v => c v = i) p := mg_mono hr (fun a ha ht => ⟨ha, (hc1 a ht.2).trans ht.1⟩) (fun u w _ e ht => ⟨(hadj u w).2 (Or.inl e), (hc1 w ht.2).trans ht.1⟩)
  have hB : ∀ q, q ∈ y :: S → g (c2 q) = i → (q ∈ S → c1 q = i) → mg_R adj B (fun v => c v = i) q := by
    intro q hq hgq hqS
    obtain ⟨q', hq', hr'⟩ := t2 (c2 q) (i2.1 q hq)
    have e : q' = q := i2.2 q' q hq' hq (mg_in hr').1
    rw [e] at hr'
    have hT : ∀ v, c2 v = c2 q ∧ (mg_R adj' B (fun v => v ∉ S) v ∨ v ∈ S) → c v = i := by
      intro v hv
      rcases hv.2 with hd | hs
      · have hn : ¬ (mg_R adj' A (fun v => v ∉ S) v ∨ v ∈ S) := fun h => by
          rcases h with h | h
          · exact hdis v h hd
          · exact mg_in hd h
        rw [hc2 v hn, hv.1, hgq]
      · have e2 : v = q := i2.2 v q (List.mem_cons_of_mem _ hs) hq hv.1
        rw [hc1 v (Or.inr hs), e2]
        exact hqS (e2 ▸ hs)
    exact mg_mono hr' (fun a ha ht => ⟨ha, hT a ht⟩) (fun u w _ e ht => ⟨(hadj u w).2 (Or.inl e), hT w ht⟩)
  by_cases e : p = x
  · subst e
    have rb := hB y List.mem_cons_self (by rw [hg y List.mem_cons_self, if_pos rfl, hcp]) (fun h => absurd h hyS)
    have hcy : c y = i := mg_in (T := fun v => c v = i) rb
    exact mg_cat sym (mg_step ra ((hadj p y).2 (Or.inr (Or.inl ⟨rfl, rfl⟩))) hcy) rb
  · have hpS : p ∈ S := by
      rcases List.mem_cons.1 hp with h | h
      · exact absurd h e
      · exact h
    have hpy : p ≠ y := fun h => hyS (h ▸ hpS)
    have rb := hB p (List.mem_cons_of_mem _ hpS) (by rw [hg p (List.mem_cons_of_mem _ hpS), if_neg hpy, hcp]) (fun _ => hcp)
    exact mg_cat sym ra rb
end
theorem mg_asym (E : List (Nat × Nat)) : ∀ u w, mg_adj E u w → mg_adj E w u := fun _ _ h => Or.comm.1 h
theorem mg_acons (x y : Nat) (E : List (Nat × Nat)) (u w : Nat) : mg_adj ((x, y) :: E) u w ↔ mg_adj E u w ∨ (u = x ∧ w = y) ∨ (u = y ∧ w = x) := by
  unfold mg_adj
  rw [List.mem_cons, List.mem_cons, Prod.mk.injEq, Prod.mk.injEq]
  constructor
  · intro h
    rcases h with (h | h) | (h | h)
    · exact Or.inr (Or.inl h)
    · exact Or.inl (Or.inl h)
    · exact Or.inr (Or.inr ⟨h.2, h.1⟩)
    · exact Or.inl (Or.inr h)
  · intro h
    rcases h with (h | h) | h | h
    · exact Or.inl (Or.inr h)
    · exact Or.inr (Or.inr h)
    · exact Or.inl (Or.inl h)
    · exact Or.inr (Or.inl ⟨h.2, h.1⟩)
theorem mg_menger : ∀ (E : List (Nat × Nat)) (A B : Nat → Prop) (k : Nat),
    (∀ S : List Nat, ¬ mg_L (mg_adj E) A B (fun v => v ∉ S) → k ≤ S.length) → ∃ c : Nat → Nat, ∀ i, i < k → mg_L (mg_adj E) A B (fun v => c v = i) := by
  intro E
  induction E with
  | nil => exact mg_base
  | cons e E ih =>
    obtain ⟨x, y⟩ := e
    intro A B k hk
    have hadj := mg_acons x y E
    by_cases h1 : ∀ S : List Nat, ¬ mg_L (mg_adj E) A B (fun v => v ∉ S) → k ≤ S.length
    · obtain ⟨c, hc⟩ := ih A B k h1
      refine ⟨c, fun i hi => ?_⟩
      obtain ⟨v, hB, hv⟩ := hc i hi
      exact ⟨v, hB, mg_mono hv (fun a ha ht => ⟨ha, ht⟩) (fun u w _ e ht => ⟨(hadj u w).2 (Or.inl e), ht⟩)⟩
    · obtain ⟨S, h2⟩ := Classical.not_forall.1 h1
      obtain ⟨hS, hlt⟩ := Classical.not_imp.1 h2
      have hl : S.length < k := Nat.lt_of_not_le hlt
      have hL : mg_L (mg_adj ((x, y) :: E)) A B (fun v => v ∉ S) := Classical.byContradiction (fun hn => hlt (hk S hn))
      have hS2 : ¬ mg_L (mg_adj E) B A (fun v => v ∉ S) := fun h => hS (mg_Lsym (mg_asym E) h)
      have hdis : ∀ v, mg_R (mg_adj E) A (fun v => v ∉ S) v → mg_R (mg_adj E) B (fun v => v ∉ S) v → False := fun v ha hb => hS (mg_cat (mg_asym E) ha hb)
      have hadj2 : ∀ u w, mg_adj ((x, y) :: E) u w ↔ mg_adj E u w ∨ (u = y ∧ w = x) ∨ (u = x ∧ w = y) := fun u w => by rw [hadj u w, Or.comm (a := u = x ∧ w = y)]
      have hA := mg_or1 hadj hS hL
      have hB := mg_or1 hadj hS2 (mg_Lsym (mg_asym _) hL)
      have ih' : ∀ A B : Nat → Prop, (∀ S : List Nat, ¬ mg_L (mg_adj E) A B (fun v => v ∉ S) → k ≤ S.length) → ∃ c : Nat → Nat, ∀ i, i < k → mg_L (mg_adj E) A B (fun v => c v = i) := fun A B => ih A B k
      rcases hA with ha | ha
      · rcases hB with hb | hb
        · exact absurd hb (fun h => hdis x ha h)
        · exact mg_glue hadj (mg_asym E) ih' hk hl hS ha hb
      · rcases hB with hb | hb
        · exact mg_glue hadj2 (mg_asym E) ih' hk hl hS ha hb
        · exact absurd hb (fun h => hdis y ha h)
end
