/-! sizes of sets of naturals below k, masks, and the graph in an array of masks -/
def gz (p : Nat → Bool) : Nat → Nat
  | 0 => 0
  | k + 1 => gz p k + (if p k = true then 1 else 0)
theorem gz_le (p : Nat → Bool) : ∀ k, gz p k ≤ k := by
  intro k
  induction k with
  | zero => exact Nat.le_refl 0
  | succ k ih =>
    show gz p k + (if p k = true then 1 else 0) ≤ k + 1
    split <;> omega
theorem gz_mono {p q : Nat → Bool} : ∀ k, (∀ v, v < k → p v = true → q v = true) → gz p k ≤ gz q k := by
  intro k
  induction k with
  | zero => intro _; exact Nat.le_refl 0
  | succ k ih =>
    intro h
    have h1 := ih (fun v hv => h v (by omega))
    have h2 := h k (by omega)
    show gz p k + (if p k = true then 1 else 0) ≤ gz q k + (if q k = true then 1 else 0)
    by_cases e : p k = true
    · rw [if_pos e, if_pos (h2 e)]; omega
    · rw [if_neg e]; split <;> omega
theorem gz_congr {p q : Nat → Bool} (k : Nat) (h : ∀ v, v < k → p v = q v) : gz p k = gz q k :=
  Nat.le_antisymm (gz_mono k (fun v hv e => (h v hv) ▸ e)) (gz_mono k (fun v hv e => (h v hv).symm ▸ e))
theorem gz_lt {p q : Nat → Bool} {w : Nat} : ∀ k, (∀ v, v < k → p v = true → q v = true) → w < k → p w = false → q w = true → gz p k < gz q k := by
  intro k
  induction k with
  | zero => intro _ hw; omega
  | succ k ih =>
    intro h hw hp hq
    show gz p k + (if p k = true then 1 else 0) < gz q k + (if q k = true then 1 else 0)
    by_cases e : w = k
    · have h1 := gz_mono k (fun v hv => h v (by omega))
      rw [← e, hp, hq, e]
      simp
      omega
    · have h1 := ih (fun v hv => h v (by omega)) (by omega) hp hq
      by_cases e : p k = true
      · rw [if_pos e, if_pos (h k (by omega) e)]; omega
      · rw [if_neg e]; split <;> omega
theorem gz_add1 {p q : Nat → Bool} {x : Nat} : ∀ k, (∀ v, v < k → p v = true → v = x ∨ q v = true) → gz p k ≤ gz q k + (if x < k then 1 else 0) := by
  intro k
  induction k with
  | zero => intro _; exact Nat.zero_le _
  | succ k ih =>
    intro h
    have h1 := ih (fun v hv => h v (by omega))
    show gz p k + (if p k = true then 1 else 0) ≤ gz q k + (if q k = true then 1 else 0) + (if x < k + 1 then 1 else 0)
    by_cases e : p k = true
    · rw [if_pos e]
      rcases h k (by omega) e with h2 | h2
      · subst h2
        rw [if_neg (by omega)] at h1
        have h3 : k < k + 1 := by omega
        simp only [if_pos h3]
        omega
      · rw [if_pos h2]
        by_cases hx : x < k
        · rw [if_pos hx] at h1
          have h3 : x < k + 1 := by omega
          simp only [if_pos h3]
          omega
        · rw [if_neg hx] at h1; omega
    · rw [if_neg e]
      by_cases hx : x < k
      · rw [if_pos hx] at h1
        have h3 : x < k + 1 := by omega
        simp only [if_pos h3]
        omega
      · rw [if_neg hx] at h1; omega
theorem gz_split {p q : Nat → Bool} {x : Nat} : ∀ k, x < k → p x = true → q x = false → (∀ v, v < k → v ≠ x → p v = q v) → gz p k = gz q k + 1 := by
  intro k
  induction k with
  | zero => intro h; omega
  | succ k ih =>
    intro hx hp hq h
    show gz p k + (if p k = true then 1 else 0) = gz q k + (if q k = true then 1 else 0) + 1
    by_cases e : x = k
    · have h1 := gz_congr (p := p) (q := q) k (fun v hv => h v (by omega) (by omega))
      rw [← e, hp, hq, e, h1]
      simp
    · have h1 := ih (by omega) hp hq (fun v hv => h v (by omega))
      rw [h1, h k (by omega) (by omega)]
      omega
theorem gz_filter (p : Nat → Bool) : ∀ k, ((List.range k).filter p).length = gz p k := by
  intro k
  induction k with
  | zero => rfl
  | succ k ih =>
    rw [List.range_succ, List.filter_append, List.length_append, ih]
    show gz p k + _ = gz p k + _
    by_cases e : p k = true
    · simp [List.filter, e]
    · simp [List.filter, e]
theorem gz_list (S : List Nat) (k : Nat) : gz (fun v => decide (v ∈ S)) k ≤ S.length := by
  induction S with
  | nil =>
    have h : gz (fun v => decide (v ∈ ([] : List Nat))) k ≤ gz (fun _ => false) k := gz_mono k (fun v _ h => by simp at h)
    have h2 : ∀ k, gz (fun _ => false) k = 0 := by
      intro k
      induction k with
      | zero => rfl
      | succ k ih => show gz (fun _ => false) k + 0 = 0; omega
    rw [h2 k] at h
    exact h
  | cons x S ih =>
    have h := gz_add1 (p := fun v => decide (v ∈ x :: S)) (q := fun v => decide (v ∈ S)) (x := x) k (fun v _ h => by
      rcases List.mem_cons.1 (of_decide_eq_true h) with h | h
      · exact Or.inl h
      · exact Or.inr (decide_eq_true h))
    rw [List.length_cons]
    by_cases hx : x < k
    · rw [if_pos hx] at h; omega
    · rw [if_neg hx] at h; omega
theorem gz_mask (p : Nat → Bool) : ∀ n, ∃ m, m < 2 ^ n ∧ ∀ v, m.testBit v = (decide (v < n) && p v) := by
  intro n
  induction n with
  | zero => exact ⟨0, by decide, fun v => by simp⟩
  | succ n ih =>
    obtain ⟨m, hm, h⟩ := ih
    by_cases e : p n = true
    · refine ⟨m ||| 2 ^ n, ?_, fun v => ?_⟩
      · exact Nat.or_lt_two_pow (Nat.lt_of_lt_of_le hm (Nat.pow_le_pow_right (by decide) (by omega))) (Nat.pow_lt_pow_right (by decide) (by omega))
      · rw [Nat.testBit_or, h v, Nat.testBit_two_pow]
        by_cases hv : v = n
        · subst hv; simp [e]
        · have h1 : decide (n = v) = false := decide_eq_false (fun h => hv h.symm)
          have h2 : decide (v < n + 1) = decide (v < n) := decide_eq_decide.2 (by omega)
          rw [h1, h2, Bool.or_false]
    · refine ⟨m, Nat.lt_of_lt_of_le hm (Nat.pow_le_pow_right (by decide) (by omega)), fun v => ?_⟩
      rw [h v]
      by_cases hv : v = n
      · subst hv; simp [e]
      · have h2 : decide (v < n + 1) = decide (v < n) := decide_eq_decide.2 (by omega)
        rw [h2]
theorem gz_tb {m n v : Nat} (hm : m < 2 ^ n) (h : m.testBit v = true) : v < n := by
  refine Nat.lt_of_not_le (fun hv => ?_)
  rw [Nat.testBit_lt_two_pow (Nat.lt_of_lt_of_le hm (Nat.pow_le_pow_right (by decide) hv))] at h
  cases h
/-- the size of the set that a mask writes -/
def gs (m : Nat) : Nat := gz (fun v => m.testBit v) 8
theorem gs_le (m : Nat) : gs m ≤ 8 := gz_le _ 8
/-! the graph -/
def gr_adj (n : Nat) (a : Nat → Int32) (u w : Nat) : Prop := u < n ∧ bt (a u) w = true
def gr_R (n : Nat) (a : Nat → Int32) (s : Nat) (T : Nat → Prop) (v : Nat) : Prop := mg_R (gr_adj n a) (fun v => bt (a s) v = true) T v
def gr_L (n : Nat) (a : Nat → Int32) (s t : Nat) (T : Nat → Prop) : Prop := mg_L (gr_adj n a) (fun v => bt (a s) v = true) (fun v => bt (a t) v = true) T
/-- no loops, symmetric, within n -/
def gr_V (n : Nat) (a : Nat → Int32) : Prop := ∀ u w, u < n → bt (a u) w = true → w < n ∧ w ≠ u ∧ bt (a w) u = true
/-- k disjoint leading sets within T beside the ends -/
def gr_P (n : Nat) (a : Nat → Int32) (s t : Nat) (T : Nat → Prop) (k : Nat) : Prop :=
  ∃ c : Nat → Nat, ∀ i, i < k → gr_L n a s t (fun v => c v = i ∧ T v ∧ v ≠ s ∧ v ≠ t)
def gr_M (n : Nat) (a : Nat → Int32) (s t : Nat) (T : Nat → Prop) (k : Nat) : Prop :=
  gr_P n a s t T k ∧ ∀ m, gr_P n a s t T m → m ≤ k
theorem gr_Muniq {n : Nat} {a : Nat → Int32} {s t : Nat} {T : Nat → Prop} {k k' : Nat} (h : gr_M n a s t T k) (h' : gr_M n a s t T k') : k = k' :=
  Nat.le_antisymm (h'.2 k h.1) (h.2 k' h'.1)
theorem gr_sym {n : Nat} {a : Nat → Int32} (V : gr_V n a) : ∀ u w, gr_adj n a u w → gr_adj n a w u := fun u w h => ⟨(V u w h.1 h.2).1, (V u w h.1 h.2).2.2⟩
/-- the mask m writes a wall -/
def gr_W (n : Nat) (a : Nat → Int32) (s t m : Nat) : Prop :=
  m < 2 ^ n ∧ m.testBit s = false ∧ m.testBit t = false ∧ ¬ gr_L n a s t (fun v => m.testBit v = false ∧ v ≠ s ∧ v ≠ t)
/-- m is the first of the least ones of P -/
def gr_F (P : Nat → Prop) (m : Nat) : Prop := P m ∧ ∀ m', P m' → gs m < gs m' ∨ (gs m = gs m' ∧ m ≤ m')
theorem gr_Funiq {P : Nat → Prop} {m m' : Nat} (h : gr_F P m) (h' : gr_F P m') : m = m' := by
  have h1 := h.2 m' h'.1
  have h2 := h'.2 m h.1
  omega
theorem gr_Fcongr {P Q : Nat → Prop} {m : Nat} (e : ∀ m, P m ↔ Q m) (h : gr_F P m) : gr_F Q m :=
  ⟨(e m).1 h.1, fun m' h' => h.2 m' ((e m').2 h')⟩
theorem gr_Fex {P : Nat → Prop} (h : ∃ m, P m) : ∃ m, gr_F P m := by
  obtain ⟨m0, h0⟩ := h
  obtain ⟨k, ⟨m1, h1, e1⟩, hk⟩ := pk_least (fun k => ∃ m, P m ∧ gs m = k) ⟨_, m0, h0, rfl⟩
  obtain ⟨m, ⟨hm, em⟩, hl⟩ := pk_least (fun m => P m ∧ gs m = k) ⟨m1, h1, e1⟩
  refine ⟨m, hm, fun m' h' => ?_⟩
  have h2 : ¬ gs m' < k := fun h => hk _ h ⟨m', h', rfl⟩
  by_cases e : gs m' = k
  · have h3 : ¬ m' < m := fun h => hl _ h ⟨h', e⟩
    omega
  · omega
theorem gr_edges {adj : Nat → Nat → Prop} {n : Nat} (sym : ∀ u w, adj u w → adj w u) (hb : ∀ u w, adj u w → u < n) : ∃ E : List (Nat × Nat), ∀ u w, mg_adj E u w ↔ adj u w := by
  classical
  refine ⟨((List.range n).flatMap (fun u => (List.range n).map (fun w => (u, w)))).filter (fun p => decide (adj p.1 p.2)), fun u w => ?_⟩
  have key : ∀ u w, (u, w) ∈ ((List.range n).flatMap (fun u => (List.range n).map (fun w => (u, w)))).filter (fun p => decide (adj p.1 p.2)) ↔ adj u w := by
    intro u w
    rw [List.mem_filter]
    constructor
    · intro h; exact of_decide_eq_true h.2
    · intro h
      refine ⟨List.mem_flatMap.2 ⟨u, List.mem_range.2 (hb u w h), List.mem_map.2 ⟨w, List.mem_range.2 (hb w u (sym u w h)), rfl⟩⟩, decide_eq_true h⟩
  unfold mg_adj
  rw [key u w, key w u]
  exact ⟨fun h => h.elim id (sym w u), Or.inl⟩
theorem gr_Lmono {n : Nat} {a a' : Nat → Int32} {s t : Nat} {T T' : Nat → Prop} (h : gr_L n a s t T)
    (he : ∀ u w, u < n → T u ∨ u = s ∨ u = t → T w → bt (a u) w = true → bt (a' u) w = true) (hs : s < n) (ht : t < n)
    (hT : ∀ v, T v → T' v) : gr_L n a' s t T' := by
  obtain ⟨v, hB, hv⟩ := h
  exact ⟨v, he t v ht (Or.inr (Or.inr rfl)) (mg_in hv) hB, mg_mono hv (fun w ha hw => ⟨he s w hs (Or.inr (Or.inl rfl)) hw ha, hT w hw⟩) (fun u w hu e hw => ⟨⟨e.1, he u w e.1 (Or.inl hu) hw e.2⟩, hT w hw⟩)⟩
theorem gr_Lin {n : Nat} {a : Nat → Int32} {s t : Nat} {T : Nat → Prop} (V : gr_V n a) (hs : s < n) (h : gr_L n a s t T) : gr_L n a s t (fun v => T v ∧ v < n) := by
  obtain ⟨v, hB, hv⟩ := h
  exact ⟨v, hB, mg_mono hv (fun w ha hw => ⟨ha, hw, (V s w hs ha).1⟩) (fun u w _ e hw => ⟨e, hw, (V u w e.1 e.2).1⟩)⟩
/-- Menger for the masks -/
theorem gr_menger {n : Nat} {a : Nat → Int32} {s t k : Nat} (V : gr_V n a) (hn : n ≤ 8) (hs : s < n) (ht : t < n)
    (hk : ∀ m, gr_W n a s t m → k ≤ gs m) : gr_P n a s t (fun _ => True) k := by
  obtain ⟨E, hE⟩ := gr_edges (n := n) (adj := fun u w => gr_adj n a u w ∧ (u ≠ s ∧ u ≠ t) ∧ (w ≠ s ∧ w ≠ t))
    (fun u w h => ⟨gr_sym V u w h.1, h.2.2, h.2.1⟩) (fun u w h => h.1.1)
  have bt1 : ∀ T : Nat → Prop, mg_L (mg_adj E) (fun v => bt (a s) v = true ∧ v ≠ s ∧ v ≠ t) (fun v => bt (a t) v = true ∧ v ≠ s ∧ v ≠ t) T → gr_L n a s t (fun v => T v ∧ v ≠ s ∧ v ≠ t) := by
    intro T h
    obtain ⟨v, hB, hv⟩ := h
    exact ⟨v, hB.1, mg_mono hv (fun w ha hw => ⟨ha.1, hw, ha.2⟩) (fun u w _ e hw => ⟨((hE u w).1 e).1, hw, ((hE u w).1 e).2.2⟩)⟩
  have bt2 : ∀ T : Nat → Prop, gr_L n a s t (fun v => T v ∧ v ≠ s ∧ v ≠ t) → mg_L (mg_adj E) (fun v => bt (a s) v = true ∧ v ≠ s ∧ v ≠ t) (fun v => bt (a t) v = true ∧ v ≠ s ∧ v ≠ t) T := by
    intro T h
    obtain ⟨v, hB, hv⟩ := h
    exact ⟨v, ⟨hB, (mg_in hv).2⟩, mg_mono hv (fun w ha hw => ⟨⟨ha, hw.2⟩, hw.1⟩) (fun u w hu e hw => ⟨(hE u w).2 ⟨e, hu.2, hw.2⟩, hw.1⟩)⟩
  obtain ⟨c, hc⟩ := mg_menger E _ _ k (fun S hS => by
    obtain ⟨m, hm, hb⟩ := gz_mask (fun v => decide (v ∈ S) && (decide (v ≠ s) && decide (v ≠ t))) n
    have hW : gr_W n a s t m := by
      refine ⟨hm, by rw [hb]; simp, by rw [hb]; simp, fun h => hS (bt2 _ (gr_Lmono (a' := a) (gr_Lin V hs h) (fun _ _ _ _ _ e => e) hs ht ?_))⟩
      intro v hv
      refine ⟨fun hS => ?_, hv.1.2⟩
      have h1 := hv.1.1
      rw [hb v] at h1
      simp [hS, hv.2, hv.1.2.1, hv.1.2.2] at h1
    have h1 := hk m hW
    have h2 : gs m ≤ gz (fun v => decide (v ∈ S)) 8 := gz_mono 8 (fun v _ h => by
      have h3 : m.testBit v = true := h
      rw [hb v] at h3
      simp at h3
      exact decide_eq_true h3.2.1)
    have h3 := gz_list S 8
    omega)
  refine ⟨c, fun i hi => ?_⟩
  have h := bt1 _ (hc i hi)
  exact gr_Lmono (a' := a) h (fun _ _ _ _ _ e => e) hs ht (fun v hv => ⟨hv.1, True.intro, hv.2⟩)
/-- no packing is larger than a wall -/
theorem gr_weak {n : Nat} {a : Nat → Int32} {s t m k : Nat} {T : Nat → Prop} (hn : n ≤ 8) (hs : s < n) (ht : t < n)
    (hW : gr_W n a s t m) (hP : gr_P n a s t T k) : k ≤ gs m := by
  obtain ⟨c, hc⟩ := hP
  have h := mg_pig c k ((List.range 8).filter (fun v => m.testBit v)) (fun i hi => by
    refine Classical.byContradiction (fun hno => hW.2.2.2 (gr_Lmono (a' := a) (hc i hi) (fun _ _ _ _ _ e => e) hs ht (fun v hv => ⟨?_, hv.2.2⟩)))
    refine Bool.eq_false_iff.2 (fun hb => hno ⟨v, ?_, hv.1⟩)
    have h8 := gz_tb hW.1 hb
    exact List.mem_filter.2 ⟨List.mem_range.2 (by omega), hb⟩)
  rw [gz_filter] at h
  exact h
theorem gr_FM {n : Nat} {a : Nat → Int32} {s t m : Nat} (V : gr_V n a) (hn : n ≤ 8) (hs : s < n) (ht : t < n)
    (h : gr_F (gr_W n a s t) m) : gr_M n a s t (fun _ => True) (gs m) :=
  ⟨gr_menger V hn hs ht (fun m' h' => by have := h.2 m' h'; omega), fun _ hk => gr_weak hn hs ht h.1 hk⟩
theorem gr_Pmono {n : Nat} {a a' : Nat → Int32} {s t k : Nat} {T T' : Nat → Prop} (h : gr_P n a s t T k)
    (he : ∀ u w, u < n → bt (a u) w = true → bt (a' u) w = true) (hs : s < n) (ht : t < n) (hT : ∀ v, T v → T' v) : gr_P n a' s t T' k := by
  obtain ⟨c, hc⟩ := h
  exact ⟨c, fun i hi => gr_Lmono (hc i hi) (fun u w hu _ _ e => he u w hu e) hs ht (fun v hv => ⟨hv.1, hT v hv.2.1, hv.2.2⟩)⟩
/-- the mask of all but the ends is a wall -/
theorem gr_all {n : Nat} {s t : Nat} (a : Nat → Int32) (V : gr_V n a) (hs : s < n) : ∃ m, gr_W n a s t m ∧ ∀ v, m.testBit v = (decide (v < n) && (decide (v ≠ s) && decide (v ≠ t))) := by
  obtain ⟨m, hm, hb⟩ := gz_mask (fun v => decide (v ≠ s) && decide (v ≠ t)) n
  refine ⟨m, ⟨hm, by rw [hb]; simp, by rw [hb]; simp, fun h => ?_⟩, hb⟩
  obtain ⟨v, hB, hv⟩ := gr_Lin V hs h
  have h1 := mg_in hv
  have h2 := h1.1.1
  rw [hb v] at h2
  simp [h1.2, h1.1.2.1, h1.1.2.2] at h2
theorem gr_Mex {n : Nat} {a : Nat → Int32} {s t : Nat} (V : gr_V n a) (hn : n ≤ 8) (hs : s < n) (ht : t < n) : ∃ k, gr_M n a s t (fun _ => True) k := by
  obtain ⟨m, hW, _⟩ := gr_all (t := t) a V hs
  obtain ⟨m', h'⟩ := gr_Fex ⟨m, hW⟩
  exact ⟨_, gr_FM V hn hs ht h'⟩
/-- the most paths beside the direct one -/
noncomputable def gm (n : Nat) (a : Nat → Int32) (s t : Nat) : Nat := Classical.epsilon (fun k => gr_M n a s t (fun _ => True) k)
theorem gm_M {n : Nat} {a : Nat → Int32} {s t : Nat} (V : gr_V n a) (hn : n ≤ 8) (hs : s < n) (ht : t < n) : gr_M n a s t (fun _ => True) (gm n a s t) :=
  Classical.epsilon_spec (p := fun k => gr_M n a s t (fun _ => True) k) (gr_Mex V hn hs ht)
theorem gm_eq {n : Nat} {a : Nat → Int32} {s t k : Nat} (h : gr_M n a s t (fun _ => True) k) : gm n a s t = k :=
  gr_Muniq (Classical.epsilon_spec (p := fun k => gr_M n a s t (fun _ => True) k) ⟨k, h⟩) h
theorem gm_le8 {n : Nat} {a : Nat → Int32} {s t : Nat} (V : gr_V n a) (hn : n ≤ 8) (hs : s < n) (ht : t < n) : gm n a s t ≤ 8 := by
  obtain ⟨m, hW, _⟩ := gr_all (t := t) a V hs
  have := gr_weak hn hs ht hW (gm_M V hn hs ht).1
  have := gs_le m
  omega
/-- all paths, the direct one counted -/
noncomputable def gp (n : Nat) (a : Nat → Int32) (s t : Nat) : Nat := (if bt (a s) t = true then 1 else 0) + gm n a s t
theorem gp_mono {n : Nat} {a a' : Nat → Int32} {s t : Nat} (V : gr_V n a) (V' : gr_V n a') (hn : n ≤ 8) (hs : s < n) (ht : t < n)
    (he : ∀ u w, u < n → bt (a u) w = true → bt (a' u) w = true) : gp n a s t ≤ gp n a' s t := by
  have h1 := (gm_M V' hn hs ht).2 _ (gr_Pmono (gm_M V hn hs ht).1 he hs ht (fun _ h => h))
  have h2 := he s t hs
  unfold gp
  by_cases e : bt (a s) t = true
  · rw [if_pos e, if_pos (h2 e)]; omega
  · rw [if_neg e]; split <;> omega
/-- the wall with v of the graph, and the wall of the graph without v -/
theorem gm_loss {n : Nat} {a a' : Nat → Int32} {s t v m : Nat} (V : gr_V n a) (V' : gr_V n a') (hn : n ≤ 8) (hs : s < n) (ht : t < n)
    (hv : v < n) (hvs : v ≠ s) (hvt : v ≠ t)
    (ha : ∀ u w, u < n → w < n → (bt (a' u) w = true ↔ bt (a u) w = true ∧ u ≠ v ∧ w ≠ v))
    (h : gr_F (fun m => gr_W n a s t m ∧ m.testBit v = true) m) : gm n a' s t + 1 = gs m := by
  obtain ⟨m0, hW0, _⟩ := gr_all (t := t) a' V' hs
  obtain ⟨m', h'⟩ := gr_Fex ⟨m0, hW0⟩
  rw [gm_eq (gr_FM V' hn hs ht h')]
  obtain ⟨x, hx, hxb⟩ := gz_mask (fun w => m.testBit w && decide (w ≠ v)) n
  obtain ⟨y, hy, hyb⟩ := gz_mask (fun w => m'.testBit w || decide (w = v)) n
  have hxW : gr_W n a' s t x := by
    refine ⟨hx, by rw [hxb, h.1.1.2.1]; simp, by rw [hxb, h.1.1.2.2.1]; simp, fun hL => h.1.1.2.2.2 ?_⟩
    have hL2 := gr_Lin V' hs hL
    obtain ⟨z, hB, hz⟩ := hL2
    have hzz := mg_in hz
    have hq : ∀ w, w < n → x.testBit w = false → w ≠ v → m.testBit w = false := fun w hw h1 h2 => by
      rw [hxb w] at h1
      simpa [hw, h2] using h1
    have hB2 := (ha t z ht hzz.2).1 hB
    exact ⟨z, hB2.1, mg_mono hz (fun w h1 h2 => ⟨((ha s w hs h2.2).1 h1).1, hq w h2.2 h2.1.1 ((ha s w hs h2.2).1 h1).2.2, h2.1.2⟩)
      (fun u w _ e h2 => ⟨⟨e.1, ((ha u w e.1 h2.2).1 e.2).1⟩, hq w h2.2 h2.1.1 ((ha u w e.1 h2.2).1 e.2).2.2, h2.1.2⟩)⟩
  have hyW : gr_W n a s t y ∧ y.testBit v = true := by
    refine ⟨⟨hy, by rw [hyb, h'.1.2.1]; simp; omega, by rw [hyb, h'.1.2.2.1]; simp; omega, fun hL => h'.1.2.2.2 ?_⟩, by rw [hyb]; simp [hv]⟩
    have hL2 := gr_Lin V hs hL
    obtain ⟨z, hB, hz⟩ := hL2
    have hzz := mg_in hz
    have hq : ∀ w, w < n → y.testBit w = false → m'.testBit w = false ∧ w ≠ v := fun w hw h1 => by
      rw [hyb w] at h1
      simpa [hw] using h1
    refine ⟨z, (ha t z ht hzz.2).2 ⟨hB, fun e => hvt e.symm, (hq z hzz.2 hzz.1.1).2⟩, mg_mono hz (fun w h1 h2 => ⟨(ha s w hs h2.2).2 ⟨h1, fun e => hvs e.symm, (hq w h2.2 h2.1.1).2⟩, (hq w h2.2 h2.1.1).1, h2.1.2⟩)
      (fun u w hu e h2 => ⟨⟨e.1, (ha u w e.1 h2.2).2 ⟨e.2, (hq u hu.2 hu.1.1).2, (hq w h2.2 h2.1.1).2⟩⟩, (hq w h2.2 h2.1.1).1, h2.1.2⟩)⟩
  have e1 : gs m = gs x + 1 := by
    refine gz_split 8 (x := v) (by omega) h.1.2 (by rw [hxb]; simp) (fun w hw hne => ?_)
    show m.testBit w = x.testBit w
    rw [hxb w]
    by_cases hwn : w < n
    · simp [hwn, hne]
    · have : m.testBit w = false := Bool.eq_false_iff.2 (fun hb => hwn (gz_tb h.1.1.1 hb))
      simp [this]
  have e2 : gs y ≤ gs m' + 1 := by
    have h1 := gz_add1 (p := fun w => y.testBit w) (q := fun w => m'.testBit w) (x := v) 8 (fun w hw hb => by
      have h2 : y.testBit w = true := hb
      rw [hyb w] at h2
      simp at h2
      rcases h2.2 with h3 | h3
      · exact Or.inr h3
      · exact Or.inl h3)
    rw [if_pos (by omega)] at h1
    exact h1
  have h1 := h'.2 x hxW
  have h2 := h.2 y hyW
  omega
