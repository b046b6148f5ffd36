/-! the component's walks -/
section
variable {post : Int32 → Prop} {n s t : Nat} {a : Nat → Int32} {S T : Int32}
theorem wx_size {x : Int32} (h : post (nI (gz (bt x) 8))) : wpX_sizeOf post x := by
  have key : ∀ d j, j + d = 8 → wX_sizeOf_4 post x (d + 1) (nI (gz (bt x) j)) (nI j) := by
    intro d
    induction d with
    | zero =>
      intro j hj
      have e : j = 8 := by omega
      subst e
      exact pk_le 8 8 (fun _ => h) (fun h => absurd h (by omega))
    | succ d ih =>
      intro j hj
      refine pk_le 8 j (fun h => absurd h (by omega)) (fun _ => nm_r (e' := nI (gz (bt x) (j + 1))) ?_ (nm_r (nI_1 j) (ih (j + 1) (by omega))))
      rw [gb_get (by omega), nI_add]
      rfl
  exact ⟨9, key 8 0 rfl⟩
theorem wx_has {x : Int32} {v : Nat} (hv : v < 32) (h1 : bt x v = true → post 1) (h0 : bt x v = false → post 0) : wpX_contains post x (nI v) := by
  unfold wpX_contains
  by_cases e : bt x v = true
  · rw [gb_get1 hv x e]
    exact br_f (by decide) (h1 e)
  · have e0 : bt x v = false := Bool.eq_false_iff.2 e
    rw [gb_get0 hv x e0]
    exact br_t rfl (h0 e0)
theorem wx_edge {u v : Nat} {N : Int32} (hu : u < 8) (hv : v < 8) (h1 : bt (a u) v = true → post 1) (h0 : bt (a u) v = false → post 0) : wpX_hasEdge post (N, S, T, a) (nI u) (nI v) := by
  unfold wpX_hasEdge
  dsimp only
  rw [nI_clamp (by omega)]
  exact ⟨pk_in u 8 hu, wx_has (by omega) (fun e => ⟨rfl, h1 e⟩) (fun e => ⟨rfl, h0 e⟩)⟩
theorem wx_nb {x : Int32} (hn : n ≤ 8) (h : post (gn a x n)) : wpX_neighboursOf post (nI n, S, T, a) x := by
  have key : ∀ d j, j + d = n → wX_neighboursOf_4 post x (nI n) S T a (d + 1) (gn a x j) (nI j) := by
    intro d
    induction d with
    | zero =>
      intro j hj
      have e : j = n := by omega
      subst e
      exact pk_le j j (fun _ => h) (fun h => absurd h (by omega))
    | succ d ih =>
      intro j hj
      refine pk_le n j (fun h => absurd h (by omega)) (fun _ => ?_)
      have ih2 := ih (j + 1) (by omega)
      by_cases e : bt x j = true
      · rw [gb_get1 (by omega) x e]
        refine br_f (by decide) ⟨pk_in j 8 (by omega), nm_r ?_ (nm_r (nI_1 j) ih2)⟩
        rw [nI_clamp (by omega)]
        show gn a x j ||| a j = (if bt x j = true then gn a x j ||| a j else gn a x j)
        rw [if_pos e]
      · rw [gb_get0 (by omega) x (Bool.eq_false_iff.2 e)]
        have e2 : gn a x (j + 1) = gn a x j := by
          show (if bt x j = true then gn a x j ||| a j else gn a x j) = _
          rw [if_neg e]
        rw [e2] at ih2
        exact br_t rfl (nm_r (nI_1 j) ih2)
  exact ⟨n + 1, key n 0 (by omega)⟩
theorem wx_wall (V : gr_V n a) (hn : n ≤ 8) (hs : s < n) (ht : t < n) {m : Nat} (hm : m < 2 ^ n)
    (h1 : gr_W n a s t m → post 1) (h0 : ¬ gr_W n a s t m → post 0) : wpX_isWall post (nI n, S, T, a) (nI m) (nI s) (nI t) := by
  unfold wpX_isWall
  dsimp only
  unfold wpX_endsOf
  have hb : ∀ v, bt (((1 : Int32) <<< (nI s &&& 31)) ||| ((1 : Int32) <<< (nI t &&& 31))) v = (decide (v = s) || decide (v = t)) := fun v => by
    rw [b_or, gb_sh (by omega), gb_sh (by omega)]
  generalize ((1 : Int32) <<< (nI s &&& 31)) ||| ((1 : Int32) <<< (nI t &&& 31)) = both at hb ⊢
  have hz : (nI m &&& both) = 0 ↔ m.testBit s = false ∧ m.testBit t = false := by
    rw [gb_and0]
    constructor
    · intro h
      refine ⟨Bool.eq_false_iff.2 (fun e => h ⟨s, by rw [hb]; simp, by rw [gb_nIa hm hn]; exact e⟩), Bool.eq_false_iff.2 (fun e => h ⟨t, by rw [hb]; simp, by rw [gb_nIa hm hn]; exact e⟩)⟩
    · intro h hv
      obtain ⟨v, h1, h2⟩ := hv
      rw [hb] at h1
      rw [gb_nIa hm hn] at h2
      rw [Bool.or_eq_true] at h1
      rcases h1 with h1 | h1
      · rw [of_decide_eq_true h1, h.1] at h2; cases h2
      · rw [of_decide_eq_true h1, h.2] at h2; cases h2
  by_cases hends : m.testBit s = false ∧ m.testBit t = false
  · refine br_t (hz.2 hends) (nm_e ⟨pk_in s 8 (by omega), ?_⟩)
    rw [nI_clamp (by omega)]
    have ho : ∀ v, v < 32 → (bt ((nI m ||| both) ^^^ (-1)) v = true ↔ m.testBit v = false ∧ v ≠ s ∧ v ≠ t) := fun v hv => by
      rw [gb_not _ hv, b_or, hb, gb_nIa hm hn]
      simp
    generalize (nI m ||| both) ^^^ (-1) = op at ho
    have hlt : ∀ (x : Int32) v, bt x v = true → v < 32 := fun x v h => Nat.lt_of_not_le (fun hv => by rw [b_big hv] at h; cases h)
    have hfin : ∀ R, gc_I n a s (fun v => m.testBit v = false ∧ v ≠ s ∧ v ≠ t) n R → ((((R &&& (a (nI t).toNatClampNeg)) = 0 → (post 1)) ∧ (¬ (R &&& (a (nI t).toNatClampNeg)) = 0 → (post 0)))) := by
      intro R hR
      rw [nI_clamp (by omega)]
      have hL := gc_L (t := t) hR (Nat.le_refl n)
      refine br_c (fun z => h1 ⟨hm, hends.1, hends.2, hL.1 z⟩) (fun z => h0 (fun hW => z (hL.2 hW.2.2.2)))
    have key : ∀ d i, i + d = n → ∀ R, gc_I n a s (fun v => m.testBit v = false ∧ v ≠ s ∧ v ≠ t) i R → wX_isWall_38 post (nI t) op (nI n) S T a (d + 1) R (nI i) := by
      intro d
      induction d with
      | zero =>
        intro i hi R hR
        have e : i = n := by omega
        subst e
        exact pk_le i i (fun _ => ⟨pk_in t 8 (by omega), hfin R hR⟩) (fun h => absurd h (by omega))
      | succ d ih =>
        intro i hi R hR
        refine pk_le n i (fun h => absurd h (by omega)) (fun _ => wx_nb hn (nm_e (nm_r (nI_1 i) (ih (i + 1) (by omega) _ ?_))))
        have hnew : ∀ v, bt (R ||| (gn a R n &&& op)) v = true ↔ bt R v = true ∨ ((∃ u, u < n ∧ bt R u = true ∧ bt (a u) v = true) ∧ (m.testBit v = false ∧ v ≠ s ∧ v ≠ t)) := by
          intro v
          rw [b_or, b_and, Bool.or_eq_true, Bool.and_eq_true, gn_b]
          constructor
          · intro h
            rcases h with h | h
            · exact Or.inl h
            · exact Or.inr ⟨h.1, (ho v (hlt _ v h.2)).1 h.2⟩
          · intro h
            rcases h with h | h
            · exact Or.inl h
            · obtain ⟨u, _, _, h5⟩ := h.1
              exact Or.inr ⟨h.1, (ho v (hlt _ v h5)).2 h.2⟩
        refine gc_S V hR (fun v hv => (hnew v).2 (Or.inl hv)) (fun u w hu hS ha hT => (hnew w).2 (Or.inr ⟨⟨u, hu, hS, ha⟩, hT⟩)) (fun v hv => ?_)
        rcases (hnew v).1 hv with h | h
        · exact hR.1 v h
        · obtain ⟨u, h3, h4, h5⟩ := h.1
          exact mg_step (hR.1 u h4) ⟨h3, h5⟩ h.2
    refine nm_e ⟨n + 1, key n 0 (by omega) _ (gc_0 (fun v => ?_))⟩
    rw [b_and, Bool.and_eq_true]
    constructor
    · intro h; exact ⟨h.1, (ho v (hlt _ v h.2)).1 h.2⟩
    · intro h; exact ⟨h.1, (ho v (hlt _ v h.1)).2 h.2⟩
  · exact br_f (fun z => hends (hz.1 z)) (h0 (fun hW => hends ⟨hW.2.1, hW.2.2.1⟩))
theorem gs_bt {m n : Nat} (hm : m < 2 ^ n) (hn : n ≤ 8) : gz (bt (nI m)) 8 = gs m := gz_congr 8 (fun v _ => gb_nIa hm hn v)
theorem wx_least (V : gr_V n a) (hn : n ≤ 8) (hs : s < n) (ht : t < n) (hne : s ≠ t) {q : Int32} {Q : Nat → Prop}
    (hq : ∀ m, m < 2 ^ n → ((nI m &&& q) = q ↔ Q m)) (hQ : ∀ m, gi_b n s t m → Q m)
    (h : ∀ m, gr_F (fun m => gr_W n a s t m ∧ Q m) m → post (nI m)) : wpX_leastWall post (nI n, S, T, a) (nI s) (nI t) q := by
  have hp := gb_pow hn
  have hp0 : 0 < 2 ^ n := Nat.two_pow_pos n
  obtain ⟨m0, hm0, hb0⟩ : ∃ m, gr_W n a s t m ∧ gi_b n s t m := gr_all (t := t) a V hs
  have hg0 := gi_gs hn hs ht hne hb0
  have key : ∀ d i, i + d = 2 ^ n → ∀ b, gr_W n a s t b ∧ Q b → (b < i ∨ b = m0) → (∀ m', m' < i → gr_W n a s t m' ∧ Q m' → gs b < gs m' ∨ (gs b = gs m' ∧ b ≤ m')) →
      wX_leastWall_33 post (nI s) (nI t) q (nI (2 ^ n - 1)) (nI n) S T a (d + 1) (nI b) (nI (gs b)) (nI i) := by
    intro d
    induction d with
    | zero =>
      intro i hi b hb _ hl
      refine pk_lt (2 ^ n - 1) i (fun _ => h b ⟨hb, fun m' h' => hl m' ?_ h'⟩) (fun h => absurd h (by omega))
      have := h'.1.1
      omega
    | succ d ih =>
      intro i hi b hb hbi hl
      have hi2 : i < 2 ^ n := by omega
      have hgb := gs_le b
      have hgi := gs_le i
      refine pk_lt (2 ^ n - 1) i (fun h => absurd h (by omega)) (fun _ => wx_size ?_)
      rw [gs_bt hi2 hn]
      have skip : (gr_W n a s t i ∧ Q i → gs b < gs i ∨ (gs b = gs i ∧ b ≤ i)) → wX_leastWall_33 post (nI s) (nI t) q (nI (2 ^ n - 1)) (nI n) S T a (d + 1) (nI b) (nI (gs b)) (nI (i + 1)) := fun hnew =>
        ih (i + 1) (by omega) b hb (by omega) (fun m' hm' h' => by
          by_cases e : m' = i
          · subst e; exact hnew h'
          · exact hl m' (by omega) h')
      refine pk_le (gs b) (gs i) (fun hle => nm_r (nI_1 i) (skip (fun hP => ?_))) (fun hlt => ?_)
      · by_cases e : gs b = gs i
        · refine Or.inr ⟨e, ?_⟩
          rcases hbi with h1 | h1
          · omega
          · have := gi_max hn hb0 hP.1 (by rw [← e, h1])
            omega
        · omega
      · by_cases hQi : Q i
        · refine br_t ((hq i hi2).2 hQi) (wx_wall V hn hs ht hi2 (fun hW => br_f (by decide) (nm_r (nI_1 i) ?_)) (fun hW => br_t rfl (nm_r (nI_1 i) (skip (fun hP => absurd hP.1 hW)))))
          refine ih (i + 1) (by omega) i ⟨hW, hQi⟩ (Or.inl (by omega)) (fun m' hm' h' => ?_)
          by_cases e : m' = i
          · subst e; omega
          · have := hl m' (by omega) h'
            omega
        · exact br_f (fun z => hQi ((hq i hi2).1 z)) (nm_r (nI_1 i) (skip (fun hP => absurd hP.2 hQi)))
  refine nm_r (gb_all1 n (by omega)) ?_
  unfold wpX_endsOf
  refine nm_r (e' := nI m0) ?_ (nm_r (e' := nI (gs m0)) ?_ ⟨2 ^ n + 1, key (2 ^ n) 0 (by omega) m0 ⟨hm0, hQ m0 hb0⟩ (Or.inr rfl) (fun m' hm' => absurd hm' (by omega))⟩)
  · rw [← gb_all1 n (by omega)]
    exact gi_X hn hs ht hb0
  · rw [← hg0]
    show nI (gs m0 + 2) - nI 2 = _
    rw [pk_sub (by omega), Nat.add_sub_cancel]
theorem gq_0 {n : Nat} : ∀ m, m < 2 ^ n → ((nI m &&& 0) = (0 : Int32) ↔ True) := fun m _ => by
  refine ⟨fun _ => True.intro, fun _ => ?_⟩
  apply b_ext
  intro i _
  rw [b_and, b_0, Bool.and_false]
theorem gq_v {n v : Nat} (hn : n ≤ 8) (hv : v < n) : ∀ m, m < 2 ^ n → ((nI m &&& ((1 : Int32) <<< (nI v &&& 31))) = ((1 : Int32) <<< (nI v &&& 31)) ↔ m.testBit v = true) := fun m hm => by
  constructor
  · intro h
    have h2 := congrArg (fun x => bt x v) h
    rw [b_and, gb_sh (by omega), gb_nIa hm hn] at h2
    simpa using h2
  · intro h
    apply b_ext
    intro i _
    rw [b_and, gb_sh (by omega), gb_nIa hm hn]
    by_cases e : i = v
    · subst e; simp [h]
    · simp [e]
theorem wx_least0 (V : gr_V n a) (hn : n ≤ 8) (hs : s < n) (ht : t < n) (hne : s ≠ t)
    (h : ∀ m, gr_F (gr_W n a s t) m → post (nI m)) : wpX_leastWall post (nI n, S, T, a) (nI s) (nI t) 0 :=
  wx_least (Q := fun _ => True) V hn hs ht hne gq_0 (fun _ _ => True.intro) (fun m hm => h m (gr_Fcongr (fun m => ⟨fun h => h.1, fun h => ⟨h, True.intro⟩⟩) hm))
theorem wx_leastV (V : gr_V n a) (hn : n ≤ 8) (hs : s < n) (ht : t < n) (hne : s ≠ t) {v : Nat} (hv : v < n) (hvs : v ≠ s) (hvt : v ≠ t)
    (h : ∀ m, gr_F (fun m => gr_W n a s t m ∧ m.testBit v = true) m → post (nI m)) : wpX_leastWall post (nI n, S, T, a) (nI s) (nI t) ((1 : Int32) <<< (nI v &&& 31)) :=
  wx_least (Q := fun m => m.testBit v = true) V hn hs ht hne (gq_v hn hv) (fun m hm => by rw [hm v]; simp [hv, hvs, hvt]) h
theorem wx_most (V : gr_V n a) (hn : n ≤ 8) (hs : s < n) (ht : t < n) (hne : s ≠ t)
    (h : post (nI (gp n a s t))) : wpX_mostPaths post (nI n, S, T, a) (nI s) (nI t) := by
  unfold wpX_mostPaths
  dsimp only
  refine wx_least0 V hn hs ht hne (fun m hm => ?_)
  have hg := gm_eq (gr_FM V hn hs ht hm)
  unfold gp at h
  rw [hg] at h
  refine wx_edge (by omega) (by omega) (fun e => br_f (by decide) ?_) (fun e => br_t rfl ?_)
  · refine wx_size ?_
    rw [gs_bt hm.1.1 hn]
    rw [if_pos e, ← nI_add] at h
    exact h
  · refine wx_size ?_
    rw [gs_bt hm.1.1 hn]
    rw [if_neg (by rw [e]; decide), ← nI_add] at h
    exact h
end
