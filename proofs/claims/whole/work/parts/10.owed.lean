/-- both hold one graph, by one array, and one pair of ends; the reference's tables are free -/
def i_Rel (_ : Nat) (u : SX) (v : SY) : Prop :=
  ∃ (n s t : Nat) (a w mo : Nat → Int32), 3 ≤ n ∧ n ≤ 8 ∧ s < n ∧ t < n ∧ s ≠ t ∧ gr_V n a ∧ u = (nI n, nI s, nI t, a) ∧ v = (nI n, nI s, nI t, a, w, mo)
theorem i_up {k : Nat} {u : SX} {v : SY} (h : i_Rel k u v) : i_Rel (k + 4) u v := h
theorem ow_V0 (n : Nat) : gr_V n (fun _ => 0) := fun u w _ h => by
  have h2 : bt 0 w = true := h
  rw [b_0] at h2
  cases h2
theorem ow_0 {k n : Nat} (h3 : 3 ≤ n) (h8 : n ≤ 8) : i_Rel k (nI n, 0, nI n - 1, fun _ => 0) (nI n, 0, nI n - 1, fun _ => 0, fun _ => 0, fun _ => 0) := by
  have e : nI n - 1 = nI (n - 1) := pk_sub (a := n) (b := 1) (by omega)
  rw [e]
  exact ⟨n, 0, n - 1, _, _, _, h3, h8, by omega, by omega, by omega, ow_V0 n, rfl, rfl⟩
theorem i_vc0 (k0 : Int32) : wpX_init (fun u => wpY_init (fun v => i_Rel 1 u v) k0) k0 := by
  by_cases h3 : 3 ≤ k0
  · refine br_t h3 ?_
    by_cases h8 : k0 ≤ 8
    · obtain ⟨j, hj, rfl⟩ := nI_of2 (M := 8) (n := 8) (x := k0) (by decide) (fun z => Int32.lt_irrefl (Int32.lt_of_lt_of_le z (Int32.le_trans (by decide : (0 : Int32) ≤ 3) h3))) h8
      have h3' : 3 ≤ j := (nI_leI (a := 3) (by omega) (by omega)).1 h3
      exact br_t h8 (nm_e (br_t h3 (br_t h8 (nm_e (ow_0 h3' hj)))))
    · exact br_f h8 (nm_e (br_t h3 (br_f h8 (nm_e (ow_0 (n := 8) (by omega) (by omega))))))
  · exact br_f h3 (nm_e (br_f h3 (nm_e (ow_0 (n := 3) (by omega) (by omega)))))
theorem i_vc_vertices {k : Nat} {u : SX} {v : SY} (I : i_Rel k u v) (hk : k + 4 ≤ 2049) : wpX_vertices (fun r => wpY_vertices (fun r' => r' = r ∧ i_Rel (k + 4) u v) v) u := by
  have I2 := I
  obtain ⟨n, s, t, a, w, mo, h3, h8, hs, ht, hne, V, rfl, rfl⟩ := I
  exact ⟨rfl, I2⟩
theorem ow_edgeX {post : Int32 → SX → Prop} {n s t x y : Nat} {a : Nat → Int32} {p : Int32} (V : gr_V n a) (hn : n ≤ 8) (hx : x < n) (hy : y < n) (hne : x ≠ y)
    (h : post (nI (if bt (a x) y = true then 1 else 0)) (nI n, nI s, nI t, ge a x y (decide (p ≠ 0)))) : wpX_edge post (nI n, nI s, nI t, a) (nI x) (nI y) p := by
  unfold wpX_edge
  dsimp only
  refine wx_isP hn hx hy hne (br_f (by decide) (wx_edge (by omega) (by omega) (fun b => ?_) (fun b => ?_)))
  · rw [if_pos b] at h
    by_cases e : p = 0
    · rw [decide_eq_false (fun z => z e)] at h
      refine br_t e (br_f (by decide) (wx_flip V hn hx hy hne (br_f (by decide) ?_)))
      rw [b]
      exact h
    · rw [decide_eq_true e, ge_same V hn hx hy hne b] at h
      exact br_f e (br_t rfl (br_f (by decide) h))
  · rw [if_neg (by rw [b]; decide)] at h
    by_cases e : p = 0
    · rw [decide_eq_false (fun z => z e), ge_same V hn hx hy hne b] at h
      exact br_t e (br_t rfl (br_t rfl h))
    · rw [decide_eq_true e] at h
      refine br_f e (br_f (by decide) (wx_flip V hn hx hy hne (br_t rfl ?_)))
      rw [b]
      exact h
theorem ow_edgeY {post : Int32 → SY → Prop} {n s t x y : Nat} {a w mo : Nat → Int32} {p : Int32} (hn : n ≤ 8) (hx : x < n) (hy : y < n) (hne : x ≠ y)
    (h : post (nI (if bt (a x) y = true then 1 else 0)) (nI n, nI s, nI t, ge a x y (decide (p ≠ 0)), w, mo)) : wpY_edge post (nI n, nI s, nI t, a, w, mo) (nI x) (nI y) p := by
  unfold wpY_edge
  dsimp only
  refine wy_isV hn hx (br_f (by decide) (wy_isV hn hy (br_f (by decide) (pk_eq x y (fun e => absurd e hne) (fun _ => ⟨pk_in x 8 (by omega), ?_⟩)))))
  rw [nI_clamp (by omega)]
  refine wy_has (by omega) (fun b => br_f (by decide) ?_) (fun b => br_t rfl ?_)
  · rw [if_pos b] at h
    by_cases e : p = 0
    · rw [decide_eq_false (fun z => z e)] at h
      exact br_t e (wy_put0 (by omega) (by omega) h)
    · rw [decide_eq_true e] at h
      exact br_f e (wy_put1 (by omega) (by omega) h)
  · rw [if_neg (by rw [b]; decide)] at h
    by_cases e : p = 0
    · rw [decide_eq_false (fun z => z e)] at h
      exact br_t e (wy_put0 (by omega) (by omega) h)
    · rw [decide_eq_true e] at h
      exact br_f e (wy_put1 (by omega) (by omega) h)
theorem i_vc_edge {k : Nat} {u : SX} {v : SY} (I : i_Rel k u v) (hk : k + 4 ≤ 2049) (v1 : Int32) (v2 : Int32) (v3 : Int32) : wpX_edge (fun r u' => wpY_edge (fun r' v' => r' = r ∧ i_Rel (k + 4) u' v') v v1 v2 v3) u v1 v2 v3 := by
  have I2 := I
  obtain ⟨n, s, t, a, w, mo, h3, h8, hs, ht, hne, V, rfl, rfl⟩ := I
  by_cases hp : ∃ x y, x < n ∧ y < n ∧ x ≠ y ∧ v1 = nI x ∧ v2 = nI y
  · obtain ⟨x, y, hx, hy, hxy, rfl, rfl⟩ := hp
    refine ow_edgeX V h8 hx hy hxy (ow_edgeY h8 hx hy hxy ⟨rfl, ?_⟩)
    exact ⟨n, s, t, _, w, mo, h3, h8, hs, ht, hne, ge_V V h8 hx hy hxy _, rfl, rfl⟩
  · unfold wpX_edge
    dsimp only
    refine wx_nP h8 hp (br_t rfl ?_)
    unfold wpY_edge
    dsimp only
    by_cases h1 : ∃ x, x < n ∧ v1 = nI x
    · obtain ⟨x, hx, rfl⟩ := h1
      refine wy_isV h8 hx (br_f (by decide) ?_)
      by_cases h2 : ∃ y, y < n ∧ v2 = nI y
      · obtain ⟨y, hy, rfl⟩ := h2
        exact wy_isV h8 hy (br_f (by decide) (pk_eq x y (fun _ => ⟨rfl, I2⟩) (fun e => absurd ⟨x, y, hx, hy, e, rfl, rfl⟩ hp)))
      · exact wy_nV h8 h2 (br_t rfl ⟨rfl, I2⟩)
    · exact wy_nV h8 h1 (br_t rfl ⟨rfl, I2⟩)
theorem i_vc_joined {k : Nat} {u : SX} {v : SY} (I : i_Rel k u v) (hk : k + 4 ≤ 2049) (v1 : Int32) (v2 : Int32) : wpX_joined (fun r => wpY_joined (fun r' => r' = r ∧ i_Rel (k + 4) u v) v v1 v2) u v1 v2 := by
  have I2 := I
  obtain ⟨n, s, t, a, w, mo, h3, h8, hs, ht, hne, V, rfl, rfl⟩ := I
  unfold wpX_joined
  dsimp only
  by_cases hp : ∃ x y, x < n ∧ y < n ∧ x ≠ y ∧ v1 = nI x ∧ v2 = nI y
  · obtain ⟨x, y, hx, hy, hxy, rfl, rfl⟩ := hp
    have hY : ∀ r : Int32, (bt (a x) y = true → r = 1) → (bt (a x) y = false → r = 0) → wpY_joined (fun r' => r' = r ∧ i_Rel (k + 4) (nI n, nI s, nI t, a) (nI n, nI s, nI t, a, w, mo)) (nI n, nI s, nI t, a, w, mo) (nI x) (nI y) := by
      intro r r1 r0
      unfold wpY_joined
      dsimp only
      refine wy_isV h8 hx (br_f (by decide) (wy_isV h8 hy (br_f (by decide) ⟨pk_in x 8 (by omega), ?_⟩)))
      rw [nI_clamp (by omega)]
      exact wy_has (by omega) (fun b => br_f (by decide) ⟨(r1 b).symm, I2⟩) (fun b => br_t rfl ⟨(r0 b).symm, I2⟩)
    exact wx_isP h8 hx hy hxy (br_f (by decide) (wx_edge (by omega) (by omega) (fun b => br_f (by decide) (hY 1 (fun _ => rfl) (fun b0 => absurd b (by rw [b0]; decide)))) (fun b => br_t rfl (hY 0 (fun b0 => absurd b (by rw [b0]; decide)) (fun _ => rfl)))))
  · refine wx_nP h8 hp (br_t rfl ?_)
    unfold wpY_joined
    dsimp only
    by_cases h1 : ∃ x, x < n ∧ v1 = nI x
    · obtain ⟨x, hx, rfl⟩ := h1
      refine wy_isV h8 hx (br_f (by decide) ?_)
      by_cases h2 : ∃ y, y < n ∧ v2 = nI y
      · obtain ⟨y, hy, rfl⟩ := h2
        have exy : x = y := Classical.byContradiction (fun e => hp ⟨x, y, hx, hy, e, rfl, rfl⟩)
        subst exy
        refine wy_isV h8 hy (br_f (by decide) ⟨pk_in x 8 (by omega), ?_⟩)
        rw [nI_clamp (by omega)]
        exact wy_has (by omega) (fun b => absurd rfl (V x x hx b).2.1) (fun b => br_t rfl ⟨rfl, I2⟩)
      · exact wy_nV h8 h2 (br_t rfl ⟨rfl, I2⟩)
    · exact wy_nV h8 h1 (br_t rfl ⟨rfl, I2⟩)
theorem i_vc_ends {k : Nat} {u : SX} {v : SY} (I : i_Rel k u v) (hk : k + 4 ≤ 2049) (v1 : Int32) (v2 : Int32) : wpX_ends (fun r u' => wpY_ends (fun r' v' => r' = r ∧ i_Rel (k + 4) u' v') v v1 v2) u v1 v2 := by
  have I2 := I
  obtain ⟨n, s, t, a, w, mo, h3, h8, hs, ht, hne, V, rfl, rfl⟩ := I
  unfold wpX_ends
  dsimp only
  by_cases hp : ∃ x y, x < n ∧ y < n ∧ x ≠ y ∧ v1 = nI x ∧ v2 = nI y
  · obtain ⟨x, y, hx, hy, hxy, rfl, rfl⟩ := hp
    refine wx_isP h8 hx hy hxy (br_f (by decide) ?_)
    unfold wpY_ends
    dsimp only
    exact wy_isV h8 hx (br_f (by decide) (wy_isV h8 hy (br_f (by decide) (pk_eq x y (fun e => absurd e hxy) (fun _ => ⟨rfl, n, x, y, a, w, mo, h3, h8, hx, hy, hxy, V, rfl, rfl⟩)))))
  · refine wx_nP h8 hp (br_t rfl ?_)
    unfold wpY_ends
    dsimp only
    by_cases h1 : ∃ x, x < n ∧ v1 = nI x
    · obtain ⟨x, hx, rfl⟩ := h1
      refine wy_isV h8 hx (br_f (by decide) ?_)
      by_cases h2 : ∃ y, y < n ∧ v2 = nI y
      · obtain ⟨y, hy, rfl⟩ := h2
        exact wy_isV h8 hy (br_f (by decide) (pk_eq x y (fun _ => ⟨rfl, I2⟩) (fun e => absurd ⟨x, y, hx, hy, e, rfl, rfl⟩ hp)))
      · exact wy_nV h8 h2 (br_t rfl ⟨rfl, I2⟩)
    · exact wy_nV h8 h1 (br_t rfl ⟨rfl, I2⟩)
theorem i_vc_paths {k : Nat} {u : SX} {v : SY} (I : i_Rel k u v) (hk : k + 4 ≤ 2049) : wpX_paths (fun r => wpY_paths (fun r' v' => r' = r ∧ i_Rel (k + 4) u v') v) u := by
  obtain ⟨n, s, t, a, w, mo, h3, h8, hs, ht, hne, V, rfl, rfl⟩ := I
  unfold wpX_paths
  dsimp only
  exact wx_most V h8 hs ht hne (wy_paths V h8 hs ht (fun w' mo' => ⟨rfl, n, s, t, a, w', mo', h3, h8, hs, ht, hne, V, rfl, rfl⟩))
/-- the reference's least cut where the ends have no edge: the component's least wall -/
theorem ow_cut0 {post : Int32 → Prop} {n s t m : Nat} {a w mo : Nat → Int32} (V : gr_V n a) (hn : n ≤ 8) (hs : s < n) (ht : t < n) (b : bt (a s) t = false)
    (hm : gr_F (gr_W n a s t) m) (h : post (nI m)) : wpY_leastCut post (nI n, nI s, nI t, a, w, mo) 0 :=
  wy_least (Q := fun _ => True) V hn hs ht gq_0 (fun m' h' => by
    have h2 : gr_F (gr_W n a s t) m' := gr_Fcongr (fun m => ⟨fun h => h.2.1, fun h => ⟨b, h, True.intro⟩⟩) h'
    rw [gr_Funiq h2 hm]
    exact h) (fun h' => absurd ⟨b, hm.1, True.intro⟩ (h' m))
theorem ow_cutV {post : Int32 → Prop} {n s t m x : Nat} {a w mo : Nat → Int32} (V : gr_V n a) (hn : n ≤ 8) (hs : s < n) (ht : t < n) (b : bt (a s) t = false) (hx : x < n)
    (hm : gr_F (fun m => gr_W n a s t m ∧ m.testBit x = true) m) (h : post (nI m)) : wpY_leastCut post (nI n, nI s, nI t, a, w, mo) ((1 : Int32) <<< (nI x &&& 31)) :=
  wy_least (Q := fun m => m.testBit x = true) V hn hs ht (gq_v hn hx) (fun m' h' => by
    have h2 : gr_F (fun m => gr_W n a s t m ∧ m.testBit x = true) m' := gr_Fcongr (fun m => ⟨fun h => h.2, fun h => ⟨b, h⟩⟩) h'
    rw [gr_Funiq h2 hm]
    exact h) (fun h' => absurd ⟨b, hm.1⟩ (h' m))
theorem ow_cut4 {post : Int32 → Prop} {n s t : Nat} {a w mo : Nat → Int32} {q : Int32} {Q : Nat → Prop} (V : gr_V n a) (hn : n ≤ 8) (hs : s < n) (ht : t < n)
    (hq : ∀ m, m < 2 ^ n → ((nI m &&& q) = q ↔ Q m)) (hno : ∀ m, ¬ (bt (a s) t = false ∧ gr_W n a s t m ∧ Q m)) (h : post (-4)) : wpY_leastCut post (nI n, nI s, nI t, a, w, mo) q :=
  wy_least V hn hs ht hq (fun m' h' => absurd h'.1 (hno m')) (fun _ => h)
theorem ow_lt {n s t m : Nat} {a : Nat → Int32} (hn : n ≤ 8) (h : gr_W n a s t m) : m < 2 ^ 31 := by
  have h1 := h.1
  have h2 := gb_pow hn
  omega
theorem i_vc_cutSize {k : Nat} {u : SX} {v : SY} (I : i_Rel k u v) (hk : k + 4 ≤ 2049) : wpX_cutSize (fun r => wpY_cutSize (fun r' => r' = r ∧ i_Rel (k + 4) u v) v) u := by
  have I2 := I
  obtain ⟨n, s, t, a, w, mo, h3, h8, hs, ht, hne, V, rfl, rfl⟩ := I
  unfold wpX_cutSize
  dsimp only
  refine wx_edge (by omega) (by omega) (fun b => br_f (by decide) ?_) (fun b => br_t rfl (wx_least0 V h8 hs ht hne (fun m hm => wx_size ?_)))
  · unfold wpY_cutSize
    dsimp only
    exact ow_cut4 (Q := fun _ => True) V h8 hs ht gq_0 (fun m h => by rw [b] at h; exact absurd h.1 (by decide)) (br_t rfl ⟨rfl, I2⟩)
  · unfold wpY_cutSize
    dsimp only
    exact ow_cut0 V h8 hs ht b hm (br_f (gq_m4 (ow_lt h8 hm.1)) (wy_size ⟨rfl, I2⟩))
theorem i_vc_firstCut {k : Nat} {u : SX} {v : SY} (I : i_Rel k u v) (hk : k + 4 ≤ 2049) : wpX_firstCut (fun r => wpY_firstCut (fun r' => r' = r ∧ i_Rel (k + 4) u v) v) u := by
  have I2 := I
  obtain ⟨n, s, t, a, w, mo, h3, h8, hs, ht, hne, V, rfl, rfl⟩ := I
  unfold wpX_firstCut
  dsimp only
  refine wx_edge (by omega) (by omega) (fun b => br_f (by decide) ?_) (fun b => br_t rfl (wx_least0 V h8 hs ht hne (fun m hm => ?_)))
  · unfold wpY_firstCut
    dsimp only
    exact ow_cut4 (Q := fun _ => True) V h8 hs ht gq_0 (fun m h => by rw [b] at h; exact absurd h.1 (by decide)) ⟨rfl, I2⟩
  · unfold wpY_firstCut
    dsimp only
    exact ow_cut0 V h8 hs ht b hm ⟨rfl, I2⟩
theorem ow_isEnd {post : Int32 → Prop} {n s t x : Nat} {a : Nat → Int32} (hn : n ≤ 8) (hs : s < n) (ht : t < n) (hx : x < n)
    (h1 : x = s ∨ x = t → post 1) (h0 : x ≠ s → x ≠ t → post 0) : wpX_isEnd post (nI n, nI s, nI t, a) (nI x) :=
  pk_eq x s (fun e => h1 (Or.inl e)) (fun e => pk_eq x t (fun e2 => h1 (Or.inr e2)) (fun e2 => h0 e e2))
theorem i_vc_cutWith {k : Nat} {u : SX} {v : SY} (I : i_Rel k u v) (hk : k + 4 ≤ 2049) (v1 : Int32) : wpX_cutWith (fun r => wpY_cutWith (fun r' => r' = r ∧ i_Rel (k + 4) u v) v v1) u v1 := by
  have I2 := I
  obtain ⟨n, s, t, a, w, mo, h3, h8, hs, ht, hne, V, rfl, rfl⟩ := I
  unfold wpX_cutWith
  dsimp only
  by_cases hp : ∃ x, x < n ∧ v1 = nI x
  · obtain ⟨x, hx, rfl⟩ := hp
    have hY4 : (∀ m, ¬ (bt (a s) t = false ∧ gr_W n a s t m ∧ m.testBit x = true)) → wpY_cutWith (fun r' => r' = -4 ∧ i_Rel (k + 4) (nI n, nI s, nI t, a) (nI n, nI s, nI t, a, w, mo)) (nI n, nI s, nI t, a, w, mo) (nI x) := by
      intro hno
      unfold wpY_cutWith
      dsimp only
      exact wy_isV h8 hx (br_f (by decide) (ow_cut4 V h8 hs ht (gq_v h8 hx) hno (br_t rfl ⟨rfl, I2⟩)))
    refine wx_isV h8 hx (br_f (by decide) (ow_isEnd h8 hs ht hx (fun e => br_f (by decide) (hY4 (fun m h => ?_))) (fun e1 e2 => br_t rfl (wx_edge (by omega) (by omega) (fun b => br_f (by decide) (hY4 (fun m h => ?_))) (fun b => br_t rfl (wx_leastV V h8 hs ht hne hx e1 e2 (fun m hm => wx_size ?_)))))))
    · rcases e with e | e
      · rw [e, h.2.1.2.1] at h; exact absurd h.2.2 (by decide)
      · rw [e, h.2.1.2.2.1] at h; exact absurd h.2.2 (by decide)
    · rw [b] at h; exact absurd h.1 (by decide)
    · unfold wpY_cutWith
      dsimp only
      exact wy_isV h8 hx (br_f (by decide) (ow_cutV V h8 hs ht b hx hm (br_f (gq_m4 (ow_lt h8 hm.1.1)) (wy_size ⟨rfl, I2⟩))))
  · refine wx_nV h8 hp (br_t rfl ?_)
    unfold wpY_cutWith
    dsimp only
    exact wy_nV h8 hp (br_t rfl ⟨rfl, I2⟩)
theorem i_vc_loss {k : Nat} {u : SX} {v : SY} (I : i_Rel k u v) (hk : k + 4 ≤ 2049) (v1 : Int32) : wpX_loss (fun r => wpY_loss (fun r' v' => r' = r ∧ i_Rel (k + 4) u v') v v1) u v1 := by
  have I2 := I
  obtain ⟨n, s, t, a, w, mo, h3, h8, hs, ht, hne, V, rfl, rfl⟩ := I
  unfold wpX_loss
  dsimp only
  by_cases hp : ∃ x, x < n ∧ v1 = nI x
  · obtain ⟨x, hx, rfl⟩ := hp
    refine wx_isV h8 hx (br_f (by decide) (ow_isEnd h8 hs ht hx (fun e => br_f (by decide) ?_) (fun e1 e2 => br_t rfl (wx_least0 V h8 hs ht hne (fun m hm => wx_leastV V h8 hs ht hne hx e1 e2 (fun mv hmv => wx_size (nm_e (wx_size ?_))))))))
    · unfold wpY_loss
      dsimp only
      exact wy_isV h8 hx (br_f (by decide) (pk_eq x s (fun _ => ⟨rfl, I2⟩) (fun z1 => pk_eq x t (fun _ => ⟨rfl, I2⟩) (fun z2 => absurd e (by omega)))))
    · rw [gs_bt hm.1.1 h8, gs_bt hmv.1.1.1 h8]
      unfold wpY_loss
      dsimp only
      refine wy_isV h8 hx (br_f (by decide) (pk_eq x s (fun z => absurd z e1) (fun _ => pk_eq x t (fun z => absurd z e2) (fun _ => wy_paths V h8 hs ht (fun w' mo' => ⟨pk_in x 8 (by omega), ?_⟩)))))
      rw [nI_clamp (by omega)]
      refine nm_e ⟨n + 1, wy_away V h8 hs ht hx (fun a' ha' V' w2 mo2 => ⟨?_, n, s, t, a, w2, mo2, h3, h8, hs, ht, hne, V, rfl, rfl⟩) n 0 (by omega) a w' mo' (fun y i => ?_)⟩
      · unfold lo_cut
        rw [if_neg (by omega)]
      · have hl := lo_V V hx ha'
        have e3 := gm_loss V V' h8 hs ht hx e1 e2 hl.1 hmv
        have e4 := gm_eq (gr_FM V h8 hs ht hm)
        have e5 : bt (a' s) t = bt (a s) t := by
          rw [ha' s t]
          unfold lo_cut
          rw [if_neg (by omega)]
        rw [← e3, ← e4, nI_pred]
        unfold gp
        rw [e5, ← nI_add, ← nI_add]
        generalize nI (if bt (a s) t = true then 1 else 0) = z
        generalize nI (gm n a s t) = p
        generalize nI (gm n a' s t) = q
        grind
  · refine wx_nV h8 hp (br_t rfl ?_)
    unfold wpY_loss
    dsimp only
    exact wy_nV h8 hp (br_t rfl ⟨rfl, I2⟩)
theorem i_vc_tightEdges {k : Nat} {u : SX} {v : SY} (I : i_Rel k u v) (hk : k + 4 ≤ 2049) : wpX_tightEdges (fun r u' => wpY_tightEdges (fun r' v' => r' = r ∧ i_Rel (k + 4) u' v') v) u := by
  obtain ⟨n, s, t, a, w, mo, h3, h8, hs, ht, hne, V, rfl, rfl⟩ := I
  unfold wpX_tightEdges
  dsimp only
  refine wx_most V h8 hs ht hne ⟨n + 1, wx_tightO V h8 hs ht hne n 0 (by omega) 0 ?_⟩
  unfold wpY_tightEdges
  dsimp only
  refine wy_telling V h8 hs ht true rfl (fun w' mo' => ⟨?_, n, s, t, a, w', mo', h3, h8, hs, ht, hne, V, rfl, rfl⟩)
  rw [Nat.zero_add]
theorem i_vc_helpfulEdges {k : Nat} {u : SX} {v : SY} (I : i_Rel k u v) (hk : k + 4 ≤ 2049) : wpX_helpfulEdges (fun r u' => wpY_helpfulEdges (fun r' v' => r' = r ∧ i_Rel (k + 4) u' v') v) u := by
  obtain ⟨n, s, t, a, w, mo, h3, h8, hs, ht, hne, V, rfl, rfl⟩ := I
  unfold wpX_helpfulEdges
  dsimp only
  refine wx_most V h8 hs ht hne ⟨n + 1, wx_helpO V h8 hs ht hne n 0 (by omega) 0 ?_⟩
  unfold wpY_helpfulEdges
  dsimp only
  refine wy_telling V h8 hs ht false rfl (fun w' mo' => ⟨?_, n, s, t, a, w', mo', h3, h8, hs, ht, hne, V, rfl, rfl⟩)
  rw [Nat.zero_add]
theorem i_vc_distance {k : Nat} {u : SX} {v : SY} (I : i_Rel k u v) (hk : k + 4 ≤ 2049) : wpX_distance (fun r => wpY_distance (fun r' => r' = r ∧ i_Rel (k + 4) u v) v) u := by
  have I2 := I
  obtain ⟨n, s, t, a, w, mo, h3, h8, hs, ht, hne, V, rfl, rfl⟩ := I
  obtain ⟨r, hX, hY⟩ := wd_both (s := s) (a := a) (w := w) (mo := mo) h8 ht (n - 1) 1 (by omega) ((1 : Int32) <<< (nI s &&& 31))
  exact nm_e ⟨_, hX _ (nm_e ⟨_, hY _ ⟨rfl, I2⟩⟩)⟩
theorem i_vc_strength {k : Nat} {u : SX} {v : SY} (I : i_Rel k u v) (hk : k + 4 ≤ 2049) : wpX_strength (fun r => wpY_strength (fun r' v' => r' = r ∧ i_Rel (k + 4) u v') v) u := by
  obtain ⟨n, s, t, a, w, mo, h3, h8, hs, ht, hne, V, rfl, rfl⟩ := I
  have e : nI n - 1 = nI (n - 1) := pk_sub (a := n) (b := 1) (by omega)
  exact nm_r e ⟨n + 1, wx_strO V h8 n 0 (by omega) (n - 1) (by omega) (nm_r e ⟨n + 1, wy_strO V h8 n 0 (by omega) (n - 1) (nI s) (nI t) w mo (by omega) (fun w' mo' => ⟨rfl, n, s, t, a, w', mo', h3, h8, hs, ht, hne, V, rfl, rfl⟩)⟩)⟩
theorem i_vc_clear {k : Nat} {u : SX} {v : SY} (I : i_Rel k u v) (hk : k + 4 ≤ 2049) : wpX_clear (fun r u' => wpY_clear (fun r' v' => r' = r ∧ i_Rel (k + 4) u' v') v) u := by
  obtain ⟨n, s, t, a, w, mo, h3, h8, hs, ht, hne, V, rfl, rfl⟩ := I
  obtain ⟨r, a', h0, hX, hY⟩ := wc_both (s := s) (t := t) h8 n 0 (by omega) 0 a (fun x hx => absurd hx (by omega))
  refine ⟨_, hX _ ⟨_, hY _ w mo ⟨rfl, n, s, t, a', w, mo, h3, h8, hs, ht, hne, fun x i hx hb => ?_, rfl, rfl⟩⟩⟩
  rw [h0 x hx, b_0] at hb
  cases hb
