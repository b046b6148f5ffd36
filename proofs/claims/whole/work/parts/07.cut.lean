/-! the reference's least cut; vertices and pairs; stores of an edge -/
section
variable {post : Int32 → Prop} {n s t : Nat} {a w mo : Nat → Int32}
theorem wy_isCut (V : gr_V n a) (hn : n ≤ 8) (hs : s < n) (ht : t < n) {m : Nat} (hm : m < 2 ^ n)
    (h1 : bt (a s) t = false → gr_W n a s t m → post 1) (h0 : ¬ (bt (a s) t = false ∧ gr_W n a s t m) → post 0) : wpY_isCut post (nI n, nI s, nI t, a, w, mo) (nI m) := by
  obtain ⟨A, hW, hb⟩ : ∃ m, gr_W n a s t m ∧ gi_b n s t m := gr_all (t := t) a V hs
  have hp := gb_pow hn
  have hA : A < 256 := Nat.lt_of_lt_of_le hW.1 hp
  have hm2 : m < 256 := Nat.lt_of_lt_of_le hm hp
  unfold wpY_isCut wpY_inner
  dsimp only
  rw [gi_Y hn hs ht hb, nI_clamp (by omega)]
  refine ⟨pk_in s 8 (by omega), wy_has (by omega) (fun e => br_f (by decide) (h0 (fun h => by rw [e] at h; exact absurd h.1 (by decide)))) (fun e => br_t rfl ?_)⟩
  by_cases hsb : ms m A
  · refine br_t ((ms_I (by omega) (by omega)).2 hsb) ?_
    obtain ⟨q, hq, eq, hqb⟩ := ms_sub hA hm2
    rw [eq]
    have hends : m.testBit s = false ∧ m.testBit t = false := by
      constructor
      · refine Bool.eq_false_iff.2 (fun h => ?_)
        have h2 := hsb s h
        rw [hb s] at h2
        simp at h2
      · refine Bool.eq_false_iff.2 (fun h => ?_)
        have h2 := hsb t h
        rw [hb t] at h2
        simp at h2
    have hL : gr_L n a s t (fun v => bt (nI q) v = true) ↔ gr_L n a s t (fun v => m.testBit v = false ∧ v ≠ s ∧ v ≠ t) := by
      constructor
      · intro h
        refine gr_Lmono (a' := a) h (fun _ _ _ _ _ e => e) hs ht (fun v hv => ?_)
        rw [gb_nIa (n := 8) hq (Nat.le_refl 8), hqb v, hb v] at hv
        simp at hv
        exact ⟨hv.2, hv.1.2⟩
      · intro h
        refine gr_Lmono (a' := a) (gr_Lin V hs h) (fun _ _ _ _ _ e => e) hs ht (fun v hv => ?_)
        rw [gb_nIa (n := 8) hq (Nat.le_refl 8), hqb v, hb v]
        simp [hv.1.1, hv.1.2.1, hv.1.2.2, hv.2]
    exact wy_leads V hn hs ht (fun h => br_f (by decide) (h0 (fun hW => hW.2.2.2.2 (hL.1 h)))) (fun h => br_t rfl (h1 e ⟨hm, hends.1, hends.2, fun h2 => h (hL.2 h2)⟩))
  · refine br_f (fun z => hsb ((ms_I (by omega) (by omega)).1 z)) (h0 (fun hW => hsb (fun v hv => ?_)))
    have h2 := gz_tb hm hv
    have h3 : v ≠ s := fun e => by rw [e, hW.2.2.1] at hv; cases hv
    have h4 : v ≠ t := fun e => by rw [e, hW.2.2.2.1] at hv; cases hv
    rw [hb v]
    simp [h2, h3, h4]
theorem wy_least (V : gr_V n a) (hn : n ≤ 8) (hs : s < n) (ht : t < n) {q : Int32} {Q : Nat → Prop}
    (hq : ∀ m, m < 2 ^ n → ((nI m &&& q) = q ↔ Q m))
    (h1 : ∀ m, gr_F (fun m => bt (a s) t = false ∧ gr_W n a s t m ∧ Q m) m → post (nI m))
    (h0 : (∀ m, ¬ (bt (a s) t = false ∧ gr_W n a s t m ∧ Q m)) → post (-4)) : wpY_leastCut post (nI n, nI s, nI t, a, w, mo) q := by
  have hp := gb_pow hn
  have hp0 : 0 < 2 ^ n := Nat.two_pow_pos n
  have e2 := gb_all n (by omega)
  have key1 : ∀ d i, i + d = 2 ^ n → ∀ b, (bt (a s) t = false ∧ gr_W n a s t b ∧ Q b) → b < i → (∀ m', m' < i → (bt (a s) t = false ∧ gr_W n a s t m' ∧ Q m') → gs b < gs m' ∨ (gs b = gs m' ∧ b ≤ m')) →
      wY_leastCut_9 post q (nI n) (nI s) (nI t) a w mo (d + 1) (nI b) (nI (gs b)) (nI i) := by
    intro d
    induction d with
    | zero =>
      intro i hi b hb _ hl
      refine pk_le (2 ^ n) i (fun _ => h1 b ⟨hb, fun m' h' => hl m' ?_ h'⟩) (fun h => absurd h (by omega)) (hx := e2)
      have := h'.2.1.1
      omega
    | succ d ih =>
      intro i hi b hb hbi hl
      have hi2 : i < 2 ^ n := by omega
      have hgb := gs_le b
      have hgi := gs_le i
      have skip : ((bt (a s) t = false ∧ gr_W n a s t i ∧ Q i) → gs b < gs i ∨ (gs b = gs i ∧ b ≤ i)) → wY_leastCut_9 post q (nI n) (nI s) (nI t) a w mo (d + 1) (nI b) (nI (gs b)) (nI (i + 1)) := fun hnew =>
        ih (i + 1) (by omega) b hb (by omega) (fun m' hm' h' => by
          by_cases e : m' = i
          · subst e; exact hnew h'
          · exact hl m' (by omega) h')
      refine pk_le (2 ^ n) i (fun h => absurd h (by omega)) (fun _ => ?_) (hx := e2)
      by_cases hQi : Q i
      · refine br_t ((hq i hi2).2 hQi) (wy_isCut V hn hs ht hi2 (fun hst hW => br_f (by decide) (wy_size ?_)) (fun hno => br_t rfl (nm_r (nI_1 i) (skip (fun hP => absurd ⟨hP.1, hP.2.1⟩ hno)))))
        rw [gs_bt hi2 hn]
        refine pk_le (gs b) (gs i) (fun hle => nm_r (nI_1 i) (skip (fun _ => by omega))) (fun hlt => wy_size ?_)
        rw [gs_bt hi2 hn]
        refine nm_r (nI_1 i) (ih (i + 1) (by omega) i ⟨hst, hW, hQi⟩ (by omega) (fun m' hm' h' => ?_))
        by_cases e : m' = i
        · subst e; omega
        · have := hl m' (by omega) h'
          omega
      · exact br_f (fun z => hQi ((hq i hi2).1 z)) (nm_r (nI_1 i) (skip (fun hP => absurd hP.2.2 hQi)))
  have key0 : ∀ d i, i + d = 2 ^ n → (∀ m', m' < i → ¬ (bt (a s) t = false ∧ gr_W n a s t m' ∧ Q m')) →
      wY_leastCut_9 post q (nI n) (nI s) (nI t) a w mo (d + 1) (-4) 9 (nI i) := by
    intro d
    induction d with
    | zero =>
      intro i hi hl
      refine pk_le (2 ^ n) i (fun _ => h0 (fun m' h' => hl m' ?_ h')) (fun h => absurd h (by omega)) (hx := e2)
      have := h'.2.1.1
      omega
    | succ d ih =>
      intro i hi hl
      have hi2 : i < 2 ^ n := by omega
      have hgi := gs_le i
      have skip : ¬ (bt (a s) t = false ∧ gr_W n a s t i ∧ Q i) → wY_leastCut_9 post q (nI n) (nI s) (nI t) a w mo (d + 1) (-4) 9 (nI (i + 1)) := fun hnew =>
        ih (i + 1) (by omega) (fun m' hm' h' => by
          by_cases e : m' = i
          · subst e; exact hnew h'
          · exact hl m' (by omega) h')
      refine pk_le (2 ^ n) i (fun h => absurd h (by omega)) (fun _ => ?_) (hx := e2)
      by_cases hQi : Q i
      · refine br_t ((hq i hi2).2 hQi) (wy_isCut V hn hs ht hi2 (fun hst hW => br_f (by decide) (wy_size ?_)) (fun hno => br_t rfl (nm_r (nI_1 i) (skip (fun hP => absurd ⟨hP.1, hP.2.1⟩ hno)))))
        rw [gs_bt hi2 hn]
        refine pk_le 9 (gs i) (fun hle => absurd hle (by omega)) (fun hlt => wy_size ?_)
        rw [gs_bt hi2 hn]
        refine nm_r (nI_1 i) (key1 d (i + 1) (by omega) i ⟨hst, hW, hQi⟩ (by omega) (fun m' hm' h' => ?_))
        by_cases e : m' = i
        · subst e; omega
        · exact absurd h' (hl m' (by omega))
      · exact br_f (fun z => hQi ((hq i hi2).1 z)) (nm_r (nI_1 i) (skip (fun hP => absurd hP.2.2 hQi)))
  exact ⟨2 ^ n + 1, key0 (2 ^ n) 0 (by omega) (fun m' h => absurd h (by omega))⟩
theorem gq_m4 {m : Nat} (hm : m < 2 ^ 31) : ¬ nI m = -4 := fun e => by
  have h := nI_pos hm
  rw [e] at h
  exact h (by decide)
/-! vertices and pairs -/
theorem wx_isV {v : Nat} {S T : Int32} (hn : n ≤ 8) (hv : v < n) (h : post 1) : wpX_isVertex post (nI n, S, T, a) (nI v) :=
  br_f (nI_pos (by omega)) (pk_le n v (fun h => absurd h (by omega)) (fun _ => h))
theorem wx_nV {p S T : Int32} (hn : n ≤ 8) (hp : ¬ ∃ v, v < n ∧ p = nI v) (h : post 0) : wpX_isVertex post (nI n, S, T, a) p := by
  rcases pk_ix p (n := n) (by omega) with h1 | h1 | h1
  · exact br_t h1 h
  · exact br_c (fun _ => h) (fun _ => br_t h1 h)
  · exact absurd h1 hp
theorem wy_isV {v : Nat} {S T : Int32} (hn : n ≤ 8) (hv : v < n) (h : post 1) : wpY_isVertex post (nI n, S, T, a, w, mo) (nI v) :=
  br_f (nI_pos (by omega)) (pk_le n v (fun h => absurd h (by omega)) (fun _ => h))
theorem wy_nV {p S T : Int32} (hn : n ≤ 8) (hp : ¬ ∃ v, v < n ∧ p = nI v) (h : post 0) : wpY_isVertex post (nI n, S, T, a, w, mo) p := by
  rcases pk_ix p (n := n) (by omega) with h1 | h1 | h1
  · exact br_t h1 h
  · exact br_c (fun _ => h) (fun _ => br_t h1 h)
  · exact absurd h1 hp
theorem wx_isP {u v : Nat} {S T : Int32} (hn : n ≤ 8) (hu : u < n) (hv : v < n) (hne : u ≠ v) (h : post 1) : wpX_isPair post (nI n, S, T, a) (nI u) (nI v) := by
  unfold wpX_isPair
  dsimp only
  exact wx_isV hn hu (br_f (by decide) (wx_isV hn hv (br_f (by decide) (pk_eq u v (fun e => absurd e hne) (fun _ => h)))))
theorem wx_nP {p q S T : Int32} (hn : n ≤ 8) (hp : ¬ ∃ u v, u < n ∧ v < n ∧ u ≠ v ∧ p = nI u ∧ q = nI v) (h : post 0) : wpX_isPair post (nI n, S, T, a) p q := by
  unfold wpX_isPair
  dsimp only
  by_cases h1 : ∃ u, u < n ∧ p = nI u
  · obtain ⟨u, hu, rfl⟩ := h1
    refine wx_isV hn hu (br_f (by decide) ?_)
    by_cases h2 : ∃ v, v < n ∧ q = nI v
    · obtain ⟨v, hv, rfl⟩ := h2
      exact wx_isV hn hv (br_f (by decide) (pk_eq u v (fun _ => h) (fun hne => absurd ⟨u, v, hu, hv, hne, rfl, rfl⟩ hp)))
    · exact wx_nV hn h2 (br_t rfl h)
  · exact wx_nV hn h1 (br_t rfl h)
end
/-! an edge stored -/
theorem gx_ext {a b : Nat → Int32} (h : ∀ x i, bt (a x) i = bt (b x) i) : a = b := funext (fun x => b_ext (fun i _ => h x i))
def ge (a : Nat → Int32) (u v : Nat) (on : Bool) : Nat → Int32 :=
  if on = true then upd (upd a u (a u ||| ((1 : Int32) <<< (nI v &&& 31)))) v (upd a u (a u ||| ((1 : Int32) <<< (nI v &&& 31))) v ||| ((1 : Int32) <<< (nI u &&& 31)))
  else upd (upd a u (a u &&& (((1 : Int32) <<< (nI v &&& 31)) ^^^ (-1)))) v (upd a u (a u &&& (((1 : Int32) <<< (nI v &&& 31)) ^^^ (-1))) v &&& (((1 : Int32) <<< (nI u &&& 31)) ^^^ (-1)))
theorem gb_ntrue {x : Int32} {i v : Nat} (hv : v < 32) : bt (x &&& (((1 : Int32) <<< (nI v &&& 31)) ^^^ (-1))) i = (bt x i && !decide (i = v)) := by
  rw [b_and]
  by_cases hi : i < 32
  · rw [gb_not _ hi, gb_sh hv]
  · rw [b_big (x := x) (by omega)]; rfl
theorem ge_b {a : Nat → Int32} {u v : Nat} (hu : u < 8) (hv : v < 8) (hne : u ≠ v) (on : Bool) (x i : Nat) :
    bt (ge a u v on x) i = if (x = u ∧ i = v) ∨ (x = v ∧ i = u) then on else bt (a x) i := by
  unfold ge
  cases on with
  | true =>
    rw [if_pos rfl]
    by_cases e1 : x = v
    · subst e1
      rw [pk_us, b_or, pk_un (by omega), gb_sh (by omega)]
      by_cases e2 : i = u
      · rw [if_pos (Or.inr ⟨rfl, e2⟩), decide_eq_true e2, Bool.or_true]
      · rw [if_neg (by omega), decide_eq_false e2, Bool.or_false]
    · rw [pk_un e1]
      by_cases e2 : x = u
      · subst e2
        rw [pk_us, b_or, gb_sh (by omega)]
        by_cases e3 : i = v
        · rw [if_pos (Or.inl ⟨rfl, e3⟩), decide_eq_true e3, Bool.or_true]
        · rw [if_neg (by omega), decide_eq_false e3, Bool.or_false]
      · rw [pk_un e2, if_neg (by omega)]
  | false =>
    rw [if_neg (by decide)]
    by_cases e1 : x = v
    · subst e1
      rw [pk_us, gb_ntrue (by omega), pk_un (by omega)]
      by_cases e2 : i = u
      · rw [if_pos (Or.inr ⟨rfl, e2⟩), decide_eq_true e2, Bool.not_true, Bool.and_false]
      · rw [if_neg (by omega), decide_eq_false e2, Bool.not_false, Bool.and_true]
    · rw [pk_un e1]
      by_cases e2 : x = u
      · subst e2
        rw [pk_us, gb_ntrue (by omega)]
        by_cases e3 : i = v
        · rw [if_pos (Or.inl ⟨rfl, e3⟩), decide_eq_true e3, Bool.not_true, Bool.and_false]
        · rw [if_neg (by omega), decide_eq_false e3, Bool.not_false, Bool.and_true]
      · rw [pk_un e2, if_neg (by omega)]
theorem gr_Vs {n u v : Nat} {a : Nat → Int32} (V : gr_V n a) (hu : u < n) (hv : v < n) : bt (a u) v = bt (a v) u := by
  by_cases e : bt (a u) v = true
  · rw [e, (V u v hu e).2.2]
  · by_cases e2 : bt (a v) u = true
    · exact absurd (V v u hv e2).2.2 e
    · rw [Bool.eq_false_iff.2 e, Bool.eq_false_iff.2 e2]
theorem ge_V {n u v : Nat} {a : Nat → Int32} (V : gr_V n a) (hn : n ≤ 8) (hu : u < n) (hv : v < n) (hne : u ≠ v) (on : Bool) : gr_V n (ge a u v on) := by
  intro x i hx h
  rw [ge_b (by omega) (by omega) hne] at h
  by_cases c : (x = u ∧ i = v) ∨ (x = v ∧ i = u)
  · rw [if_pos c] at h
    refine ⟨by omega, by omega, ?_⟩
    rw [ge_b (by omega) (by omega) hne, if_pos (by omega)]
    exact h
  · rw [if_neg c] at h
    have h2 := V x i hx h
    refine ⟨h2.1, h2.2.1, ?_⟩
    rw [ge_b (by omega) (by omega) hne, if_neg (by omega)]
    exact h2.2.2
theorem ge_same {n u v : Nat} {a : Nat → Int32} {on : Bool} (V : gr_V n a) (hn : n ≤ 8) (hu : u < n) (hv : v < n) (hne : u ≠ v) (h : bt (a u) v = on) : ge a u v on = a := by
  apply gx_ext
  intro x i
  rw [ge_b (by omega) (by omega) hne]
  by_cases c : (x = u ∧ i = v) ∨ (x = v ∧ i = u)
  · rw [if_pos c]
    rcases c with ⟨e1, e2⟩ | ⟨e1, e2⟩
    · rw [e1, e2, h]
    · rw [e1, e2, ← gr_Vs V hu hv, h]
  · rw [if_neg c]
theorem ge_ge {n u v : Nat} {a : Nat → Int32} {on on' : Bool} (hn : n ≤ 8) (hu : u < n) (hv : v < n) (hne : u ≠ v) : ge (ge a u v on) u v on' = ge a u v on' := by
  apply gx_ext
  intro x i
  rw [ge_b (by omega) (by omega) hne, ge_b (by omega) (by omega) hne, ge_b (by omega) (by omega) hne]
  by_cases c : (x = u ∧ i = v) ∨ (x = v ∧ i = u)
  · rw [if_pos c, if_pos c]
  · rw [if_neg c, if_neg c, if_neg c]
theorem wx_flip {post : SX → Prop} {n u v : Nat} {a : Nat → Int32} {N S T : Int32} (V : gr_V n a) (hn : n ≤ 8) (hu : u < n) (hv : v < n) (hne : u ≠ v)
    (h : post (N, S, T, ge a u v (!bt (a u) v))) : wpX_flipEdge post (N, S, T, a) (nI u) (nI v) := by
  have e : upd (upd a u (a u ^^^ ((1 : Int32) <<< (nI v &&& 31)))) v (upd a u (a u ^^^ ((1 : Int32) <<< (nI v &&& 31))) v ^^^ ((1 : Int32) <<< (nI u &&& 31))) = ge a u v (!bt (a u) v) := by
    apply gx_ext
    intro x i
    rw [ge_b (by omega) (by omega) hne]
    by_cases e1 : x = v
    · subst e1
      rw [pk_us, b_xor, pk_un (by omega), gb_sh (by omega)]
      by_cases e2 : i = u
      · rw [if_pos (Or.inr ⟨rfl, e2⟩), decide_eq_true e2, Bool.xor_true, e2, gr_Vs V hv hu]
      · rw [if_neg (by omega), decide_eq_false e2, Bool.xor_false]
    · rw [pk_un e1]
      by_cases e2 : x = u
      · subst e2
        rw [pk_us, b_xor, gb_sh (by omega)]
        by_cases e3 : i = v
        · rw [if_pos (Or.inl ⟨rfl, e3⟩), decide_eq_true e3, Bool.xor_true, e3]
        · rw [if_neg (by omega), decide_eq_false e3, Bool.xor_false]
      · rw [pk_un e2, if_neg (by omega)]
  unfold wpX_flipEdge
  dsimp only
  rw [nI_clamp (by omega), nI_clamp (by omega)]
  refine ⟨pk_in u 8 (by omega), pk_in u 8 (by omega), nm_e ⟨pk_in v 8 (by omega), pk_in v 8 (by omega), nm_e ?_⟩⟩
  rw [e]
  exact h
theorem wy_put1 {post : SY → Prop} {u v : Nat} {a w mo : Nat → Int32} {N S T : Int32} (hu : u < 8) (hv : v < 8)
    (h : post (N, S, T, ge a u v true, w, mo)) : wpY_put post (N, S, T, a, w, mo) (nI u) (nI v) 1 := by
  unfold wpY_put wY_put_34
  dsimp only
  rw [nI_clamp (by omega), nI_clamp (by omega)]
  exact br_f (by decide) ⟨pk_in u 8 hu, pk_in u 8 hu, nm_e (br_f (by decide) ⟨pk_in v 8 hv, pk_in v 8 hv, nm_e h⟩)⟩
theorem wy_put0 {post : SY → Prop} {u v : Nat} {a w mo : Nat → Int32} {N S T : Int32} (hu : u < 8) (hv : v < 8)
    (h : post (N, S, T, ge a u v false, w, mo)) : wpY_put post (N, S, T, a, w, mo) (nI u) (nI v) 0 := by
  unfold wpY_put wY_put_34
  dsimp only
  rw [nI_clamp (by omega), nI_clamp (by omega)]
  exact br_t rfl ⟨pk_in u 8 hu, pk_in u 8 hu, nm_e (br_t rfl ⟨pk_in v 8 hv, pk_in v 8 hv, nm_e h⟩)⟩
