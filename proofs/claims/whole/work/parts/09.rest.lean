/-! strength -/
noncomputable def sv (n : Nat) (a : Nat → Int32) (u : Nat) : Nat → Nat → Nat → Nat
  | 0, _, c => c
  | d + 1, v, c => sv n a u d (v + 1) (if bt (a u) v = true then c else if c ≤ gp n a u v then c else gp n a u v)
noncomputable def so (n : Nat) (a : Nat → Int32) : Nat → Nat → Nat → Nat
  | 0, _, c => c
  | d + 1, u, c => so n a d (u + 1) (sv n a u (n - (u + 1)) (u + 1) c)
theorem sv_le (n : Nat) (a : Nat → Int32) (u : Nat) : ∀ d v c, c ≤ 9 → sv n a u d v c ≤ 9 := by
  intro d
  induction d with
  | zero => intro v c h; exact h
  | succ d ih =>
    intro v c h
    refine ih (v + 1) _ ?_
    split
    · exact h
    · split <;> omega
section
variable {n : Nat} {a : Nat → Int32}
theorem wx_strI {post : Int32 → Prop} {S T : Int32} (V : gr_V n a) (hn : n ≤ 8) {u : Nat} (hu : u < n) {J : Int32 → Int32 → Prop} :
    ∀ d v, v + d = n → u < v → ∀ c, c ≤ 9 → J (nI (sv n a u d v c)) (nI (u + 1)) → wX_strength_21 post J (nI u) (nI n) S T a (d + 1) (nI c) (nI v) := by
  intro d
  induction d with
  | zero =>
    intro v hv huv c hc h
    exact pk_le n v (fun _ => nm_r (nI_1 u) h) (fun h => absurd h (by omega))
  | succ d ih =>
    intro v hv huv c hc h
    have hvn : v < n := by omega
    have hne : u ≠ v := by omega
    have h9 := gp_le (s := u) (t := v) V hn hu hvn
    have go : ∀ c2, c2 ≤ 9 → c2 = (if bt (a u) v = true then c else if c ≤ gp n a u v then c else gp n a u v) → wX_strength_21 post J (nI u) (nI n) S T a (d + 1) (nI c2) (nI (v + 1)) := fun c2 h2 e => by
      refine ih (v + 1) (by omega) (by omega) c2 h2 ?_
      rw [e]
      exact h
    refine pk_le n v (fun h => absurd h (by omega)) (fun _ => wx_edge (by omega) (by omega) (fun b => br_f (by decide) (nm_r (nI_1 v) (go c hc (by rw [if_pos b])))) (fun b => br_t rfl (wx_most V hn hu hvn hne ?_)))
    have b2 : ¬ bt (a u) v = true := by rw [b]; decide
    exact pk_le c (gp n a u v) (fun hle => nm_r (nI_1 v) (go c hc (by rw [if_neg b2, if_pos hle]))) (fun hlt => nm_r (nI_1 v) (go _ h9 (by rw [if_neg b2, if_neg (by omega)])))
theorem wx_strO {post : Int32 → Prop} {S T : Int32} (V : gr_V n a) (hn : n ≤ 8) :
    ∀ d u, u + d = n → ∀ c, c ≤ 9 → post (nI (so n a d u c)) → wX_strength_9 post (nI n) S T a (d + 1) (nI c) (nI u) := by
  intro d
  induction d with
  | zero =>
    intro u hu c hc h
    exact pk_le n u (fun _ => h) (fun h => absurd h (by omega))
  | succ d ih =>
    intro u hu c hc h
    exact pk_le n u (fun h => absurd h (by omega)) (fun _ => nm_r (nI_1 u) ⟨(n - (u + 1)) + 1, wx_strI V hn (by omega) (n - (u + 1)) (u + 1) (by omega) (by omega) c hc (ih (u + 1) (by omega) _ (sv_le n a u _ _ c hc) h)⟩)
theorem wy_strI {post : Int32 → SY → Prop} {P Q : Int32} (V : gr_V n a) (hn : n ≤ 8) {u : Nat} (hu : u < n)
    {J : Int32 → Int32 → Int32 → Int32 → Int32 → (Nat → Int32) → (Nat → Int32) → (Nat → Int32) → Prop} :
    ∀ d v, v + d = n → u < v → ∀ c S T w mo, c ≤ 9 → (∀ S T w mo, J (nI (sv n a u d v c)) (nI (u + 1)) (nI n) S T a w mo) → wY_strength_35 post J P Q (nI u) (d + 1) (nI c) (nI v) (nI n) S T a w mo := by
  intro d
  induction d with
  | zero =>
    intro v hv huv c S T w mo hc h
    exact pk_le n v (fun _ => nm_r (nI_1 u) (h S T w mo)) (fun h => absurd h (by omega))
  | succ d ih =>
    intro v hv huv c S T w mo hc h
    have hvn : v < n := by omega
    have hne : u ≠ v := by omega
    have h9 := gp_le (s := u) (t := v) V hn hu hvn
    have go : ∀ c2, c2 ≤ 9 → c2 = (if bt (a u) v = true then c else if c ≤ gp n a u v then c else gp n a u v) → ∀ S T w mo, wY_strength_35 post J P Q (nI u) (d + 1) (nI c2) (nI (v + 1)) (nI n) S T a w mo := fun c2 h2 e S T w mo => by
      refine ih (v + 1) (by omega) (by omega) c2 S T w mo h2 (fun S T w mo => ?_)
      rw [e]
      exact h S T w mo
    refine pk_le n v (fun h => absurd h (by omega)) (fun _ => ⟨pk_in u 8 (by omega), ?_⟩)
    rw [nI_clamp (by omega)]
    refine wy_has (by omega) (fun b => br_f (by decide) (nm_r (nI_1 v) (go c hc (by rw [if_pos b]) S T w mo))) (fun b => br_t rfl (wy_paths V hn hu hvn (fun w' mo' => ?_)))
    have b2 : ¬ bt (a u) v = true := by rw [b]; decide
    exact pk_le c (gp n a u v) (fun hle => nm_r (nI_1 v) (go c hc (by rw [if_neg b2, if_pos hle]) _ _ _ _)) (fun hlt => nm_r (nI_1 v) (go _ h9 (by rw [if_neg b2, if_neg (by omega)]) _ _ _ _))
theorem wy_strO {post : Int32 → SY → Prop} {P Q : Int32} (V : gr_V n a) (hn : n ≤ 8) :
    ∀ d u, u + d = n → ∀ c S T w mo, c ≤ 9 → (∀ w mo, post (nI (so n a d u c)) (nI n, P, Q, a, w, mo)) → wY_strength_20 post P Q (d + 1) (nI c) (nI u) (nI n) S T a w mo := by
  intro d
  induction d with
  | zero =>
    intro u hu c S T w mo hc h
    exact pk_le n u (fun _ => h w mo) (fun h => absurd h (by omega))
  | succ d ih =>
    intro u hu c S T w mo hc h
    exact pk_le n u (fun h => absurd h (by omega)) (fun _ => nm_r (nI_1 u) ⟨(n - (u + 1)) + 1, wy_strI V hn (by omega) (n - (u + 1)) (u + 1) (by omega) (by omega) c S T w mo hc (fun S T w mo => ih (u + 1) (by omega) _ S T w mo (sv_le n a u _ _ c hc) h)⟩)
end
/-! loss: all edges at v taken away, and put back -/
def lo_cut (a : Nat → Int32) (v lo hi x i : Nat) : Bool := if (x = v ∧ lo ≤ i ∧ i < hi ∧ i ≠ v) ∨ (i = v ∧ lo ≤ x ∧ x < hi ∧ x ≠ v) then false else bt (a x) i
section
variable {post : Int32 → SY → Prop} {n s t v : Nat} {a : Nat → Int32}
theorem lo_V {a' : Nat → Int32} (V : gr_V n a) (hv : v < n) (h : ∀ x i, bt (a' x) i = lo_cut a v 0 n x i) :
    (∀ u w, u < n → w < n → (bt (a' u) w = true ↔ bt (a u) w = true ∧ u ≠ v ∧ w ≠ v)) ∧ gr_V n a' := by
  have h1 : ∀ u w, u < n → w < n → (bt (a' u) w = true ↔ bt (a u) w = true ∧ u ≠ v ∧ w ≠ v) := by
    intro u w hu hw
    rw [h u w]
    unfold lo_cut
    by_cases c : (u = v ∧ 0 ≤ w ∧ w < n ∧ w ≠ v) ∨ (w = v ∧ 0 ≤ u ∧ u < n ∧ u ≠ v)
    · rw [if_pos c]
      exact ⟨fun h => (by cases h), fun h => absurd c (by omega)⟩
    · rw [if_neg c]
      refine ⟨fun hb => ⟨hb, ?_⟩, fun hb => hb.1⟩
      have h2 := (V u w hu hb).2.1
      omega
  refine ⟨h1, fun u w hu hb => ?_⟩
  have hb2 : bt (a u) w = true := by
    rw [h u w] at hb
    unfold lo_cut at hb
    by_cases c : (u = v ∧ 0 ≤ w ∧ w < n ∧ w ≠ v) ∨ (w = v ∧ 0 ≤ u ∧ u < n ∧ u ≠ v)
    · rw [if_pos c] at hb; cases hb
    · rw [if_neg c] at hb; exact hb
  have h2 := V u w hu hb2
  have h3 := (h1 u w hu h2.1).1 hb
  exact ⟨h2.1, h2.2.1, (h1 w u h2.1 hu).2 ⟨h2.2.2, h3.2.2, h3.2.1⟩⟩
theorem wy_back (V : gr_V n a) (hn : n ≤ 8) (hv : v < n) {x2 x4 : Int32} (h : ∀ w mo, post (x2 - x4) (nI n, nI s, nI t, a, w, mo)) :
    ∀ d j, j + d = n → ∀ a' w mo, (∀ x i, bt (a' x) i = lo_cut a v j n x i) → wY_loss_81 post (nI v) x2 (a v) x4 (d + 1) (nI j) (nI n) (nI s) (nI t) a' w mo := by
  intro d
  induction d with
  | zero =>
    intro j hj a' w mo h'
    have e : a' = a := gx_ext (fun x i => by
      rw [h' x i]
      unfold lo_cut
      rw [if_neg (by omega)])
    rw [e]
    exact pk_le n j (fun _ => h w mo) (fun h => absurd h (by omega))
  | succ d ih =>
    intro j hj a' w mo h'
    refine pk_le n j (fun h => absurd h (by omega)) (fun _ => pk_eq j v (fun e => nm_r (nI_1 j) (ih (j + 1) (by omega) a' w mo (fun x i => ?_))) (fun hne => ?_))
    · rw [h' x i]
      unfold lo_cut
      by_cases c : (x = v ∧ j ≤ i ∧ i < n ∧ i ≠ v) ∨ (i = v ∧ j ≤ x ∧ x < n ∧ x ≠ v)
      · rw [if_pos c, if_pos (by omega)]
      · rw [if_neg c, if_neg (by omega)]
    · have go : ∀ on, bt (a v) j = on → ∀ x i, bt (ge a' j v on x) i = lo_cut a v (j + 1) n x i := by
        intro on hon x i
        rw [ge_b (by omega) (by omega) hne, h' x i]
        unfold lo_cut
        by_cases c : (x = j ∧ i = v) ∨ (x = v ∧ i = j)
        · rw [if_pos c, if_neg (by omega)]
          rcases c with ⟨e1, e2⟩ | ⟨e1, e2⟩
          · rw [e1, e2, gr_Vs V (by omega) hv, hon]
          · rw [e1, e2, hon]
        · rw [if_neg c]
          by_cases c2 : (x = v ∧ j ≤ i ∧ i < n ∧ i ≠ v) ∨ (i = v ∧ j ≤ x ∧ x < n ∧ x ≠ v)
          · rw [if_pos c2, if_pos (by omega)]
          · rw [if_neg c2, if_neg (by omega)]
      exact wy_has (by omega) (fun b => wy_put1 (by omega) (by omega) (nm_r (nI_1 j) (ih (j + 1) (by omega) _ w mo (go true b)))) (fun b => wy_put0 (by omega) (by omega) (nm_r (nI_1 j) (ih (j + 1) (by omega) _ w mo (go false b))))
theorem wy_away (V : gr_V n a) (hn : n ≤ 8) (hs : s < n) (ht : t < n) (hv : v < n) {x2 : Int32}
    (h : ∀ a', (∀ x i, bt (a' x) i = lo_cut a v 0 n x i) → gr_V n a' → ∀ w mo, post (x2 - nI (gp n a' s t)) (nI n, nI s, nI t, a, w, mo)) :
    ∀ d j, j + d = n → ∀ a' w mo, (∀ x i, bt (a' x) i = lo_cut a v 0 j x i) → wY_loss_43 post (nI v) x2 (a v) (d + 1) (nI j) (nI n) (nI s) (nI t) a' w mo := by
  intro d
  induction d with
  | zero =>
    intro j hj a' w mo h'
    have e : j = n := by omega
    subst e
    have V' := (lo_V V hv h').2
    exact pk_le j j (fun _ => wy_paths V' hn hs ht (fun w' mo' => ⟨j + 1, wy_back V hn hv (fun w mo => h a' h' V' w mo) j 0 (by omega) a' w' mo' h'⟩)) (fun h => absurd h (by omega))
  | succ d ih =>
    intro j hj a' w mo h'
    refine pk_le n j (fun h => absurd h (by omega)) (fun _ => pk_eq j v (fun e => nm_r (nI_1 j) (ih (j + 1) (by omega) a' w mo (fun x i => ?_))) (fun hne => wy_put0 (by omega) (by omega) (nm_r (nI_1 j) (ih (j + 1) (by omega) _ w mo (fun x i => ?_)))))
    · rw [h' x i]
      unfold lo_cut
      by_cases c : (x = v ∧ 0 ≤ i ∧ i < j ∧ i ≠ v) ∨ (i = v ∧ 0 ≤ x ∧ x < j ∧ x ≠ v)
      · rw [if_pos c, if_pos (by omega)]
      · rw [if_neg c, if_neg (by omega)]
    · rw [ge_b (by omega) (by omega) hne, h' x i]
      unfold lo_cut
      by_cases c : (x = j ∧ i = v) ∨ (x = v ∧ i = j)
      · rw [if_pos c, if_pos (by omega)]
      · rw [if_neg c]
        by_cases c2 : (x = v ∧ 0 ≤ i ∧ i < j ∧ i ≠ v) ∨ (i = v ∧ 0 ≤ x ∧ x < j ∧ x ≠ v)
        · rw [if_pos c2, if_pos (by omega)]
        · rw [if_neg c2, if_neg (by omega)]
end
/-! clear -/
theorem wc_both {n s t : Nat} (hn : n ≤ 8) : ∀ d v, v + d = n → ∀ (c : Int32) (a : Nat → Int32), (∀ x, x < v → a x = 0) → ∃ (r : Int32) (a' : Nat → Int32), (∀ x, x < n → a' x = 0) ∧
    (∀ post : Int32 → SX → Prop, post r (nI n, nI s, nI t, a') → wX_clear_4 post (nI n) (nI s) (nI t) (d + 1) c (nI v) a) ∧
    (∀ (post : Int32 → SY → Prop) (w mo : Nat → Int32), post r (nI n, nI s, nI t, a', w, mo) → wY_clear_4 post (nI n) (nI s) (nI t) (d + 1) c (nI v) a w mo) := by
  intro d
  induction d with
  | zero =>
    intro v hv c a ha
    have e : v = n := by omega
    subst e
    exact ⟨c / 2, a, ha, fun post h => pk_le v v (fun _ => ⟨by decide, h⟩) (fun h => absurd h (by omega)), fun post w mo h => pk_le v v (fun _ => ⟨by decide, h⟩) (fun h => absurd h (by omega))⟩
  | succ d ih =>
    intro v hv c a ha
    obtain ⟨r, a', h0, hX, hY⟩ := ih (v + 1) (by omega) (c + nI (gz (bt (a v)) 8)) (upd a v 0) (fun x hx => by
      by_cases e : x = v
      · rw [e, pk_us]
      · rw [pk_un e]; exact ha x (by omega))
    refine ⟨r, a', h0, fun post h => ?_, fun post w mo h => ?_⟩
    · refine pk_le n v (fun h => absurd h (by omega)) (fun _ => ⟨pk_in v 8 (by omega), ?_⟩)
      rw [nI_clamp (by omega)]
      exact wx_size (nm_e ⟨pk_in v 8 (by omega), nm_e (nm_r (nI_1 v) (hX post h))⟩)
    · refine pk_le n v (fun h => absurd h (by omega)) (fun _ => ⟨pk_in v 8 (by omega), ?_⟩)
      rw [nI_clamp (by omega)]
      exact wy_size (nm_e ⟨pk_in v 8 (by omega), nm_e (nm_r (nI_1 v) (hY post w mo h))⟩)
