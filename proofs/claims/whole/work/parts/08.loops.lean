/-! the loops over pairs, the distance, loss, clear -/
theorem wd_both {n s t : Nat} {a w mo : Nat → Int32} (hn : n ≤ 8) (ht : t < n) : ∀ d e, e + d = n → ∀ R : Int32, ∃ r : Int32,
    (∀ post : Int32 → Prop, post r → wX_distance_9 post (nI n) (nI s) (nI t) a (d + 1) R (nI e)) ∧
    (∀ post : Int32 → Prop, post r → wY_distance_9 post (nI n) (nI s) (nI t) a w mo (d + 1) R (nI e)) := by
  intro d
  induction d with
  | zero =>
    intro e he R
    exact ⟨-4, fun post h => pk_le n e (fun _ => h) (fun h => absurd h (by omega)), fun post h => pk_le n e (fun _ => h) (fun h => absurd h (by omega))⟩
  | succ d ih =>
    intro e he R
    have innerY : ∀ (post : Int32 → Prop) (J : Int32 → Int32 → Prop), (bt (R ||| gn a R n) t = true → post (nI e)) → (bt (R ||| gn a R n) t = false → J (R ||| gn a R n) (nI (e + 1))) →
        ∀ d2 j, j + d2 = n → wY_distance_22 post J R (nI e) (nI n) (nI s) (nI t) a w mo (d2 + 1) (R ||| gn a R j) (nI j) := by
      intro post J h1 h0 d2
      induction d2 with
      | zero =>
        intro j hj
        have ej : j = n := by omega
        subst ej
        exact pk_le j j (fun _ => wy_has (by omega) (fun b => br_f (by decide) (h1 b)) (fun b => br_t rfl (nm_r (nI_1 e) (h0 b)))) (fun h => absurd h (by omega))
      | succ d2 ih2 =>
        intro j hj
        have ih3 := ih2 (j + 1) (by omega)
        refine pk_le n j (fun h => absurd h (by omega)) (fun _ => wy_has (by omega) (fun b => br_f (by decide) ⟨pk_in j 8 (by omega), ?_⟩) (fun b => br_t rfl (nm_r (nI_1 j) ?_)))
        · rw [nI_clamp (by omega)]
          refine nm_r ?_ (nm_r (nI_1 j) ih3)
          show R ||| gn a R j ||| a j = R ||| (if bt R j = true then gn a R j ||| a j else gn a R j)
          rw [if_pos b]
          exact b_ext (fun i _ => by rw [b_or, b_or, b_or, b_or, Bool.or_assoc])
        · have e2 : gn a R (j + 1) = gn a R j := by
            show (if bt R j = true then gn a R j ||| a j else gn a R j) = _
            rw [if_neg (by rw [b]; decide)]
          rw [e2] at ih3
          exact ih3
    have e0 : R ||| gn a R 0 = R := b_ext (fun i _ => by show bt (R ||| 0) i = _; rw [b_or, b_0, Bool.or_false])
    by_cases b : bt (R ||| gn a R n) t = true
    · refine ⟨nI e, fun post h => ?_, fun post h => ?_⟩
      · exact pk_le n e (fun h => absurd h (by omega)) (fun _ => wx_nb hn (nm_e (wx_has (by omega) (fun _ => br_f (by decide) h) (fun b0 => absurd b (by rw [b0]; decide)))))
      · have h2 := innerY post (wY_distance_9 post (nI n) (nI s) (nI t) a w mo (d + 1)) (fun _ => h) (fun b0 => absurd b (by rw [b0]; decide)) n 0 (by omega)
        rw [e0] at h2
        exact pk_le n e (fun h => absurd h (by omega)) (fun _ => ⟨n + 1, h2⟩)
    · have b0 : bt (R ||| gn a R n) t = false := Bool.eq_false_iff.2 b
      obtain ⟨r, hX, hY⟩ := ih (e + 1) (by omega) (R ||| gn a R n)
      refine ⟨r, fun post h => ?_, fun post h => ?_⟩
      · exact pk_le n e (fun h => absurd h (by omega)) (fun _ => wx_nb hn (nm_e (wx_has (by omega) (fun b1 => absurd b1 b) (fun _ => br_t rfl (nm_r (nI_1 e) (hX post h))))))
      · have h2 := innerY post (wY_distance_9 post (nI n) (nI s) (nI t) a w mo (d + 1)) (fun b1 => absurd b1 b) (fun _ => hY post h) n 0 (by omega)
        rw [e0] at h2
        exact pk_le n e (fun h => absurd h (by omega)) (fun _ => ⟨n + 1, h2⟩)
/-! counts over pairs -/
def tr (f : Nat → Bool) : Nat → Nat → Nat
  | _, 0 => 0
  | v, d + 1 => (if f v = true then 1 else 0) + tr f (v + 1) d
def tt (f : Nat → Nat → Bool) (n : Nat) : Nat → Nat → Nat
  | _, 0 => 0
  | u, d + 1 => tr (f u) (u + 1) (n - (u + 1)) + tt f n (u + 1) d
noncomputable def tf (n s t : Nat) (a : Nat → Int32) (e : Bool) (u v : Nat) : Bool := (bt (a u) v == e) && decide (gp n (ge a u v (!e)) s t ≠ gp n a s t)
theorem gp_le {n s t : Nat} {a : Nat → Int32} (V : gr_V n a) (hn : n ≤ 8) (hs : s < n) (ht : t < n) : gp n a s t ≤ 9 := by
  have h := gm_le8 (s := s) (t := t) V hn hs ht
  unfold gp
  split <;> omega
theorem tf_no {n s t : Nat} {a : Nat → Int32} {e : Bool} {u v : Nat} (h : bt (a u) v = !e) : tf n s t a e u v = false := by
  unfold tf
  rw [h]
  cases e <;> rfl
theorem tf_yes {n s t : Nat} {a : Nat → Int32} {e : Bool} {u v : Nat} (h : bt (a u) v = e) : tf n s t a e u v = decide (gp n (ge a u v (!e)) s t ≠ gp n a s t) := by
  unfold tf
  rw [h]
  cases e <;> rfl
theorem tf_y1 {n s t : Nat} {a : Nat → Int32} {e : Bool} {u v : Nat} (h : bt (a u) v = e) (h2 : gp n (ge a u v (!e)) s t ≠ gp n a s t) : tf n s t a e u v = true := by
  rw [tf_yes h]
  exact decide_eq_true h2
theorem tf_y0 {n s t : Nat} {a : Nat → Int32} {e : Bool} {u v : Nat} (h : bt (a u) v = e) (h2 : gp n (ge a u v (!e)) s t = gp n a s t) : tf n s t a e u v = false := by
  rw [tf_yes h]
  exact decide_eq_false (fun z => z h2)
theorem ge_off {n s t u v : Nat} {a : Nat → Int32} (V : gr_V n a) (hn : n ≤ 8) (hs : s < n) (ht : t < n) (hu : u < n) (hv : v < n) (hne : u ≠ v) : gp n (ge a u v false) s t ≤ gp n a s t := by
  refine gp_mono (ge_V V hn hu hv hne false) V hn hs ht (fun x i _ h => ?_)
  rw [ge_b (by omega) (by omega) hne] at h
  by_cases c : (x = u ∧ i = v) ∨ (x = v ∧ i = u)
  · rw [if_pos c] at h; cases h
  · rw [if_neg c] at h; exact h
theorem ge_on {n s t u v : Nat} {a : Nat → Int32} (V : gr_V n a) (hn : n ≤ 8) (hs : s < n) (ht : t < n) (hu : u < n) (hv : v < n) (hne : u ≠ v) : gp n a s t ≤ gp n (ge a u v true) s t := by
  refine gp_mono V (ge_V V hn hu hv hne true) hn hs ht (fun x i _ h => ?_)
  rw [ge_b (by omega) (by omega) hne]
  by_cases c : (x = u ∧ i = v) ∨ (x = v ∧ i = u)
  · rw [if_pos c]
  · rw [if_neg c]; exact h
theorem wx_paf {post : Int32 → SX → Prop} {n s t u v : Nat} {a : Nat → Int32} (V : gr_V n a) (hn : n ≤ 8) (hs : s < n) (ht : t < n) (hst : s ≠ t) (hu : u < n) (hv : v < n) (hne : u ≠ v)
    (h : post (nI (gp n (ge a u v (!bt (a u) v)) s t)) (nI n, nI s, nI t, a)) : wpX_pathsAfterFlip post (nI n, nI s, nI t, a) (nI u) (nI v) := by
  unfold wpX_pathsAfterFlip
  dsimp only
  have V2 := ge_V V hn hu hv hne (!bt (a u) v)
  refine wx_flip V hn hu hv hne (wx_most V2 hn hs ht hst (wx_flip V2 hn hu hv hne ?_))
  rw [ge_ge hn hu hv hne, ge_b (by omega) (by omega) hne, if_pos (Or.inl ⟨rfl, rfl⟩), Bool.not_not, ge_same V hn hu hv hne rfl]
  exact h
section
variable {post : Int32 → SX → Prop} {n s t : Nat} {a : Nat → Int32}
theorem wx_tightI (V : gr_V n a) (hn : n ≤ 8) (hs : s < n) (ht : t < n) (hst : s ≠ t) {u : Nat} (hu : u < n) {J : Int32 → Int32 → Int32 → Int32 → Int32 → (Nat → Int32) → Prop} :
    ∀ d v, v + d = n → u < v → ∀ c, J (nI (c + tr (tf n s t a true u) v d)) (nI (u + 1)) (nI n) (nI s) (nI t) a →
    wX_tightEdges_30 post J (nI (gp n a s t)) (nI u) (d + 1) (nI c) (nI v) (nI n) (nI s) (nI t) a := by
  intro d
  induction d with
  | zero =>
    intro v hv huv c h
    exact pk_le n v (fun _ => nm_r (nI_1 u) h) (fun h => absurd h (by omega))
  | succ d ih =>
    intro v hv huv c h
    have hvn : v < n := by omega
    have hne : u ≠ v := by omega
    have h9 := gp_le (s := s) (t := t) V hn hs ht
    have h10 := gp_le (s := s) (t := t) (ge_V V hn hu hvn hne false) hn hs ht
    have hoff := ge_off (s := s) (t := t) V hn hs ht hu hvn hne
    have go : ∀ c2, c2 = c + (if tf n s t a true u v = true then 1 else 0) → wX_tightEdges_30 post J (nI (gp n a s t)) (nI u) (d + 1) (nI c2) (nI (v + 1)) (nI n) (nI s) (nI t) a := fun c2 e => by
      refine ih (v + 1) (by omega) (by omega) c2 ?_
      rw [e, Nat.add_assoc]
      exact h
    refine pk_le n v (fun h => absurd h (by omega)) (fun _ => wx_edge (by omega) (by omega) (fun b => br_f (by decide) (wx_paf V hn hs ht hst hu hvn hne ?_)) (fun b => br_t rfl (nm_r (nI_1 v) (go c ?_))))
    · rw [b]
      refine pk_le (gp n a s t) (gp n (ge a u v false) s t) (fun hle => nm_r (nI_1 v) (go c ?_)) (fun hlt => nm_r (nI_1 c) (nm_r (nI_1 v) (go (c + 1) ?_)))
      · rw [tf_y0 b (Nat.le_antisymm hoff hle), if_neg (by decide)]
        exact (Nat.add_zero c).symm
      · have hz : gp n (ge a u v false) s t ≠ gp n a s t := by omega
        rw [tf_y1 b hz, if_pos rfl]
    · rw [tf_no b, if_neg (by decide)]; exact (Nat.add_zero c).symm
theorem wx_tightO (V : gr_V n a) (hn : n ≤ 8) (hs : s < n) (ht : t < n) (hst : s ≠ t) :
    ∀ d u, u + d = n → ∀ c, post (nI (c + tt (tf n s t a true) n u d)) (nI n, nI s, nI t, a) →
    wX_tightEdges_17 post (nI (gp n a s t)) (d + 1) (nI c) (nI u) (nI n) (nI s) (nI t) a := by
  intro d
  induction d with
  | zero =>
    intro u hu c h
    exact pk_le n u (fun _ => h) (fun h => absurd h (by omega))
  | succ d ih =>
    intro u hu c h
    refine pk_le n u (fun h => absurd h (by omega)) (fun _ => nm_r (nI_1 u) ⟨(n - (u + 1)) + 1, wx_tightI V hn hs ht hst (by omega) (n - (u + 1)) (u + 1) (by omega) (by omega) c (ih (u + 1) (by omega) _ ?_)⟩)
    rw [Nat.add_assoc]
    exact h
theorem wx_helpI (V : gr_V n a) (hn : n ≤ 8) (hs : s < n) (ht : t < n) (hst : s ≠ t) {u : Nat} (hu : u < n) {J : Int32 → Int32 → Int32 → Int32 → Int32 → (Nat → Int32) → Prop} :
    ∀ d v, v + d = n → u < v → ∀ c, J (nI (c + tr (tf n s t a false u) v d)) (nI (u + 1)) (nI n) (nI s) (nI t) a →
    wX_helpfulEdges_30 post J (nI (gp n a s t)) (nI u) (d + 1) (nI c) (nI v) (nI n) (nI s) (nI t) a := by
  intro d
  induction d with
  | zero =>
    intro v hv huv c h
    exact pk_le n v (fun _ => nm_r (nI_1 u) h) (fun h => absurd h (by omega))
  | succ d ih =>
    intro v hv huv c h
    have hvn : v < n := by omega
    have hne : u ≠ v := by omega
    have h9 := gp_le (s := s) (t := t) V hn hs ht
    have h10 := gp_le (s := s) (t := t) (ge_V V hn hu hvn hne true) hn hs ht
    have hon := ge_on (s := s) (t := t) V hn hs ht hu hvn hne
    have go : ∀ c2, c2 = c + (if tf n s t a false u v = true then 1 else 0) → wX_helpfulEdges_30 post J (nI (gp n a s t)) (nI u) (d + 1) (nI c2) (nI (v + 1)) (nI n) (nI s) (nI t) a := fun c2 e => by
      refine ih (v + 1) (by omega) (by omega) c2 ?_
      rw [e, Nat.add_assoc]
      exact h
    refine pk_le n v (fun h => absurd h (by omega)) (fun _ => wx_edge (by omega) (by omega) (fun b => br_f (by decide) (nm_r (nI_1 v) (go c ?_))) (fun b => br_t rfl (wx_paf V hn hs ht hst hu hvn hne ?_)))
    · rw [tf_no b, if_neg (by decide)]; exact (Nat.add_zero c).symm
    · rw [b]
      refine pk_le (gp n (ge a u v true) s t) (gp n a s t) (fun hle => nm_r (nI_1 v) (go c ?_)) (fun hlt => nm_r (nI_1 c) (nm_r (nI_1 v) (go (c + 1) ?_)))
      · rw [tf_y0 b (Nat.le_antisymm hle hon), if_neg (by decide)]
        exact (Nat.add_zero c).symm
      · have hz : gp n (ge a u v true) s t ≠ gp n a s t := by omega
        rw [tf_y1 b hz, if_pos rfl]
theorem wx_helpO (V : gr_V n a) (hn : n ≤ 8) (hs : s < n) (ht : t < n) (hst : s ≠ t) :
    ∀ d u, u + d = n → ∀ c, post (nI (c + tt (tf n s t a false) n u d)) (nI n, nI s, nI t, a) →
    wX_helpfulEdges_17 post (nI (gp n a s t)) (d + 1) (nI c) (nI u) (nI n) (nI s) (nI t) a := by
  intro d
  induction d with
  | zero =>
    intro u hu c h
    exact pk_le n u (fun _ => h) (fun h => absurd h (by omega))
  | succ d ih =>
    intro u hu c h
    refine pk_le n u (fun h => absurd h (by omega)) (fun _ => nm_r (nI_1 u) ⟨(n - (u + 1)) + 1, wx_helpI V hn hs ht hst (by omega) (n - (u + 1)) (u + 1) (by omega) (by omega) c (ih (u + 1) (by omega) _ ?_)⟩)
    rw [Nat.add_assoc]
    exact h
end
section
variable {post : Int32 → SY → Prop} {n s t : Nat} {a : Nat → Int32}
theorem wy_tell (V : gr_V n a) (hn : n ≤ 8) (hs : s < n) (ht : t < n) {u v : Nat} (hu : u < n) (hv : v < n) (hne : u ≠ v) {c : Nat} {e : Bool} {z0 z1 : Int32} (b : bt (a u) v = e)
    (hz : z0 = if e = true then 1 else 0) (hz1 : z1 = if e = true then 0 else 1)
    {J10 J25 : Int32 → Int32 → Int32 → Int32 → Int32 → (Nat → Int32) → (Nat → Int32) → (Nat → Int32) → Prop} {w mo : Nat → Int32}
    (h : ∀ w mo, J25 (nI (c + (if tf n s t a e u v = true then 1 else 0))) (nI (v + 1)) (nI n) (nI s) (nI t) a w mo) :
    wY_telling_65 post J10 J25 z0 (nI (gp n a s t)) (nI c) (nI u) (nI v) z1 (nI v) (nI u) (nI n) (nI s) (nI t) a w mo := by
  have V2 := ge_V V hn hu hv hne (!e)
  have h9 := gp_le (s := s) (t := t) V hn hs ht
  have h10 := gp_le (s := s) (t := t) V2 hn hs ht
  have back : ∀ w mo c2, c2 = c + (if tf n s t a e u v = true then 1 else 0) → wY_telling_83 post J10 J25 z0 (nI (gp n a s t)) (nI u) (nI v) (nI c2) (nI n) (nI s) (nI t) (ge a u v (!e)) w mo := by
    intro w mo c2 hc2
    have h2 := h w mo
    rw [← hc2, ← ge_same V hn hu hv hne b, ← ge_ge (on := !e) hn hu hv hne] at h2
    unfold wY_telling_83
    cases e with
    | true =>
      rw [hz]
      exact wy_put1 (by omega) (by omega) (nm_r (nI_1 v) h2)
    | false =>
      rw [hz]
      exact wy_put0 (by omega) (by omega) (nm_r (nI_1 v) h2)
  have mid : ∀ w mo, wpY_paths (fun r_30 u2 => match u2 with | (f_n_31, f_s_32, f_t_33, a_near_34, a_whole_35, a_most_36) => (((r_30 = nI (gp n a s t) → (wY_telling_83 post J10 J25 z0 (nI (gp n a s t)) (nI u) (nI v) (nI c) f_n_31 f_s_32 f_t_33 a_near_34 a_whole_35 a_most_36)) ∧ (¬ r_30 = nI (gp n a s t) → (wY_telling_83 post J10 J25 z0 (nI (gp n a s t)) (nI u) (nI v) (nI c + 1) f_n_31 f_s_32 f_t_33 a_near_34 a_whole_35 a_most_36))))) (nI n, nI s, nI t, ge a u v (!e), w, mo) := by
    intro w mo
    refine wy_paths V2 hn hs ht (fun w' mo' => ?_)
    refine pk_eq (gp n (ge a u v (!e)) s t) (gp n a s t) (fun eq => back w' mo' c ?_) (fun ne => ?_)
    · rw [tf_y0 b eq, if_neg (by decide)]; exact (Nat.add_zero c).symm
    · rw [nI_1]
      exact back w' mo' (c + 1) (by rw [tf_y1 b ne, if_pos rfl])
  unfold wY_telling_65
  cases e with
  | true =>
    rw [hz1]
    exact wy_put0 (by omega) (by omega) (mid w mo)
  | false =>
    rw [hz1]
    exact wy_put1 (by omega) (by omega) (mid w mo)
theorem wy_tellI (V : gr_V n a) (hn : n ≤ 8) (hs : s < n) (ht : t < n) (e : Bool) {z0 : Int32} (hz : z0 = if e = true then 1 else 0) {u : Nat} (hu : u < n)
    {J : Int32 → Int32 → Int32 → Int32 → Int32 → (Nat → Int32) → (Nat → Int32) → (Nat → Int32) → Prop} :
    ∀ d v, v + d = n → u < v → ∀ c w mo, (∀ w mo, J (nI (c + tr (tf n s t a e u) v d)) (nI (u + 1)) (nI n) (nI s) (nI t) a w mo) →
    wY_telling_25 post J z0 (nI (gp n a s t)) (nI u) (d + 1) (nI c) (nI v) (nI n) (nI s) (nI t) a w mo := by
  intro d
  induction d with
  | zero =>
    intro v hv huv c w mo h
    exact pk_le n v (fun _ => nm_r (nI_1 u) (h w mo)) (fun h => absurd h (by omega))
  | succ d ih =>
    intro v hv huv c w mo h
    have hvn : v < n := by omega
    have hne : u ≠ v := by omega
    have go : ∀ c2, c2 = c + (if tf n s t a e u v = true then 1 else 0) → ∀ w mo, wY_telling_25 post J z0 (nI (gp n a s t)) (nI u) (d + 1) (nI c2) (nI (v + 1)) (nI n) (nI s) (nI t) a w mo := fun c2 e w mo => by
      refine ih (v + 1) (by omega) (by omega) c2 w mo (fun w mo => ?_)
      rw [e, Nat.add_assoc]
      exact h w mo
    refine pk_le n v (fun h => absurd h (by omega)) (fun _ => ⟨pk_in u 8 (by omega), ?_⟩)
    rw [nI_clamp (by omega)]
    cases e with
    | true =>
      subst hz
      refine wy_has (by omega) (fun b => br_t rfl (br_f (by decide) (wy_tell V hn hs ht hu hvn hne b rfl rfl (go _ rfl)))) (fun b => br_f (by decide) (nm_r (nI_1 v) (go c ?_ w mo)))
      rw [tf_no b, if_neg (by decide)]; exact (Nat.add_zero c).symm
    | false =>
      subst hz
      refine wy_has (by omega) (fun b => br_f (by decide) (nm_r (nI_1 v) (go c ?_ w mo))) (fun b => br_t rfl (br_t rfl (wy_tell V hn hs ht hu hvn hne b rfl rfl (go _ rfl))))
      rw [tf_no b, if_neg (by decide)]; exact (Nat.add_zero c).symm
theorem wy_tellO (V : gr_V n a) (hn : n ≤ 8) (hs : s < n) (ht : t < n) (e : Bool) {z0 : Int32} (hz : z0 = if e = true then 1 else 0) :
    ∀ d u, u + d = n → ∀ c w mo, (∀ w mo, post (nI (c + tt (tf n s t a e) n u d)) (nI n, nI s, nI t, a, w, mo)) →
    wY_telling_10 post z0 (nI (gp n a s t)) (d + 1) (nI c) (nI u) (nI n) (nI s) (nI t) a w mo := by
  intro d
  induction d with
  | zero =>
    intro u hu c w mo h
    exact pk_le n u (fun _ => h w mo) (fun h => absurd h (by omega))
  | succ d ih =>
    intro u hu c w mo h
    refine pk_le n u (fun h => absurd h (by omega)) (fun _ => nm_r (nI_1 u) ⟨(n - (u + 1)) + 1, wy_tellI V hn hs ht e hz (by omega) (n - (u + 1)) (u + 1) (by omega) (by omega) c w mo (fun w mo => ih (u + 1) (by omega) _ w mo (fun w mo => ?_))⟩)
    rw [Nat.add_assoc]
    exact h w mo
theorem wy_telling (V : gr_V n a) (hn : n ≤ 8) (hs : s < n) (ht : t < n) (e : Bool) {z0 : Int32} (hz : z0 = if e = true then 1 else 0) {w mo : Nat → Int32}
    (h : ∀ w mo, post (nI (tt (tf n s t a e) n 0 n)) (nI n, nI s, nI t, a, w, mo)) : wpY_telling post (nI n, nI s, nI t, a, w, mo) z0 := by
  unfold wpY_telling
  dsimp only
  refine wy_paths V hn hs ht (fun w' mo' => ⟨n + 1, wy_tellO V hn hs ht e hz n 0 (by omega) 0 w' mo' (fun w mo => ?_)⟩)
  rw [Nat.zero_add]
  exact h w mo
end
