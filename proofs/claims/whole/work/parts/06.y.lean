/-! the reference's walks: has, sizeOf, leads, parts, paths, leastCut -/
section
variable {post : Int32 → Prop} {n s t : Nat} {a w mo : Nat → Int32}
theorem wy_has {x : Int32} {v : Nat} {N S T : Int32} (hv : v < 32) (h1 : bt x v = true → post 1) (h0 : bt x v = false → post 0) : wpY_has post (N, S, T, a, w, mo) x (nI v) := by
  unfold wpY_has
  dsimp only
  by_cases e : bt x v = true
  · rw [gb_get1 hv x e]
    exact br_t rfl (h1 e)
  · have e0 : bt x v = false := Bool.eq_false_iff.2 e
    rw [gb_get0 hv x e0]
    exact br_f (by decide) (h0 e0)
theorem wy_size {x N S T : Int32} (h : post (nI (gz (bt x) 8))) : wpY_sizeOf post (N, S, T, a, w, mo) x := by
  have key : ∀ d j, j + d = 8 → wY_sizeOf_4 post x N S T a w mo (d + 1) (nI (gz (bt x) j)) (nI j) := by
    intro d
    induction d with
    | zero =>
      intro j hj
      have e : j = 8 := by omega
      subst e
      exact pk_le 8 8 (fun _ => h) (fun h => absurd h (by omega))
    | succ d ih =>
      intro j hj
      refine pk_le 8 j (fun h => absurd h (by omega)) (fun _ => nm_r (e' := nI (gz (bt x) (j + 1))) ?_ (nm_r (nI_1 j) (ih (j + 1) (by omega))))
      rw [gb_get (by omega), nI_add]
      rfl
  exact ⟨9, key 8 0 rfl⟩
theorem wy_leads (V : gr_V n a) (hn : n ≤ 8) (hs : s < n) (ht : t < n) {X : Int32}
    (h1 : gr_L n a s t (fun v => bt X v = true) → post 1) (h0 : ¬ gr_L n a s t (fun v => bt X v = true) → post 0) : wpY_leads post (nI n, nI s, nI t, a, w, mo) X := by
  have inner : ∀ (i : Nat) (J : Int32 → Int32 → Prop) (R : Int32), gc_I n a s (fun v => bt X v = true) i R → (∀ R', gc_I n a s (fun v => bt X v = true) (i + 1) R' → J R' (nI (i + 1))) →
      ∀ d j, j + d = n → ∀ R', (∀ v, bt R v = true → bt R' v = true) → (∀ u z, u < j → bt R u = true → bt (a u) z = true → bt X z = true → bt R' z = true) → (∀ v, bt R' v = true → gr_R n a s (fun v => bt X v = true) v) →
      wY_leads_23 post J X (nI i) (nI n) (nI s) (nI t) a w mo (d + 1) R' (nI j) := by
    intro i J R hR hJ d
    induction d with
    | zero =>
      intro j hj R' h3 h4 h5
      have e : j = n := by omega
      subst e
      exact pk_le j j (fun _ => nm_r (nI_1 i) (hJ R' (gc_S V hR h3 h4 h5))) (fun h => absurd h (by omega))
    | succ d ih =>
      intro j hj R' h3 h4 h5
      refine pk_le n j (fun h => absurd h (by omega)) (fun _ => wy_has (by omega) (fun e => br_f (by decide) ⟨pk_in j 8 (by omega), ?_⟩) (fun e => br_t rfl (nm_r (nI_1 j) (ih (j + 1) (by omega) R' h3 (fun u z hu hS ha hX => ?_) h5))))
      · rw [nI_clamp (by omega)]
        refine nm_e (nm_r (nI_1 j) (ih (j + 1) (by omega) _ (fun v hv => by rw [b_or, h3 v hv, Bool.true_or]) (fun u z hu hS ha hX => ?_) (fun v hv => ?_)))
        · by_cases e2 : u = j
          · subst e2
            rw [b_or, b_and, ha, hX]
            simp
          · rw [b_or, h4 u z (by omega) hS ha hX, Bool.true_or]
        · rw [b_or, b_and, Bool.or_eq_true, Bool.and_eq_true] at hv
          rcases hv with hv | hv
          · exact h5 v hv
          · exact mg_step (h5 j e) ⟨by omega, hv.1⟩ hv.2
      · by_cases e2 : u = j
        · subst e2
          rw [h3 u hS] at e
          cases e
        · exact h4 u z (by omega) hS ha hX
  have outer : ∀ d i, i + d = 8 → ∀ R, gc_I n a s (fun v => bt X v = true) i R → wY_leads_14 post X (nI n) (nI s) (nI t) a w mo (d + 1) R (nI i) := by
    intro d
    induction d with
    | zero =>
      intro i hi R hR
      have e : i = 8 := by omega
      subst e
      refine pk_le 8 8 (fun _ => ⟨pk_in t 8 (by omega), ?_⟩) (fun h => absurd h (by omega))
      rw [nI_clamp (by omega)]
      have hL := gc_L (t := t) hR hn
      exact br_c (fun z => h0 (hL.1 z)) (fun z => h1 (Classical.byContradiction (fun h => z (hL.2 h))))
    | succ d ih =>
      intro i hi R hR
      exact pk_le 8 i (fun h => absurd h (by omega)) (fun _ => ⟨n + 1, inner i _ R hR (fun R' hR' => ih (i + 1) (by omega) R' hR') n 0 (by omega) R (fun _ h => h) (fun u _ hu => absurd hu (by omega)) hR.1⟩)
  unfold wpY_leads
  dsimp only
  rw [nI_clamp (by omega)]
  refine ⟨pk_in s 8 (by omega), nm_e ⟨9, outer 8 0 rfl _ (gc_0 (fun v => ?_))⟩⟩
  rw [b_and, Bool.and_eq_true]
/-! subsets as masks -/
def ms (m A : Nat) : Prop := ∀ v, m.testBit v = true → A.testBit v = true
theorem ms_and {m A : Nat} : m &&& A = m ↔ ms m A := by
  constructor
  · intro h v hv
    rw [← h, Nat.testBit_and, Bool.and_eq_true] at hv
    exact hv.2
  · intro h
    apply Nat.eq_of_testBit_eq
    intro v
    rw [Nat.testBit_and]
    by_cases e : m.testBit v = true
    · rw [e, h v e]; rfl
    · rw [Bool.eq_false_iff.2 e]; rfl
theorem ms_I {m A : Nat} (hm : m < 2 ^ 31) (hA : A < 2 ^ 31) : (nI m &&& nI A) = nI m ↔ ms m A := by
  rw [nx_and, nI_eq (Nat.lt_of_le_of_lt Nat.and_le_left hm) hm, ms_and]
theorem ms_le {m A : Nat} (h : ms m A) : m ≤ A := by
  have e := ms_and.2 h
  rw [← e]
  exact Nat.and_le_right
theorem ms_sub {m p : Nat} (hm : m < 256) (hp : p < 256) : ∃ q, q < 256 ∧ nI m &&& (nI p ^^^ (-1)) = nI q ∧ ∀ v, q.testBit v = (m.testBit v && !p.testBit v) := by
  obtain ⟨q, hq, hb⟩ := gz_mask (fun v => m.testBit v && !p.testBit v) 8
  have hb2 : ∀ v, q.testBit v = (m.testBit v && !p.testBit v) := fun v => by
    rw [hb v]
    by_cases hv : v < 8
    · simp [hv]
    · have h1 : m.testBit v = false := Bool.eq_false_iff.2 (fun h => hv (gz_tb (n := 8) hm h))
      rw [h1]; simp
  refine ⟨q, hq, ?_, hb2⟩
  apply b_ext
  intro i hi
  rw [b_and, gb_not _ hi, gb_nI m hi, gb_nI p hi, gb_nI q hi, hb2 i]
/-- the most disjoint leading sets within the set that m writes -/
def im (n : Nat) (a : Nat → Int32) (s t m k : Nat) : Prop := gr_M n a s t (fun v => m.testBit v = true) k
/-- the set that m writes leads -/
def il (n : Nat) (a : Nat → Int32) (s t m : Nat) : Prop := gr_L n a s t (fun v => bt (nI m) v = true)
theorem il_tb {n : Nat} {a : Nat → Int32} {s t m : Nat} (hm : m < 256) : il n a s t m ↔ gr_L n a s t (fun v => m.testBit v = true) := by
  unfold il
  have e : (fun v => bt (nI m) v = true) = (fun v => m.testBit v = true) := funext (fun v => by rw [gb_nIa (n := 8) hm (Nat.le_refl 8)])
  rw [e]
theorem im_le8 {k m : Nat} (V : gr_V n a) (hn : n ≤ 8) (hs : s < n) (ht : t < n) (h : gr_P n a s t (fun v => m.testBit v = true) k) : k ≤ 8 := by
  have h1 := (gm_M V hn hs ht).2 k (gr_Pmono h (fun _ _ _ e => e) hs ht (fun _ _ => True.intro))
  have h2 := gm_le8 (s := s) (t := t) V hn hs ht
  omega
theorem wy_parts (V : gr_V n a) (hn : n ≤ 8) (hs : s < n) (ht : t < n) {A m : Nat} (hA : A < 256) (hmA : ms m A) (hA2 : ∀ v, A.testBit v = true → v ≠ s ∧ v ≠ t)
    (hw : ∀ m', m' ≤ m → ms m' A → (w m' = 0 ↔ ¬ il n a s t m'))
    (hmo : ∀ m', m' < m → ms m' A → ∃ k, k ≤ 8 ∧ mo m' = nI k ∧ im n a s t m' k)
    (h : ∀ k, k ≤ 8 → im n a s t m k → post (nI k)) : wpY_parts post (nI n, nI s, nI t, a, w, mo) (nI m) := by
  have hm : m < 256 := Nat.lt_of_le_of_lt (ms_le hmA) hA
  have hsub : ∀ p, 1 ≤ p → p ≤ m → ms p m → ∃ q, q < m ∧ nI m &&& (nI p ^^^ (-1)) = nI q ∧ (∀ v, q.testBit v = (m.testBit v && !p.testBit v)) ∧ ∃ k, k ≤ 8 ∧ mo q = nI k ∧ im n a s t q k := by
    intro p hp0 hpm hp
    obtain ⟨q, hq, e, hb⟩ := ms_sub hm (Nat.lt_of_le_of_lt hpm hm)
    have hqm : ms q m := fun v hv => by
      rw [hb v, Bool.and_eq_true] at hv
      exact hv.1
    have hlt : q < m := by
      refine Nat.lt_of_le_of_ne (ms_le hqm) (fun e2 => ?_)
      obtain ⟨v, hv⟩ := Nat.exists_testBit_of_ne_zero (x := p) (by omega)
      have h3 := hb v
      rw [e2, hp v hv, hv] at h3
      cases h3
    exact ⟨q, hlt, e, hb, hmo q hlt (fun v hv => hmA v (hqm v hv))⟩
  have key : ∀ d p, p + d = m + 1 → 1 ≤ p → ∀ b, gr_P n a s t (fun v => m.testBit v = true) b →
      (∀ p', 1 ≤ p' → p' < p → ms p' m → il n a s t p' → ∀ q k, (∀ v, q.testBit v = (m.testBit v && !p'.testBit v)) → im n a s t q k → 1 + k ≤ b) →
      wY_parts_4 post (nI m) (nI n) (nI s) (nI t) a w mo (d + 1) (nI b) (nI p) := by
    intro d
    induction d with
    | zero =>
      intro p hp hp1 b hb hl
      refine pk_lt m p (fun _ => h b (im_le8 V hn hs ht hb) ⟨hb, fun k' hk' => ?_⟩) (fun h => absurd h (by omega))
      cases k' with
      | zero => exact Nat.zero_le _
      | succ j =>
        obtain ⟨c, hc⟩ := hk'
        obtain ⟨p', hp', hpb⟩ := gz_mask (fun v => m.testBit v && decide (c v = j)) 8
        have hpb2 : ∀ v, p'.testBit v = (m.testBit v && decide (c v = j)) := fun v => by
          rw [hpb v]
          by_cases hv : v < 8
          · simp [hv]
          · have h1 : m.testBit v = false := Bool.eq_false_iff.2 (fun h => hv (gz_tb (n := 8) hm h))
            rw [h1]; simp
        have hpm : ms p' m := fun v hv => by
          rw [hpb2 v, Bool.and_eq_true] at hv
          exact hv.1
        have hL : gr_L n a s t (fun v => p'.testBit v = true) := gr_Lmono (a' := a) (hc j (by omega)) (fun _ _ _ _ _ e => e) hs ht (fun v hv => by
          have h1 : m.testBit v = true := hv.2.1
          show p'.testBit v = true
          rw [hpb2 v, h1, decide_eq_true hv.1]; rfl)
        have hp1' : 1 ≤ p' := by
          obtain ⟨v, _, hv⟩ := hL
          have hv2 : p'.testBit v = true := mg_in (T := fun v => p'.testBit v = true) hv
          refine Nat.pos_of_ne_zero (fun e => ?_)
          rw [e, Nat.zero_testBit] at hv2
          cases hv2
        have hle := ms_le hpm
        obtain ⟨q, hqm, _, hqb, k, _, _, hk⟩ := hsub p' hp1' hle hpm
        have h2 := hl p' hp1' (by omega) hpm ((il_tb hp').2 hL) q k hqb hk
        have h3 : j ≤ k := hk.2 j ⟨c, fun i hi => gr_Lmono (a' := a) (hc i (by omega)) (fun _ _ _ _ _ e => e) hs ht (fun v hv => ⟨hv.1, by
          have h1 : m.testBit v = true := hv.2.1
          have h4 : c v = i := hv.1
          show q.testBit v = true
          rw [hqb v, hpb2 v, h1, decide_eq_false (by omega)]; rfl, hv.2.2⟩)⟩
        omega
    | succ d ih =>
      intro p hp hp1 b hb hl
      have hb8 := im_le8 V hn hs ht hb
      refine pk_lt m p (fun h => absurd h (by omega)) (fun hpm => ?_)
      have skip : ∀ b', gr_P n a s t (fun v => m.testBit v = true) b' → b ≤ b' → (ms p m → il n a s t p → ∀ q k, (∀ v, q.testBit v = (m.testBit v && !p.testBit v)) → im n a s t q k → 1 + k ≤ b') →
          wY_parts_4 post (nI m) (nI n) (nI s) (nI t) a w mo (d + 1) (nI b') (nI (p + 1)) := fun b' hb' hle hnew =>
        ih (p + 1) (by omega) (by omega) b' hb' (fun p' h1 h2 h3 h4 q k h5 h6 => by
          by_cases e : p' = p
          · subst e; exact hnew h3 h4 q k h5 h6
          · have := hl p' h1 (by omega) h3 h4 q k h5 h6
            omega)
      by_cases hsb : ms p m
      · refine br_t ((ms_I (by omega) (by omega)).2 hsb) ⟨pk_in p 256 (by omega), ?_⟩
        rw [nI_clamp (by omega)]
        by_cases hLp : il n a s t p
        · refine br_f (fun z => (hw p hpm (fun v hv => hmA v (hsb v hv))).1 z hLp) ?_
          obtain ⟨q, hqm, eq, hqb, k, hk8, ek, hk⟩ := hsub p hp1 hpm hsb
          rw [eq, nI_clamp (by omega), ek]
          have e1 : 1 + nI k = nI (1 + k) := nI_add 1 k
          rw [e1]
          have huniq : ∀ q' k', (∀ v, q'.testBit v = (m.testBit v && !p.testBit v)) → im n a s t q' k' → k' = k := fun q' k' h1 h2 => by
            have e2 : q' = q := Nat.eq_of_testBit_eq (fun v => by rw [h1 v, hqb v])
            rw [e2] at h2
            exact gr_Muniq h2 hk
          refine ⟨pk_in q 256 (by omega), pk_le (1 + k) b (fun hle => nm_r (nI_1 p) (skip b hb (Nat.le_refl b) (fun _ _ q' k' h1 h2 => by rw [huniq q' k' h1 h2]; exact hle))) (fun hlt => ⟨pk_in q 256 (by omega), nm_e (nm_r (nI_1 p) (skip (1 + k) ?_ (by omega) (fun _ _ q' k' h1 h2 => by rw [huniq q' k' h1 h2]; exact Nat.le_refl _)))⟩)⟩
          obtain ⟨c, hc⟩ := hk.1
          refine ⟨fun v => if p.testBit v = true then k else c v, fun i hi => ?_⟩
          by_cases e : i = k
          · refine gr_Lmono (a' := a) ((il_tb (Nat.lt_of_le_of_lt hpm hm)).1 hLp) (fun _ _ _ _ _ e => e) hs ht (fun v hv => ⟨?_, hsb v hv, hA2 v (hmA v (hsb v hv))⟩)
            exact (if_pos hv).trans e.symm
          · refine gr_Lmono (a' := a) (hc i (by omega)) (fun _ _ _ _ _ e => e) hs ht (fun v hv => ?_)
            have h1 : q.testBit v = true := hv.2.1
            rw [hqb v, Bool.and_eq_true] at h1
            refine ⟨?_, h1.1, hv.2.2⟩
            have h2 : ¬ p.testBit v = true := fun h => by rw [h] at h1; exact absurd h1.2 (by decide)
            exact (if_neg h2).trans hv.1
        · exact br_t ((hw p hpm (fun v hv => hmA v (hsb v hv))).2 hLp) (nm_r (nI_1 p) (skip b hb (Nat.le_refl b) (fun _ h => absurd h hLp)))
      · exact br_f (fun z => hsb ((ms_I (by omega) (by omega)).1 z)) (nm_r (nI_1 p) (skip b hb (Nat.le_refl b) (fun h => absurd h hsb)))
  exact ⟨m + 1, key m 1 (by omega) (Nat.le_refl 1) 0 ⟨fun _ => 0, fun i hi => absurd hi (by omega)⟩ (fun p' h1 h2 => absurd h1 (by omega))⟩
end
theorem wy_paths {post : Int32 → SY → Prop} {n s t : Nat} {a w mo : Nat → Int32} (V : gr_V n a) (hn : n ≤ 8) (hs : s < n) (ht : t < n)
    (h : ∀ w' mo', post (nI (gp n a s t)) (nI n, nI s, nI t, a, w', mo')) : wpY_paths post (nI n, nI s, nI t, a, w, mo) := by
  obtain ⟨A, hW, hb⟩ : ∃ m, gr_W n a s t m ∧ gi_b n s t m := gr_all (t := t) a V hs
  have hp := gb_pow hn
  have hA : A < 256 := Nat.lt_of_lt_of_le hW.1 hp
  have hA2 : ∀ v, A.testBit v = true → v ≠ s ∧ v ≠ t := fun v hv => by
    rw [hb v] at hv
    simp at hv
    exact hv.2
  have key : ∀ (dr : Nat), (∀ w' mo', post (nI dr + nI (gm n a s t)) (nI n, nI s, nI t, a, w', mo')) → ∀ d i, i + d = A + 1 → ∀ w mo,
      (∀ m', m' < i → ms m' A → (w m' = 0 ↔ ¬ il n a s t m')) → (∀ m', m' < i → ms m' A → ∃ k, k ≤ 8 ∧ mo m' = nI k ∧ im n a s t m' k) →
      wY_paths_33 post (nI A) (nI dr) (nI n) (nI s) (nI t) (d + 1) (nI i) a w mo := by
    intro dr hpost d
    induction d with
    | zero =>
      intro i hi w mo hw hmo
      refine pk_lt A i (fun _ => ⟨pk_in A 256 hA, ?_⟩) (fun h => absurd h (by omega))
      obtain ⟨k, _, ek, hk⟩ := hmo A (by omega) (fun _ h => h)
      rw [nI_clamp (by omega), ek]
      have e : gm n a s t = k := gm_eq ⟨gr_Pmono hk.1 (fun _ _ _ e => e) hs ht (fun _ _ => True.intro), fun m hm => by
        obtain ⟨c, hc⟩ := hm
        refine hk.2 m ⟨c, fun i hi => gr_Lmono (a' := a) (gr_Lin V hs (hc i hi)) (fun _ _ _ _ _ e => e) hs ht (fun v hv => ⟨hv.1.1, ?_, hv.1.2.2⟩)⟩
        show A.testBit v = true
        rw [hb v]
        simp [hv.2, hv.1.2.2.1, hv.1.2.2.2]⟩
      rw [← e]
      exact hpost w mo
    | succ d ih =>
      intro i hi w mo hw hmo
      refine pk_lt A i (fun h => absurd h (by omega)) (fun hiA => ?_)
      by_cases hsb : ms i A
      · refine br_t ((ms_I (by omega) (by omega)).2 hsb) ?_
        have go : ∀ r : Int32, (r = 0 ↔ ¬ il n a s t i) → (r = 0 ∨ r = 1) → (vp_in (nI i) 256 ∧ ∀ (a_whole_29 : Nat → Int32), a_whole_29 = upd w (nI i).toNatClampNeg (vp_nar .boolean r) →
            (wpY_parts (fun r_30 => (vp_in (nI i) 256 ∧ ∀ (a_most_38 : Nat → Int32), a_most_38 = upd mo (nI i).toNatClampNeg r_30 → (∀ (x3_39 : Int32), x3_39 = nI i + 1 → (wY_paths_33 post (nI A) (nI dr) (nI n) (nI s) (nI t) (d + 1) x3_39 a a_whole_29 a_most_38)))) (nI n, nI s, nI t, a, a_whole_29, mo) (nI i))) := by
          intro r hr h01
          refine ⟨pk_in i 256 (by omega), nm_e ?_⟩
          rw [nI_clamp (by omega)]
          have er : vp_nar .boolean r = r := by
            rcases h01 with e | e
            · rw [e]; rfl
            · rw [e]; rfl
          rw [er]
          have hw2 : ∀ m', m' < i + 1 → ms m' A → (upd w i r m' = 0 ↔ ¬ il n a s t m') := fun m' h1 h2 => by
            by_cases e : m' = i
            · subst e; rw [pk_us]; exact hr
            · rw [pk_un e]; exact hw m' (by omega) h2
          refine wy_parts V hn hs ht hA hsb hA2 (fun m' h1 h2 => hw2 m' (by omega) h2) hmo (fun k hk8 hk => ⟨pk_in i 256 (by omega), nm_e (nm_r (nI_1 i) (ih (i + 1) (by omega) _ _ hw2 (fun m' h1 h2 => ?_)))⟩)
          by_cases e : m' = i
          · subst e
            exact ⟨k, hk8, pk_us, hk⟩
          · rw [pk_un e]
            exact hmo m' (by omega) h2
        exact wy_leads V hn hs ht (fun hL => go 1 ⟨fun z => absurd z (by decide), fun z => absurd hL z⟩ (Or.inr rfl)) (fun hL => go 0 ⟨fun _ => hL, fun _ => rfl⟩ (Or.inl rfl))
      · exact br_f (fun z => hsb ((ms_I (by omega) (by omega)).1 z)) (nm_r (nI_1 i) (ih (i + 1) (by omega) w mo (fun m' h1 h2 => by
          by_cases e : m' = i
          · subst e; exact absurd h2 hsb
          · exact hw m' (by omega) h2) (fun m' h1 h2 => by
          by_cases e : m' = i
          · subst e; exact absurd h2 hsb
          · exact hmo m' (by omega) h2)))
  unfold wpY_paths wpY_inner
  dsimp only
  rw [gi_Y hn hs ht hb, nI_clamp (by omega)]
  refine ⟨pk_in s 8 (by omega), wy_has (by omega) (fun e => br_f (by decide) ?_) (fun e => br_t rfl ?_)⟩
  · refine ⟨A + 2, key 1 (fun w' mo' => ?_) (A + 1) 0 (by omega) w mo (fun m' h1 => absurd h1 (by omega)) (fun m' h1 => absurd h1 (by omega))⟩
    have h2 := h w' mo'
    unfold gp at h2
    rw [if_pos e, ← nI_add] at h2
    exact h2
  · refine ⟨A + 2, key 0 (fun w' mo' => ?_) (A + 1) 0 (by omega) w mo (fun m' h1 => absurd h1 (by omega)) (fun m' h1 => absurd h1 (by omega))⟩
    have h2 := h w' mo'
    unfold gp at h2
    rw [if_neg (by rw [e]; decide), ← nI_add] at h2
    exact h2
