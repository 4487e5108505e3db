/-! the two together -/
def i_Rel (k : Nat) (u : SX) (v : SY) : Prop := ∃ g, gr_W g ∧ xm_Inv g u ∧ ym_Inv g v ∧ xm_sh u = ym_sh v
theorem rl_3 {g : gr_G} {n i j n' i' j' : Nat} {p0 p1 p2 : Int32} (W : gr_W g) (a : pu_V g n i j) (b : pu_V g n' i' j') (e0 : p0 = nI (10 + n)) (e1 : p1 = nI i) (e2 : p2 = nI j) (f0 : p0 = nI (10 + n')) (f1 : p1 = nI i') (f2 : p2 = nI j') : n' = n ∧ i' = i ∧ j' = j := by
  have hL := W.2.1
  obtain ⟨a1, a2, a3⟩ := a
  obtain ⟨b1, b2, b3⟩ := b
  have g0 := e0.symm.trans f0
  have g1 := e1.symm.trans f1
  have g2 := e2.symm.trans f2
  rw [nI_eq (by omega) (by omega)] at g0 g1 g2
  omega
theorem rl_sh {u : SX} {v : SY} {a b c d e a' b' c' d' e' : Nat → Int32} (h : xm_sh u = ym_sh v) (h1 : xm_sh u = (a, b, c, d, e)) (h2 : ym_sh v = (a', b', c', d', e')) : a = a' ∧ b = b' ∧ c = c' ∧ d = d' ∧ e = e' := by
  have q := h1.symm.trans (h.trans h2)
  injection q with q1 q
  injection q with q2 q
  injection q with q3 q
  injection q with q4 q5
  exact ⟨q1, q2, q3, q4, q5⟩
theorem i_up {k : Nat} {u : SX} {v : SY} (h : i_Rel k u v) : i_Rel (k + 5) u v := h
theorem i_vc0 : wpX_init (fun u => wpY_init (fun v => i_Rel 0 u v)) :=
  ⟨(0, 0, fun _ => 0, fun _ => 0, fun _ => 0), ⟨by decide, by decide, fun p hp => absurd hp (Nat.not_lt_zero _), fun p hp => absurd hp (Nat.not_lt_zero _), fun p hp => absurd hp (Nat.not_lt_zero _), fun p hp => absurd hp (Nat.not_lt_zero _)⟩, ⟨rfl, rfl, fun p hp => absurd hp (Nat.not_lt_zero _), fun p hp => absurd hp (Nat.not_lt_zero _), fun p hp => absurd hp (Nat.not_lt_zero _), fun p hp => absurd hp (Nat.not_lt_zero _), fun z => absurd rfl z, fun z => absurd rfl z, fun z => absurd rfl z, fun z => absurd rfl z⟩, ⟨rfl, rfl, fun p hp => absurd hp (Nat.not_lt_zero _), fun p hp => absurd hp (Nat.not_lt_zero _), fun p hp => absurd hp (Nat.not_lt_zero _), fun p hp => absurd hp (Nat.not_lt_zero _), fun p hp => absurd hp (Nat.not_lt_zero _), fun z => absurd rfl z⟩, rfl⟩
theorem i_vc_derives {k : Nat} {u : SX} {v : SY} (I : i_Rel k u v) (hk : k + 5 ≤ 2560) (v1 : Int32) (v2 : Int32) (v3 : Int32) : wpX_derives (fun r u' => wpY_derives (fun r' v' => r' = r ∧ i_Rel (k + 5) u' v') v v1 v2 v3) u v1 v2 v3 := by
  obtain ⟨g, W, IX, IY, sh⟩ := I
  refine xq_derives W IX (fun u' n i j I' e S hv e0 e1 e2 => yq_derives W IY (fun v' n' i' j' J' f hv' f0 f1 f2 => ⟨?_, g, W, I', J', e.trans (sh.trans f.symm)⟩) (fun q => absurd ⟨e0, e1, e2⟩ (q n i j hv))) (fun u' I' e q => yq_derives W IY (fun v' n i j J' f hv f0 f1 f2 => absurd ⟨f0, f1, f2⟩ (q n i j hv)) (fun q' => ⟨rfl, g, W, I', IY, e.trans sh⟩))
  obtain ⟨rfl, rfl, rfl⟩ := rl_3 W hv hv' e0 e1 e2 f0 f1 f2
  rfl
theorem i_vc_height {k : Nat} {u : SX} {v : SY} (I : i_Rel k u v) (hk : k + 5 ≤ 2560) (v1 : Int32) (v2 : Int32) (v3 : Int32) : wpX_height (fun r u' => wpY_height (fun r' v' => r' = r ∧ i_Rel (k + 5) u' v') v v1 v2 v3) u v1 v2 v3 := by
  obtain ⟨g, W, IX, IY, sh⟩ := I
  refine xq_height W IX (fun u' n i j I' e S hv e0 e1 e2 => yq_height W IY (fun v' n' i' j' J' f hv' f0 f1 f2 => ⟨?_, g, W, I', J', e.trans (sh.trans f.symm)⟩) (fun q => absurd ⟨e0, e1, e2⟩ (q n i j hv))) (fun u' I' e q => yq_height W IY (fun v' n i j J' f hv f0 f1 f2 => absurd ⟨f0, f1, f2⟩ (q n i j hv)) (fun q' => ⟨rfl, g, W, I', IY, e.trans sh⟩))
  obtain ⟨rfl, rfl, rfl⟩ := rl_3 W hv hv' e0 e1 e2 f0 f1 f2
  rfl
theorem i_vc_trees {k : Nat} {u : SX} {v : SY} (I : i_Rel k u v) (hk : k + 5 ≤ 2560) (v1 : Int32) (v2 : Int32) (v3 : Int32) : wpX_trees (fun r u' => wpY_trees (fun r' v' => r' = r ∧ i_Rel (k + 5) u' v') v v1 v2 v3) u v1 v2 v3 := by
  obtain ⟨g, W, IX, IY, sh⟩ := I
  refine xq_trees W IX (fun u' n i j I' e S S2 hv e0 e1 e2 => yq_trees W IY (fun v' n' i' j' J' f hv' f0 f1 f2 => ⟨?_, g, W, I', J', e.trans (sh.trans f.symm)⟩) (fun q => absurd ⟨e0, e1, e2⟩ (q n i j hv))) (fun u' I' e q => yq_trees W IY (fun v' n i j J' f hv f0 f1 f2 => absurd ⟨f0, f1, f2⟩ (q n i j hv)) (fun q' => ⟨rfl, g, W, I', IY, e.trans sh⟩))
  obtain ⟨rfl, rfl, rfl⟩ := rl_3 W hv hv' e0 e1 e2 f0 f1 f2
  rfl
theorem i_vc_value {k : Nat} {u : SX} {v : SY} (I : i_Rel k u v) (hk : k + 5 ≤ 2560) (v1 : Int32) (v2 : Int32) (v3 : Int32) : wpX_value (fun r u' => wpY_value (fun r' v' => r' = r ∧ i_Rel (k + 5) u' v') v v1 v2 v3) u v1 v2 v3 := by
  obtain ⟨g, W, IX, IY, sh⟩ := I
  refine xq_value W IX (fun u' n i j I' e S hv e0 e1 e2 => yq_value W IY (fun v' n' i' j' J' f hv' f0 f1 f2 => ⟨?_, g, W, I', J', e.trans (sh.trans f.symm)⟩) (fun q => absurd ⟨e0, e1, e2⟩ (q n i j hv))) (fun u' I' e q => yq_value W IY (fun v' n i j J' f hv f0 f1 f2 => absurd ⟨f0, f1, f2⟩ (q n i j hv)) (fun q' => ⟨rfl, g, W, I', IY, e.trans sh⟩))
  obtain ⟨rfl, rfl, rfl⟩ := rl_3 W hv hv' e0 e1 e2 f0 f1 f2
  rw [sh]
theorem i_vc_distance {k : Nat} {u : SX} {v : SY} (I : i_Rel k u v) (hk : k + 5 ≤ 2560) (v1 : Int32) (v2 : Int32) (v3 : Int32) : wpX_distance (fun r u' => wpY_distance (fun r' v' => r' = r ∧ i_Rel (k + 5) u' v') v v1 v2 v3) u v1 v2 v3 := by
  obtain ⟨g, W, IX, IY, sh⟩ := I
  refine xq_distance W IX (fun u' n i j I' e hv e0 e1 e2 => yq_distance W IY (fun v' n' i' j' J' f hv' f0 f1 f2 => ⟨?_, g, W, I', J', e.trans (sh.trans f.symm)⟩) (fun q => absurd ⟨e0, e1, e2⟩ (q n i j hv))) (fun u' I' e q => yq_distance W IY (fun v' n i j J' f hv f0 f1 f2 => absurd ⟨f0, f1, f2⟩ (q n i j hv)) (fun q' => ⟨rfl, g, W, I', IY, e.trans sh⟩))
  obtain ⟨rfl, rfl, rfl⟩ := rl_3 W hv hv' e0 e1 e2 f0 f1 f2
  rfl
theorem i_vc_longest {k : Nat} {u : SX} {v : SY} (I : i_Rel k u v) (hk : k + 5 ≤ 2560) (v1 : Int32) (v2 : Int32) : wpX_longest (fun r u' => wpY_longest (fun r' v' => r' = r ∧ i_Rel (k + 5) u' v') v v1 v2) u v1 v2 := by
  obtain ⟨g, W, IX, IY, sh⟩ := I
  refine xq_longest W IX (fun u' n i I' e S hn hi e0 e1 => ⟨fun j h1 h2 h3 h4 => yq_longest W IY (fun v' n' i' J' f hn' hi' f0 f1 => ?_) (fun q => absurd ⟨e0, e1⟩ (q n i hn hi)), fun h => yq_longest W IY (fun v' n' i' J' f hn' hi' f0 f1 => ?_) (fun q => absurd ⟨e0, e1⟩ (q n i hn hi))⟩) (fun u' I' e q => yq_longest W IY (fun v' n i J' f hn hi f0 f1 => absurd ⟨f0, f1⟩ (q n i hn hi)) (fun q' => ⟨rfl, g, W, I', IY, e.trans sh⟩))
  · obtain ⟨rfl, rfl, _⟩ := rl_3 W (⟨hn, Nat.le_refl _, hi⟩ : pu_V g n i i) (⟨hn', Nat.le_refl _, hi'⟩ : pu_V g n' i' i') e0 e1 e1 f0 f1 f1
    refine ⟨fun j' q1 q2 q3 q4 => ⟨?_, g, W, I', J', e.trans (sh.trans f.symm)⟩, fun q => absurd (q j h1 h2) (by omega)⟩
    by_cases c : j' < j
    · exact absurd (q4 j c h2) (by omega)
    · by_cases c2 : j < j'
      · exact absurd (h4 j' c2 q2) (by omega)
      · rw [show j' = j by omega]
  · obtain ⟨rfl, rfl, _⟩ := rl_3 W (⟨hn, Nat.le_refl _, hi⟩ : pu_V g n i i) (⟨hn', Nat.le_refl _, hi'⟩ : pu_V g n' i' i') e0 e1 e1 f0 f1 f1
    exact ⟨fun j' q1 q2 q3 q4 => absurd (h j' q1 q2) (by omega), fun q => ⟨rfl, g, W, I', J', e.trans (sh.trans f.symm)⟩⟩
theorem i_vc_node {k : Nat} {u : SX} {v : SY} (I : i_Rel k u v) (hk : k + 5 ≤ 2560) (v1 : Int32) : wpX_node (fun r u' => wpY_node (fun r' v' => r' = r ∧ i_Rel (k + 5) u' v') v v1) u v1 := by
  obtain ⟨g, W, IX, IY, sh⟩ := I
  refine xq_node W IX (fun u' q I' e S e0 l s9 => yq_node W IY (fun v' q' J' f f0 l' s9' => ⟨?_, g, W, I', J', e.trans (sh.trans f.symm)⟩) (fun v' J' f no => absurd ⟨e0, l, s9⟩ (no q (by omega)))) (fun u' I' e no => yq_node W IY (fun v' q J' f f0 l s9 => absurd ⟨f0, l, s9⟩ (no q (by omega))) (fun v' J' f no' => ⟨rfl, g, W, I', J', e.trans (sh.trans f.symm)⟩))
  have z := e0.symm.trans f0
  rw [nI_eq (by omega) (by omega)] at z
  rw [z]
theorem i_vc_errorAt {k : Nat} {u : SX} {v : SY} (I : i_Rel k u v) (hk : k + 5 ≤ 2560) : wpX_errorAt (fun r u' => wpY_errorAt (fun r' v' => r' = r ∧ i_Rel (k + 5) u' v') v) u := by
  obtain ⟨g, W, IX, IY, sh⟩ := I
  refine xq_errorAt W IX (fun u' I' e S => ⟨fun h0 => yq_errorAt W IY (fun v' J' f => ⟨fun _ => ⟨rfl, g, W, I', J', e.trans (sh.trans f.symm)⟩, fun z => absurd z (by omega), fun z => absurd z (by omega)⟩), fun h0 q q1 q2 q3 => yq_errorAt W IY (fun v' J' f => ⟨fun z => absurd z (by omega), fun _ q' r1 r2 r3 => ⟨?_, g, W, I', J', e.trans (sh.trans f.symm)⟩, fun _ no => absurd q2 (no q q1)⟩), fun h0 no => yq_errorAt W IY (fun v' J' f => ⟨fun z => absurd z (by omega), fun _ q' r1 r2 r3 => absurd r2 (no q' r1), fun _ _ => ⟨rfl, g, W, I', J', e.trans (sh.trans f.symm)⟩⟩)⟩)
  by_cases c : q' < q
  · exact absurd q2 (r3 q c q1)
  · by_cases c2 : q < q'
    · exact absurd r2 (q3 q' c2 r1)
    · rw [show q' = q by omega]
theorem i_vc_expected {k : Nat} {u : SX} {v : SY} (I : i_Rel k u v) (hk : k + 5 ≤ 2560) (v1 : Int32) : wpX_expected (fun r u' => wpY_expected (fun r' v' => r' = r ∧ i_Rel (k + 5) u' v') v v1) u v1 := by
  obtain ⟨g, W, IX, IY, sh⟩ := I
  have hL := W.2.1
  refine xq_expected W IX (fun u' q m I' e S hq e0 hm h => yq_expected W IY (fun v' q' m' J' f hq' f0 hm' h' => ⟨?_, g, W, I', J', e.trans (sh.trans f.symm)⟩) (fun no => absurd e0 (no q hq))) (fun u' I' e no => yq_expected W IY (fun v' q m J' f hq f0 hm h => absurd f0 (no q hq)) (fun no' => ⟨rfl, g, W, I', IY, e.trans sh⟩))
  have z := e0.symm.trans f0
  rw [nI_eq (by omega) (by omega)] at z
  subst z
  have em : m' = m := fb_ext hm' hm (fun t ht => by
    cases e1 : m.testBit t with
    | true => exact (h' t ht).mpr ((h t ht).mp e1)
    | false =>
      cases e2 : m'.testBit t with
      | true => have := (h t ht).mpr ((h' t ht).mp e2); rw [e1] at this; exact absurd this (by decide)
      | false => rfl)
  rw [em]
theorem i_vc_traits {k : Nat} {u : SX} {v : SY} (I : i_Rel k u v) (hk : k + 5 ≤ 2560) (v1 : Int32) : wpX_traits (fun r u' => wpY_traits (fun r' v' => r' = r ∧ i_Rel (k + 5) u' v') v v1) u v1 := by
  obtain ⟨g, W, IX, IY, sh⟩ := I
  refine xq_traits W IX (fun u' n a b c I' e S hn e0 ha hb hc => yq_traits W IY (fun v' n' a' b' c' J' f hn' f0 ha' hb' hc' => ⟨?_, g, W, I', J', e.trans (sh.trans f.symm)⟩) (fun no => absurd e0 (no n hn))) (fun u' I' e no => yq_traits W IY (fun v' n a b c J' f hn f0 ha hb hc => absurd f0 (no n hn)) (fun no' => ⟨rfl, g, W, I', IY, e.trans sh⟩))
  have z := e0.symm.trans f0
  rw [nI_eq (by omega) (by omega)] at z
  have z' : n' = n := by omega
  subst z'
  have ea : a' = a := by
    obtain ⟨x, y⟩ | ⟨x, y⟩ := ha <;> obtain ⟨x', y'⟩ | ⟨x', y'⟩ := ha'
    · omega
    · exact absurd y y'
    · exact absurd y' y
    · omega
  have eb : b' = b := by omega
  have ecc : c' = c := by
    obtain ⟨x, y⟩ | ⟨x, y⟩ := hc <;> obtain ⟨x', y'⟩ | ⟨x', y'⟩ := hc'
    · omega
    · exact absurd y y'
    · exact absurd y' y
    · omega
  rw [ea, eb, ecc]
