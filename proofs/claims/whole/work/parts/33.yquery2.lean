/-! the reference: the other questions -/
section
variable {g : gr_G} {v : SY}
theorem yq_node {post : Int32 → SY → Prop} {p0 : Int32} (W : gr_W g) (I : ym_Inv g v) (hs : ∀ v' k, ym_Inv g v' → ym_sh v' = ym_sh v → p0 = nI k → k < pu_SZ g 0 0 (gr_L g) → pu_SZ g 0 0 (gr_L g) ≤ 1000000000 → post (nI (10000 * pu_cp g (pu_ND g 0 0 (gr_L g) k).1 (pu_ND g 0 0 (gr_L g) k).2.1 (pu_ND g 0 0 (gr_L g) k).2.2 + 100 * (pu_ND g 0 0 (gr_L g) k).2.1 + (pu_ND g 0 0 (gr_L g) k).2.2)) v') (hn : ∀ v', ym_Inv g v' → ym_sh v' = ym_sh v → (∀ k, k < 2 ^ 31 → ¬ (p0 = nI k ∧ k < pu_SZ g 0 0 (gr_L g) ∧ pu_SZ g 0 0 (gr_L g) ≤ 1000000000)) → post (-1) v') : wpY_node post v p0 := by
  obtain ⟨f_productions, f_length, f_goal, f_extra, f_measured, f_known, f_more, f_sum, a_left, a_size, a_right, a_text, a_ops, a_constants, a_heights, a_many, a_chosen, a_firstEnd, a_secondEnd, a_values, a_nodes, a_far, a_productive, a_useful, a_covers⟩ := v
  have I0 := I
  obtain ⟨rfl, rfl, _⟩ := I
  have hL := W.2.1
  have hv : pu_V g 0 0 (gr_L g) := ⟨by decide, Nat.zero_le _, Nat.le_refl _⟩
  have hl := cy_lt W hv
  have hin : vp_in (nI (cy 0 0 (gr_L g))) 980 := vp_in_nI hl (by decide)
  have ec : (nI (cy 0 0 (gr_L g))).toNatClampNeg = cy 0 0 (gr_L g) := nI_clamp (by omega)
  refine br_c (fun q => hn _ I0 rfl (fun k hk z => xb_nlt (lo := 0) (k := k) (by decide) q hk (by omega) z.1)) (fun q => ?_)
  obtain ⟨k, hk, rfl⟩ := nI_of q
  refine yq_derivesK W I0 (fun n i j I' e K hv' e0 e1 e2 => ?_) (fun q => absurd ⟨rfl, rfl, rfl⟩ (q 0 0 (gr_L g) hv))
  have hv2 := hv'.2
  have n0 : n = 0 := by
    have : nI 10 = nI (10 + n) := e0
    rw [nI_eq (by decide) (by have := hv'.1; omega)] at this; omega
  have i0 : i = 0 := by
    have : nI 0 = nI i := e1
    rw [nI_eq (by decide) (by omega)] at this; omega
  have j0 : j = gr_L g := by rw [nI_eq (by omega) (by omega)] at e2; omega
  subst n0 i0 j0
  refine ⟨fun h0 => br_f (by decide) (ys_cell 0 0 (gr_L g) rfl rfl rfl ⟨hin, ?_⟩), fun h0 => br_t rfl (hn _ I' (ym_sh_e.trans e) (fun k' hk' z => ?_))⟩
  · have D := (K.2.2 0 0 (gr_L g) hv h0 trivial).2.2.2.2
    have l2 := pu_c2_le (pu_SZ g 0 0 (gr_L g))
    have mR := I'.2.2.2.1
    have mZ := I'.2.2.2.2.2.1
    rw [ec, D, nI_l hk]
    refine ek_if (d := pu_c2 (pu_SZ g 0 0 (gr_L g)) ≤ k) (pk_lLE (by omega) (by omega)) (fun l => hn _ I' (ym_sh_e.trans e) (fun k' hk' z => ?_)) (fun l => ⟨hin, ?_⟩)
    · obtain ⟨z1, z2, z3⟩ := z
      rw [nI_eq hk hk'] at z1
      unfold pu_c2 at l
      rw [if_pos (by omega)] at l
      omega
    · refine ek_if (d := pu_c2 (pu_SZ g 0 0 (gr_L g)) ≤ 1000000000) (pk_lLE (b := 1000000000) (by omega) (by decide)) (fun l3 => ⟨k + 1, ?_⟩) (fun l3 => hn _ I' (ym_sh_e.trans e) (fun k' hk' z => ?_))
      · have s9 : pu_SZ g 0 0 (gr_L g) ≤ 1000000000 := by
          by_cases c : pu_SZ g 0 0 (gr_L g) < 2000000000
          · unfold pu_c2 at l3; rw [if_pos c] at l3; exact l3
          · unfold pu_c2 at l3; rw [if_neg c] at l3; omega
        have kl : k < pu_SZ g 0 0 (gr_L g) := by
          unfold pu_c2 at l; rw [if_pos (by omega)] at l; omega
        exact ys_node61 W mR mZ K (k + 1) 0 0 (gr_L g) k (by omega) hv h0 s9 kl (hs _ k I' (ym_sh_e.trans e) rfl kl s9)
      · obtain ⟨z1, z2, z3⟩ := z
        unfold pu_c2 at l3
        rw [if_pos (by omega)] at l3
        omega
  · obtain ⟨z1, z2, z3⟩ := z
    rw [pu_SZ_0 (by omega)] at z2
    omega
theorem yq_distance {post : Int32 → SY → Prop} {p0 p1 p2 : Int32} (W : gr_W g) (I : ym_Inv g v) (hs : ∀ v' n i j, ym_Inv g v' → ym_sh v' = ym_sh v → pu_V g n i j → p0 = nI (10 + n) → p1 = nI i → p2 = nI j → post (if pd_D g n i j < 1000000 then nI (pd_D g n i j) else -1) v') (hn : (∀ n i j, pu_V g n i j → ¬ (p0 = nI (10 + n) ∧ p1 = nI i ∧ p2 = nI j)) → post (-1) v) : wpY_distance post v p0 p1 p2 := by
  obtain ⟨f_productions, f_length, f_goal, f_extra, f_measured, f_known, f_more, f_sum, a_left, a_size, a_right, a_text, a_ops, a_constants, a_heights, a_many, a_chosen, a_firstEnd, a_secondEnd, a_values, a_nodes, a_far, a_productive, a_useful, a_covers⟩ := v
  have I0 := I
  obtain ⟨rfl, rfl, _⟩ := I
  unfold wpY_distance
  refine ys_span W (fun n i j hv e0 e1 e2 => br_f (by decide) ?_) (fun q => br_t rfl (hn q))
  refine yq_know W I0 (fun I' e K Q kn => ?_)
  obtain ⟨_, _, tx, mR, mF, mZ, mO, hk⟩ := I'
  refine ys_measure (g := g) W tx mR mF mZ Q (fun f1 f2 a1 m1 F => ys_cell n i j e0 e1 e2 ⟨vp_in_nI (cy_lt W hv) (by decide), ?_⟩)
  rw [nI_clamp (by have := cy_lt W hv; omega), F n i j hv]
  exact hs _ n i j ⟨rfl, rfl, tx, mR, mF, mZ, mO, fun _ => ⟨K, fun _ => F⟩⟩ (ym_sh_e.trans e) hv e0 e1 e2
theorem yq_isBt {post : Int32 → SY → Prop} {k t : Nat} (W : gr_W g) (I : ym_Inv g v) (hk : k ≤ gr_L g) (ht : t < 6) (hs : ∀ {f_goal f_extra f_measured f_known f_more : Int32} {f_sum : Int64} {a_left a_size a_right a_text a_ops a_constants a_heights : Nat → Int32} {a_many : Nat → Int64} {a_chosen a_firstEnd a_secondEnd : Nat → Int32} {a_values a_nodes : Nat → Int64} {a_far a_productive a_useful a_covers : Nat → Int32}, ym_Inv g (nI (gr_P g), nI (gr_L g), f_goal, f_extra, f_measured, f_known, f_more, f_sum, a_left, a_size, a_right, a_text, a_ops, a_constants, a_heights, a_many, a_chosen, a_firstEnd, a_secondEnd, a_values, a_nodes, a_far, a_productive, a_useful, a_covers) → (a_left, a_right, a_ops, a_constants, a_text) = ym_sh v → (pf_FO g k t 0 0 → post 1 (nI (gr_P g), nI (gr_L g), f_goal, f_extra, f_measured, f_known, f_more, f_sum, a_left, a_size, a_right, a_text, a_ops, a_constants, a_heights, a_many, a_chosen, a_firstEnd, a_secondEnd, a_values, a_nodes, a_far, a_productive, a_useful, a_covers)) ∧ (¬ pf_FO g k t 0 0 → post 0 (nI (gr_P g), nI (gr_L g), f_goal, f_extra, f_measured, f_known, f_more, f_sum, a_left, a_size, a_right, a_text, a_ops, a_constants, a_heights, a_many, a_chosen, a_firstEnd, a_secondEnd, a_values, a_nodes, a_far, a_productive, a_useful, a_covers))) : wpY_isBeginning post v (nI k) (nI t) := by
  obtain ⟨f_productions, f_length, f_goal, f_extra, f_measured, f_known, f_more, f_sum, a_left, a_size, a_right, a_text, a_ops, a_constants, a_heights, a_many, a_chosen, a_firstEnd, a_secondEnd, a_values, a_nodes, a_far, a_productive, a_useful, a_covers⟩ := v
  unfold wpY_isBeginning
  refine yq_know W I (fun I' e K Q kn => br_t (nI_pos' (by omega)) ?_)
  obtain ⟨_, _, tx, mR, mF, mZ, mO, hkk⟩ := I'
  unfold wY_isBeginning_16
  refine ys_begin (g := g) (K := k) (t := t) (nI_1 k) hk W tx mR mF mZ K.1 (Or.inl ⟨rfl, ht⟩) (fun f1 a1 a2 => ?_)
  exact ⟨fun q => ⟨rfl, (hs ⟨rfl, rfl, tx, mR, mF, mZ, mO, hkk⟩ e).1 q⟩, fun q => ⟨rfl, (hs ⟨rfl, rfl, tx, mR, mF, mZ, mO, hkk⟩ e).2 q⟩⟩
theorem yq_isBm {post : Int32 → SY → Prop} {k : Nat} (W : gr_W g) (I : ym_Inv g v) (hk : k ≤ gr_L g) (hs : ∀ {f_goal f_extra f_measured f_known f_more : Int32} {f_sum : Int64} {a_left a_size a_right a_text a_ops a_constants a_heights : Nat → Int32} {a_many : Nat → Int64} {a_chosen a_firstEnd a_secondEnd : Nat → Int32} {a_values a_nodes : Nat → Int64} {a_far a_productive a_useful a_covers : Nat → Int32}, ym_Inv g (nI (gr_P g), nI (gr_L g), f_goal, f_extra, f_measured, f_known, f_more, f_sum, a_left, a_size, a_right, a_text, a_ops, a_constants, a_heights, a_many, a_chosen, a_firstEnd, a_secondEnd, a_values, a_nodes, a_far, a_productive, a_useful, a_covers) → (a_left, a_right, a_ops, a_constants, a_text) = ym_sh v → (pf_B g k → post 1 (nI (gr_P g), nI (gr_L g), f_goal, f_extra, f_measured, f_known, f_more, f_sum, a_left, a_size, a_right, a_text, a_ops, a_constants, a_heights, a_many, a_chosen, a_firstEnd, a_secondEnd, a_values, a_nodes, a_far, a_productive, a_useful, a_covers)) ∧ (¬ pf_B g k → post 0 (nI (gr_P g), nI (gr_L g), f_goal, f_extra, f_measured, f_known, f_more, f_sum, a_left, a_size, a_right, a_text, a_ops, a_constants, a_heights, a_many, a_chosen, a_firstEnd, a_secondEnd, a_values, a_nodes, a_far, a_productive, a_useful, a_covers))) : wpY_isBeginning post v (nI k) (-1) := by
  obtain ⟨f_productions, f_length, f_goal, f_extra, f_measured, f_known, f_more, f_sum, a_left, a_size, a_right, a_text, a_ops, a_constants, a_heights, a_many, a_chosen, a_firstEnd, a_secondEnd, a_values, a_nodes, a_far, a_productive, a_useful, a_covers⟩ := v
  unfold wpY_isBeginning
  refine yq_know W I (fun I' e K Q kn => br_f (by decide) ?_)
  obtain ⟨_, _, tx, mR, mF, mZ, mO, hkk⟩ := I'
  unfold wY_isBeginning_16
  by_cases c : k = 0
  · subst c
    have eB : pf_B g 0 = pf_PR g 0 := if_pos rfl
    rw [eB] at hs
    refine ys_begin0 (g := g) rfl W mR mF mZ (fun a1 => ?_)
    exact ⟨fun q => ⟨rfl, (hs ⟨rfl, rfl, tx, mR, mF, mZ, mO, hkk⟩ e).1 q⟩, fun q => ⟨rfl, (hs ⟨rfl, rfl, tx, mR, mF, mZ, mO, hkk⟩ e).2 q⟩⟩
  · obtain ⟨q, rfl⟩ : ∃ q, k = q + 1 := ⟨k - 1, by omega⟩
    have eB : pf_B g (q + 1) = pf_FO g q (gr_T g q) 0 0 := if_neg c
    rw [eB] at hs
    refine ys_begin (g := g) (K := q) (t := gr_T g q) rfl (by omega) W tx mR mF mZ K.1 (Or.inr ⟨rfl, by omega, rfl⟩) (fun f1 a1 a2 => ?_)
    exact ⟨fun q => ⟨rfl, (hs ⟨rfl, rfl, tx, mR, mF, mZ, mO, hkk⟩ e).1 q⟩, fun q => ⟨rfl, (hs ⟨rfl, rfl, tx, mR, mF, mZ, mO, hkk⟩ e).2 q⟩⟩
theorem yq_errorAt {post : Int32 → SY → Prop} (W : gr_W g) (I : ym_Inv g v) (hs : ∀ v', ym_Inv g v' → ym_sh v' = ym_sh v → (0 < pu_HH g 0 0 (gr_L g) → post (-1) v') ∧ (pu_HH g 0 0 (gr_L g) = 0 → ∀ k, k ≤ gr_L g → pf_B g k → (∀ k', k < k' → k' ≤ gr_L g → ¬ pf_B g k') → post (nI k) v') ∧ (pu_HH g 0 0 (gr_L g) = 0 → (∀ k, k ≤ gr_L g → ¬ pf_B g k) → post (-2) v')) : wpY_errorAt post v := by
  have hL := W.2.1
  have Kl : pu_HH g 0 0 (gr_L g) = 0 → ∀ d, d ≤ gr_L g + 1 → (∀ k', d ≤ k' → k' ≤ gr_L g → ¬ pf_B g k') → ∀ {f_goal f_extra f_measured f_known f_more : Int32} {f_sum : Int64} {a_left a_size a_right a_text a_ops a_constants a_heights : Nat → Int32} {a_many : Nat → Int64} {a_chosen a_firstEnd a_secondEnd : Nat → Int32} {a_values a_nodes : Nat → Int64} {a_far a_productive a_useful a_covers : Nat → Int32}, ym_Inv g (nI (gr_P g), nI (gr_L g), f_goal, f_extra, f_measured, f_known, f_more, f_sum, a_left, a_size, a_right, a_text, a_ops, a_constants, a_heights, a_many, a_chosen, a_firstEnd, a_secondEnd, a_values, a_nodes, a_far, a_productive, a_useful, a_covers) → (a_left, a_right, a_ops, a_constants, a_text) = ym_sh v → wY_errorAt_21 post (d + 1) (nI d + (-1)) (nI (gr_P g)) (nI (gr_L g)) f_goal f_extra f_measured f_known f_more f_sum a_left a_size a_right a_text a_ops a_constants a_heights a_many a_chosen a_firstEnd a_secondEnd a_values a_nodes a_far a_productive a_useful a_covers := by
    intro z d
    induction d with
    | zero =>
      intro hd hist f1 f2 f3 f4 f5 f6 a1 a2 a3 a4 a5 a6 a7 a8 a9 a10 a11 a12 a13 a14 a15 a16 a17 I' e
      exact br_t ((xb_m1lt (b := 0) (by decide) (by decide)).mpr (Nat.le_refl _)) ((hs _ I' (ym_sh_e.trans e)).2.2 z (fun k hk => hist k (by omega) hk))
    | succ d ih =>
      intro hd hist f1 f2 f3 f4 f5 f6 a1 a2 a3 a4 a5 a6 a7 a8 a9 a10 a11 a12 a13 a14 a15 a16 a17 I' e
      refine br_f (fun z => by have := (xb_m1lt (b := 0) (by omega) (by decide)).mp z; omega) ?_
      rw [pk_m1]
      refine yq_isBm W I' (by omega) (fun I2 e2 => ⟨fun b => br_f (by decide) ((hs _ I2 (ym_sh_e.trans (e2.trans (ym_sh_e.trans e)))).2.1 z d (by omega) b (fun k' h1 h2 => hist k' (by omega) h2)), fun b => br_t rfl (nm_e (ih (by omega) (fun k' h1 h2 => ?_) I2 (e2.trans (ym_sh_e.trans e))))⟩)
      by_cases q : k' = d
      · rw [q]; exact b
      · exact hist k' (by omega) h2
  obtain ⟨f_productions, f_length, f_goal, f_extra, f_measured, f_known, f_more, f_sum, a_left, a_size, a_right, a_text, a_ops, a_constants, a_heights, a_many, a_chosen, a_firstEnd, a_secondEnd, a_values, a_nodes, a_far, a_productive, a_useful, a_covers⟩ := v
  have I0 := I
  obtain ⟨rfl, rfl, _⟩ := I
  have hv : pu_V g 0 0 (gr_L g) := ⟨by decide, Nat.zero_le _, Nat.le_refl _⟩
  unfold wpY_errorAt
  refine yq_derivesK W I0 (fun n i j I' e K hv' e0 e1 e2 => ?_) (fun q => absurd ⟨rfl, rfl, rfl⟩ (q 0 0 (gr_L g) hv))
  have hv2 := hv'.2
  have n0 : n = 0 := by
    have : nI 10 = nI (10 + n) := e0
    rw [nI_eq (by decide) (by have := hv'.1; omega)] at this; omega
  have i0 : i = 0 := by
    have : nI 0 = nI i := e1
    rw [nI_eq (by decide) (by omega)] at this; omega
  have j0 : j = gr_L g := by rw [nI_eq (by omega) (by omega)] at e2; omega
  subst n0 i0 j0
  refine ⟨fun h0 => br_f (by decide) ((hs _ I' (ym_sh_e.trans e)).1 h0), fun h0 => br_t rfl ⟨gr_L g + 1 + 1, ?_⟩⟩
  have Z := Kl (by omega) (gr_L g + 1) (Nat.le_refl _) (fun k' h1 h2 => by omega) I' e
  rw [pk_m1] at Z
  exact Z
theorem fb_exp' : ∀ b : Fin 2, ∀ m : Fin 64, ∀ t : Fin 6, nI (m.val + 64 * b.val) ||| ((1 : Int32) <<< (nI t.val &&& 31)) = nI ((m.val ||| 2 ^ t.val) + 64 * b.val) := by decide +kernel
theorem fb_exp {b m t : Nat} (hb : b < 2) (hm : m < 64) (ht : t < 6) : nI (m + 64 * b) ||| ((1 : Int32) <<< (nI t &&& 31)) = nI ((m ||| 2 ^ t) + 64 * b) := fb_exp' ⟨b, hb⟩ ⟨m, hm⟩ ⟨t, ht⟩
theorem yq_expected {post : Int32 → SY → Prop} {p0 : Int32} (W : gr_W g) (I : ym_Inv g v) (hs : ∀ v' k m, ym_Inv g v' → ym_sh v' = ym_sh v → k ≤ gr_L g → p0 = nI k → m < 64 → (∀ t, t < 6 → (m.testBit t = true ↔ pf_FO g k t 0 0)) → post (nI (m + if 0 < pu_HH g 0 0 k then 64 else 0)) v') (hn : (∀ k, k ≤ gr_L g → p0 ≠ nI k) → post (-1) v) : wpY_expected post v p0 := by
  have hL := W.2.1
  have Kl : ∀ k, k ≤ gr_L g → p0 = nI k → ∀ b, b < 2 → 64 * b = (if 0 < pu_HH g 0 0 k then 64 else 0) → ∀ d t, t + d = 6 → ∀ m, m < 64 → (∀ t', t' < 6 → (m.testBit t' = true ↔ (t' < t ∧ pf_FO g k t' 0 0))) → ∀ {f_goal f_extra f_measured f_known f_more : Int32} {f_sum : Int64} {a_left a_size a_right a_text a_ops a_constants a_heights : Nat → Int32} {a_many : Nat → Int64} {a_chosen a_firstEnd a_secondEnd : Nat → Int32} {a_values a_nodes : Nat → Int64} {a_far a_productive a_useful a_covers : Nat → Int32}, ym_Inv g (nI (gr_P g), nI (gr_L g), f_goal, f_extra, f_measured, f_known, f_more, f_sum, a_left, a_size, a_right, a_text, a_ops, a_constants, a_heights, a_many, a_chosen, a_firstEnd, a_secondEnd, a_values, a_nodes, a_far, a_productive, a_useful, a_covers) → (a_left, a_right, a_ops, a_constants, a_text) = ym_sh v → wY_expected_34 post (nI k) (d + 1) (nI (m + 64 * b)) (nI t) (nI (gr_P g)) (nI (gr_L g)) f_goal f_extra f_measured f_known f_more f_sum a_left a_size a_right a_text a_ops a_constants a_heights a_many a_chosen a_firstEnd a_secondEnd a_values a_nodes a_far a_productive a_useful a_covers := by
    intro k hk ek b hb eb d
    induction d with
    | zero =>
      intro t ht m hm h f1 f2 f3 f4 f5 f6 a1 a2 a3 a4 a5 a6 a7 a8 a9 a10 a11 a12 a13 a14 a15 a16 a17 I' e
      have e6 : t = 6 := by omega
      subst e6
      have z := hs _ k m I' (ym_sh_e.trans e) hk ek hm (fun t ht => (h t ht).trans ⟨fun q => q.2, fun q => ⟨ht, q⟩⟩)
      rw [← eb] at z
      exact br_t (nI_le (a := 6) (b := 6) (by decide) (by decide)) z
    | succ d ih =>
      intro t ht m hm h f1 f2 f3 f4 f5 f6 a1 a2 a3 a4 a5 a6 a7 a8 a9 a10 a11 a12 a13 a14 a15 a16 a17 I' e
      have t6 : t < 6 := by omega
      refine br_f (nI_ge (b := 6) (by omega) (by decide)) (yq_isBt W I' hk t6 (fun I2 e2 => ⟨fun q => br_f (by decide) (nm_r (fb_exp hb hm t6) (nm_r (nI_1 t) (ih (t + 1) (by omega) _ (fb_or hm (fb_sh t6).2).2 (fun t' ht' => ?_) I2 (e2.trans (ym_sh_e.trans e))))), fun q => br_t rfl (nm_r (nI_1 t) (ih (t + 1) (by omega) m hm (fun t' ht' => (h t' ht').trans ?_) I2 (e2.trans (ym_sh_e.trans e))))⟩))
      · rw [Nat.testBit_or, Bool.or_eq_true, h t' ht', Nat.testBit_two_pow, decide_eq_true_eq]
        constructor
        · intro z
          obtain z | z := z
          · exact ⟨by omega, z.2⟩
          · rw [← z]; exact ⟨by omega, q⟩
        · intro z
          by_cases c : t = t'
          · exact Or.inr c
          · exact Or.inl ⟨by omega, z.2⟩
      · constructor
        · exact fun z => ⟨by omega, z.2⟩
        · intro z
          by_cases c : t' = t
          · rw [c] at z; exact absurd z.2 q
          · exact ⟨by omega, z.2⟩
  obtain ⟨f_productions, f_length, f_goal, f_extra, f_measured, f_known, f_more, f_sum, a_left, a_size, a_right, a_text, a_ops, a_constants, a_heights, a_many, a_chosen, a_firstEnd, a_secondEnd, a_values, a_nodes, a_far, a_productive, a_useful, a_covers⟩ := v
  have I0 := I
  obtain ⟨rfl, rfl, _⟩ := I
  refine br_c (fun q => hn (fun k hk => xb_nlt (lo := 0) (by decide) q (by omega) (by omega))) (fun q => ?_)
  obtain ⟨k, hk, rfl⟩ := nI_of q
  refine pk_le k (gr_L g) (fun l => ?_) (fun l => hn (fun k' hk' z => ?_))
  · have hv : pu_V g 0 0 k := ⟨by decide, Nat.zero_le _, l⟩
    refine yq_derivesK W I0 (fun n i j I' e K hv' e0 e1 e2 => ?_) (fun q => absurd ⟨rfl, rfl, rfl⟩ (q 0 0 k hv))
    have hv2 := hv'.2
    have n0 : n = 0 := by
      have : nI 10 = nI (10 + n) := e0
      rw [nI_eq (by decide) (by have := hv'.1; omega)] at this; omega
    have i0 : i = 0 := by
      have : nI 0 = nI i := e1
      rw [nI_eq (by decide) (by omega)] at this; omega
    have j0 : j = k := by rw [nI_eq (by omega) (by omega)] at e2; omega
    subst n0 i0 j0
    have z0 : ∀ t', t' < 6 → ((0 : Nat).testBit t' = true ↔ (t' < 0 ∧ pf_FO g j t' 0 0)) := fun t' _ => by rw [Nat.zero_testBit]; exact ⟨fun q => absurd q (by decide), fun q => absurd q.1 (by omega)⟩
    refine ⟨fun h0 => br_f (by decide) ⟨6 + 1, ?_⟩, fun h0 => br_t rfl ⟨6 + 1, ?_⟩⟩
    · exact Kl j l rfl 1 (by decide) (by rw [if_pos h0]) 6 0 rfl 0 (by decide) z0 I' e
    · exact Kl j l rfl 0 (by decide) (by rw [if_neg h0]) 6 0 rfl 0 (by decide) z0 I' e
  · rw [nI_eq hk (by omega)] at z; omega
theorem yq_traits {post : Int32 → SY → Prop} {p0 : Int32} (W : gr_W g) (I : ym_Inv g v) (hs : ∀ v' n a b c, ym_Inv g v' → ym_sh v' = ym_sh v → n < 5 → p0 = nI (10 + n) → ((a = 1 ∧ pf_PR g n) ∨ (a = 0 ∧ ¬ pf_PR g n)) → ((b = 2 ∧ 0 < pu_HH g n 0 0) ∨ (b = 0 ∧ ¬ 0 < pu_HH g n 0 0)) → ((c = 4 ∧ pf_US g n) ∨ (c = 0 ∧ ¬ pf_US g n)) → post (nI (a + b + c)) v') (hn : (∀ n, n < 5 → p0 ≠ nI (10 + n)) → post (-1) v) : wpY_traits post v p0 := by
  obtain ⟨f_productions, f_length, f_goal, f_extra, f_measured, f_known, f_more, f_sum, a_left, a_size, a_right, a_text, a_ops, a_constants, a_heights, a_many, a_chosen, a_firstEnd, a_secondEnd, a_values, a_nodes, a_far, a_productive, a_useful, a_covers⟩ := v
  have I0 := I
  obtain ⟨rfl, rfl, tx, mR, mF, mZ, mO, hk⟩ := I
  unfold wpY_traits
  refine ys_nt (fun n hn5 e0 => br_f (by decide) ?_) (fun q => br_t rfl (hn q))
  subst e0
  refine ys_findProd (g := g) W mR mF mZ (fun pr Pr => ys_traits (g := g) W hn5 mR mF mZ Pr (fun us a c ha hc => nm_r (nI_add a c) ?_))
  have hv : pu_V g n 0 0 := ⟨hn5, Nat.le_refl _, Nat.zero_le _⟩
  refine yq_derivesK (g := g) W ⟨rfl, rfl, tx, mR, mF, mZ, mO, hk⟩ (fun n' i j I' e K hv' e0 e1 e2 => ?_) (fun q => absurd ⟨rfl, rfl, rfl⟩ (q n 0 0 hv))
  have hv2 := hv'.2
  have hL := W.2.1
  have n0 : n' = n := by rw [nI_eq (by omega) (by have := hv'.1; omega)] at e0; omega
  have i0 : i = 0 := by
    have : nI 0 = nI i := e1
    rw [nI_eq (by decide) (by omega)] at this; omega
  have j0 : j = 0 := by
    have : nI 0 = nI j := e2
    rw [nI_eq (by decide) (by omega)] at this; omega
  subst n0 i0 j0
  refine ⟨fun h0 => br_f (by decide) ?_, fun h0 => br_t rfl ?_⟩
  · have z := hs _ n' a 2 c I' (ym_sh_e.trans (e.trans (ym_sh_e.trans ym_sh_e.symm))) hn5 rfl ha (Or.inl ⟨rfl, h0⟩) hc
    rw [show (2 : Int32) = nI 2 from rfl, nI_add, show a + c + 2 = a + 2 + c by omega]
    exact z
  · exact hs _ n' a 0 c I' (ym_sh_e.trans (e.trans (ym_sh_e.trans ym_sh_e.symm))) hn5 rfl ha (Or.inr ⟨rfl, h0⟩) hc
end
