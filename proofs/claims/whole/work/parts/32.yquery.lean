/-! the reference: its state, its questions -/
def ym_Inv (g : gr_G) (v : SY) : Prop := match v with
  | (f_productions, f_length, f_goal, f_extra, f_measured, f_known, f_more, f_sum, a_left, a_size, a_right, a_text, a_ops, a_constants, a_heights, a_many, a_chosen, a_firstEnd, a_secondEnd, a_values, a_nodes, a_far, a_productive, a_useful, a_covers) => f_productions = nI (gr_P g) ∧ f_length = nI (gr_L g) ∧ xm_T g a_text ∧ xm_R g a_right ∧ xm_F g a_left ∧ ym_Z g a_size ∧ (∀ p, p < gr_P g → ∃ o, o < 8 ∧ a_ops p = nI o) ∧ (f_known ≠ 0 → ym_Known g a_ops a_constants a_heights a_many a_chosen a_firstEnd a_secondEnd a_values a_nodes ∧ (f_measured ≠ 0 → ym_Far g a_far))
def ym_sh (v : SY) : sh_T := match v with
  | (f_productions, f_length, f_goal, f_extra, f_measured, f_known, f_more, f_sum, a_left, a_size, a_right, a_text, a_ops, a_constants, a_heights, a_many, a_chosen, a_firstEnd, a_secondEnd, a_values, a_nodes, a_far, a_productive, a_useful, a_covers) => (a_left, a_right, a_ops, a_constants, a_text)
theorem ym_sh_e {f_productions f_length f_goal f_extra f_measured f_known f_more : Int32} {f_sum : Int64} {a_left a_size a_right a_text a_ops a_constants a_heights : Nat → Int32} {a_many : Nat → Int64} {a_chosen a_firstEnd a_secondEnd : Nat → Int32} {a_values a_nodes : Nat → Int64} {a_far a_productive a_useful a_covers : Nat → Int32} : ym_sh (f_productions, f_length, f_goal, f_extra, f_measured, f_known, f_more, f_sum, a_left, a_size, a_right, a_text, a_ops, a_constants, a_heights, a_many, a_chosen, a_firstEnd, a_secondEnd, a_values, a_nodes, a_far, a_productive, a_useful, a_covers) = (a_left, a_right, a_ops, a_constants, a_text) := rfl
section
variable {g : gr_G} {v : SY}
theorem yq_know {post : SY → Prop} (W : gr_W g) (I : ym_Inv g v) (h : ∀ {f_goal f_extra f_measured f_known f_more : Int32} {f_sum : Int64} {a_left a_size a_right a_text a_ops a_constants a_heights : Nat → Int32} {a_many : Nat → Int64} {a_chosen a_firstEnd a_secondEnd : Nat → Int32} {a_values a_nodes : Nat → Int64} {a_far a_productive a_useful a_covers : Nat → Int32}, ym_Inv g (nI (gr_P g), nI (gr_L g), f_goal, f_extra, f_measured, f_known, f_more, f_sum, a_left, a_size, a_right, a_text, a_ops, a_constants, a_heights, a_many, a_chosen, a_firstEnd, a_secondEnd, a_values, a_nodes, a_far, a_productive, a_useful, a_covers) → (a_left, a_right, a_ops, a_constants, a_text) = ym_sh v → ym_Known g a_ops a_constants a_heights a_many a_chosen a_firstEnd a_secondEnd a_values a_nodes → (f_measured ≠ 0 → ym_Far g a_far) → f_known ≠ 0 → post (nI (gr_P g), nI (gr_L g), f_goal, f_extra, f_measured, f_known, f_more, f_sum, a_left, a_size, a_right, a_text, a_ops, a_constants, a_heights, a_many, a_chosen, a_firstEnd, a_secondEnd, a_values, a_nodes, a_far, a_productive, a_useful, a_covers)) : wpY_know post v := by
  obtain ⟨f_productions, f_length, f_goal, f_extra, f_measured, f_known, f_more, f_sum, a_left, a_size, a_right, a_text, a_ops, a_constants, a_heights, a_many, a_chosen, a_firstEnd, a_secondEnd, a_values, a_nodes, a_far, a_productive, a_useful, a_covers⟩ := v
  obtain ⟨rfl, rfl, tx, mR, mF, mZ, mO, hk⟩ := I
  exact ys_know (g := g) (Q := ym_Far g a_far) W tx mR mF mZ mO hk (fun f1 f2 f3 s1 a1 a2 a3 a4 a5 a6 a7 kn K Q => h ⟨rfl, rfl, tx, mR, mF, mZ, mO, fun _ => ⟨K, Q⟩⟩ ym_sh_e.symm K Q kn)
theorem yq_heightK {post : Int32 → SY → Prop} {p0 p1 p2 : Int32} (W : gr_W g) (I : ym_Inv g v) (hs : ∀ {f_goal f_extra f_measured f_known f_more : Int32} {f_sum : Int64} {a_left a_size a_right a_text a_ops a_constants a_heights : Nat → Int32} {a_many : Nat → Int64} {a_chosen a_firstEnd a_secondEnd : Nat → Int32} {a_values a_nodes : Nat → Int64} {a_far a_productive a_useful a_covers : Nat → Int32} (n i j : Nat), ym_Inv g (nI (gr_P g), nI (gr_L g), f_goal, f_extra, f_measured, f_known, f_more, f_sum, a_left, a_size, a_right, a_text, a_ops, a_constants, a_heights, a_many, a_chosen, a_firstEnd, a_secondEnd, a_values, a_nodes, a_far, a_productive, a_useful, a_covers) → (a_left, a_right, a_ops, a_constants, a_text) = ym_sh v → ym_Known g a_ops a_constants a_heights a_many a_chosen a_firstEnd a_secondEnd a_values a_nodes → pu_V g n i j → p0 = nI (10 + n) → p1 = nI i → p2 = nI j → post (nI (pu_HH g n i j)) (nI (gr_P g), nI (gr_L g), f_goal, f_extra, f_measured, f_known, f_more, f_sum, a_left, a_size, a_right, a_text, a_ops, a_constants, a_heights, a_many, a_chosen, a_firstEnd, a_secondEnd, a_values, a_nodes, a_far, a_productive, a_useful, a_covers)) (hn : (∀ n i j, pu_V g n i j → ¬ (p0 = nI (10 + n) ∧ p1 = nI i ∧ p2 = nI j)) → post 0 v) : wpY_height post v p0 p1 p2 := by
  obtain ⟨f_productions, f_length, f_goal, f_extra, f_measured, f_known, f_more, f_sum, a_left, a_size, a_right, a_text, a_ops, a_constants, a_heights, a_many, a_chosen, a_firstEnd, a_secondEnd, a_values, a_nodes, a_far, a_productive, a_useful, a_covers⟩ := v
  have I0 := I
  obtain ⟨rfl, rfl, _⟩ := I
  unfold wpY_height
  refine ys_span W (fun n i j hv e0 e1 e2 => br_f (by decide) ?_) (fun q => br_t rfl (hn q))
  refine yq_know W I0 (fun I' e K Q kn => ys_cell n i j e0 e1 e2 ⟨vp_in_nI (cy_lt W hv) (by decide), ?_⟩)
  rw [nI_clamp (by have := cy_lt W hv; omega), K.1.2.1 n i j hv]
  exact hs n i j I' e K hv e0 e1 e2
theorem yq_derivesK {post : Int32 → SY → Prop} {p0 p1 p2 : Int32} (W : gr_W g) (I : ym_Inv g v) (hs : ∀ {f_goal f_extra f_measured f_known f_more : Int32} {f_sum : Int64} {a_left a_size a_right a_text a_ops a_constants a_heights : Nat → Int32} {a_many : Nat → Int64} {a_chosen a_firstEnd a_secondEnd : Nat → Int32} {a_values a_nodes : Nat → Int64} {a_far a_productive a_useful a_covers : Nat → Int32} (n i j : Nat), ym_Inv g (nI (gr_P g), nI (gr_L g), f_goal, f_extra, f_measured, f_known, f_more, f_sum, a_left, a_size, a_right, a_text, a_ops, a_constants, a_heights, a_many, a_chosen, a_firstEnd, a_secondEnd, a_values, a_nodes, a_far, a_productive, a_useful, a_covers) → (a_left, a_right, a_ops, a_constants, a_text) = ym_sh v → ym_Known g a_ops a_constants a_heights a_many a_chosen a_firstEnd a_secondEnd a_values a_nodes → pu_V g n i j → p0 = nI (10 + n) → p1 = nI i → p2 = nI j → (0 < pu_HH g n i j → post 1 (nI (gr_P g), nI (gr_L g), f_goal, f_extra, f_measured, f_known, f_more, f_sum, a_left, a_size, a_right, a_text, a_ops, a_constants, a_heights, a_many, a_chosen, a_firstEnd, a_secondEnd, a_values, a_nodes, a_far, a_productive, a_useful, a_covers)) ∧ (¬ 0 < pu_HH g n i j → post 0 (nI (gr_P g), nI (gr_L g), f_goal, f_extra, f_measured, f_known, f_more, f_sum, a_left, a_size, a_right, a_text, a_ops, a_constants, a_heights, a_many, a_chosen, a_firstEnd, a_secondEnd, a_values, a_nodes, a_far, a_productive, a_useful, a_covers))) (hn : (∀ n i j, pu_V g n i j → ¬ (p0 = nI (10 + n) ∧ p1 = nI i ∧ p2 = nI j)) → post 0 v) : wpY_derives post v p0 p1 p2 := by
  obtain ⟨f_productions, f_length, f_goal, f_extra, f_measured, f_known, f_more, f_sum, a_left, a_size, a_right, a_text, a_ops, a_constants, a_heights, a_many, a_chosen, a_firstEnd, a_secondEnd, a_values, a_nodes, a_far, a_productive, a_useful, a_covers⟩ := v
  unfold wpY_derives
  refine yq_heightK W I (fun n i j I' e K hv e0 e1 e2 => ?_) (fun q => br_t (by decide) (hn q))
  have H := hs n i j I' e K hv e0 e1 e2
  have hb := (K.1.1 n i j hv).2.2
  exact pk_le (pu_HH g n i j) 0 (fun c => H.2 (by omega)) (fun c => H.1 c)
theorem yq_derives {post : Int32 → SY → Prop} {p0 p1 p2 : Int32} (W : gr_W g) (I : ym_Inv g v) (hs : ∀ v' n i j, ym_Inv g v' → ym_sh v' = ym_sh v → pu_V g n i j → p0 = nI (10 + n) → p1 = nI i → p2 = nI j → post (if 0 < pu_HH g n i j then 1 else 0) v') (hn : (∀ n i j, pu_V g n i j → ¬ (p0 = nI (10 + n) ∧ p1 = nI i ∧ p2 = nI j)) → post 0 v) : wpY_derives post v p0 p1 p2 :=
  yq_derivesK W I (fun n i j I' e K hv e0 e1 e2 => ⟨fun c => xb_pv (if_pos c) (hs _ n i j I' (ym_sh_e.trans e) hv e0 e1 e2), fun c => xb_pv (if_neg c) (hs _ n i j I' (ym_sh_e.trans e) hv e0 e1 e2)⟩) hn
theorem yq_height {post : Int32 → SY → Prop} {p0 p1 p2 : Int32} (W : gr_W g) (I : ym_Inv g v) (hs : ∀ v' n i j, ym_Inv g v' → ym_sh v' = ym_sh v → pu_V g n i j → p0 = nI (10 + n) → p1 = nI i → p2 = nI j → post (nI (pu_HH g n i j)) v') (hn : (∀ n i j, pu_V g n i j → ¬ (p0 = nI (10 + n) ∧ p1 = nI i ∧ p2 = nI j)) → post 0 v) : wpY_height post v p0 p1 p2 :=
  yq_heightK W I (fun n i j I' e K hv e0 e1 e2 => hs _ n i j I' (ym_sh_e.trans e) hv e0 e1 e2) hn
theorem yq_trees {post : Int32 → SY → Prop} {p0 p1 p2 : Int32} (W : gr_W g) (I : ym_Inv g v) (hs : ∀ v' n i j, ym_Inv g v' → ym_sh v' = ym_sh v → pu_V g n i j → p0 = nI (10 + n) → p1 = nI i → p2 = nI j → post (xc_v (pu_HH g n i j) (pu_CC g n i j)) v') (hn : (∀ n i j, pu_V g n i j → ¬ (p0 = nI (10 + n) ∧ p1 = nI i ∧ p2 = nI j)) → post 0 v) : wpY_trees post v p0 p1 p2 := by
  obtain ⟨f_productions, f_length, f_goal, f_extra, f_measured, f_known, f_more, f_sum, a_left, a_size, a_right, a_text, a_ops, a_constants, a_heights, a_many, a_chosen, a_firstEnd, a_secondEnd, a_values, a_nodes, a_far, a_productive, a_useful, a_covers⟩ := v
  have I0 := I
  obtain ⟨rfl, rfl, _⟩ := I
  unfold wpY_trees
  refine ys_span W (fun n i j hv e0 e1 e2 => br_f (by decide) ?_) (fun q => br_t rfl (hn q))
  have hl := cy_lt W hv
  have hin : vp_in (nI (cy n i j)) 980 := vp_in_nI hl (by decide)
  have ec : (nI (cy n i j)).toNatClampNeg = cy n i j := nI_clamp (by omega)
  refine yq_know W I0 (fun I' e K Q kn => ys_cell n i j e0 e1 e2 ⟨hin, ?_⟩)
  have z := hs _ n i j I' (ym_sh_e.trans e) hv e0 e1 e2
  have hb := (K.1.1 n i j hv).2.2
  have fb := pu_CI_le K.2.1.1.1 hv
  rw [ec, K.1.2.1 n i j hv, K.2.1.2 n i j hv]
  unfold xc_v at z
  refine pk_le (pu_HH g n i j) 0 (fun c => ⟨hin, ?_⟩) (fun c => ⟨hin, ek_if (d := pu_CC g n i j = 0) (pk_lEQ (b := 0) (by omega) (by decide)) (fun c2 => ?_) (fun c2 => ⟨hin, ?_⟩)⟩)
  · rw [if_pos (by omega)] at z
    rw [K.2.1.1.1.1 n i j hv (by omega), lN_i]; exact z
  · rw [if_neg (by omega), if_pos c2] at z; exact z
  · rw [if_neg (by omega), if_neg c2] at z
    rw [lN_i]; exact z
theorem yq_longest {post : Int32 → SY → Prop} {p0 p1 : Int32} (W : gr_W g) (I : ym_Inv g v) (hs : ∀ v' n i, ym_Inv g v' → ym_sh v' = ym_sh v → n < 5 → i ≤ gr_L g → p0 = nI (10 + n) → p1 = nI i → (∀ j, i ≤ j → j ≤ gr_L g → 0 < pu_HH g n i j → (∀ j', j < j' → j' ≤ gr_L g → pu_HH g n i j' = 0) → post (nI j) v') ∧ ((∀ j, i ≤ j → j ≤ gr_L g → pu_HH g n i j = 0) → post (-1) v')) (hn : (∀ n i, n < 5 → i ≤ gr_L g → ¬ (p0 = nI (10 + n) ∧ p1 = nI i)) → post (-1) v) : wpY_longest post v p0 p1 := by
  obtain ⟨f_productions, f_length, f_goal, f_extra, f_measured, f_known, f_more, f_sum, a_left, a_size, a_right, a_text, a_ops, a_constants, a_heights, a_many, a_chosen, a_firstEnd, a_secondEnd, a_values, a_nodes, a_far, a_productive, a_useful, a_covers⟩ := v
  have I0 := I
  obtain ⟨rfl, rfl, _⟩ := I
  have hL := W.2.1
  unfold wpY_longest
  refine ys_span W (fun n i j hv e0 e1 e2 => br_f (by decide) ?_) (fun q => br_t rfl (hn (fun n i h1 h2 z => q n i i ⟨h1, Nat.le_refl _, h2⟩ ⟨z.1, z.2, z.2⟩)))
  have hi : i ≤ gr_L g := by have := hv.2; omega
  refine yq_know W I0 (fun {f1 f2 f3 f4 f5 f6 a1 a2 a3 a4 a5 a6 a7 a8 a9 a10 a11 a12 a13 a14 a15 a16 a17} I' e K Q kn => ?_)
  have H := hs _ n i I' (ym_sh_e.trans e) hv.1 hi e0 e1
  subst e0 e1
  have Kl : ∀ d j, j + d = gr_L g + 1 → i ≤ j → ∀ b : Int32, ((b = -1 ∧ ∀ j', i ≤ j' → j' < j → pu_HH g n i j' = 0) ∨ (∃ j0, b = nI j0 ∧ i ≤ j0 ∧ j0 < j ∧ 0 < pu_HH g n i j0 ∧ ∀ j', j0 < j' → j' < j → pu_HH g n i j' = 0)) → wY_longest_21 post (nI (10 + n)) (nI i) (nI (gr_P g)) (nI (gr_L g)) f1 f2 f3 f4 f5 f6 a1 a2 a3 a4 a5 a6 a7 a8 a9 a10 a11 a12 a13 a14 a15 a16 a17 (d + 1) b (nI j) := by
    intro d
    induction d with
    | zero =>
      intro j hj hij b hb
      refine br_t (nI_lt (by omega) (by omega)) ?_
      obtain ⟨rfl, q⟩ | ⟨j0, rfl, h1, h2, h3, h4⟩ := hb
      · exact H.2 (fun j' h1 h2 => q j' h1 (by omega))
      · exact H.1 j0 h1 (by omega) h3 (fun j' q1 q2 => h4 j' q1 (by omega))
    | succ d ih =>
      intro j hj hij b hb
      have hvj : pu_V g n i j := ⟨hv.1, hij, by omega⟩
      have hl := cy_lt W hvj
      have hbb := (K.1.1 _ _ _ hvj).2.2
      refine br_f (nI_nlt (by omega) (by omega)) (ys_cell n i j rfl rfl rfl ⟨vp_in_nI hl (by decide), ?_⟩)
      rw [nI_clamp (by omega), K.1.2.1 _ _ _ hvj]
      refine pk_le (pu_HH g n i j) 0 (fun c => nm_r (nI_1 j) (ih (j + 1) (by omega) (by omega) b ?_)) (fun c => nm_r (nI_1 j) (ih (j + 1) (by omega) (by omega) (nI j) (Or.inr ⟨j, rfl, hij, by omega, c, fun j' h1 h2 => by omega⟩)))
      obtain ⟨rfl, q⟩ | ⟨j0, rfl, h1, h2, h3, h4⟩ := hb
      · refine Or.inl ⟨rfl, fun j' h1 h2 => ?_⟩
        by_cases z : j' = j
        · rw [z]; omega
        · exact q j' h1 (by omega)
      · refine Or.inr ⟨j0, rfl, h1, by omega, h3, fun j' q1 q2 => ?_⟩
        by_cases z : j' = j
        · rw [z]; omega
        · exact h4 j' q1 (by omega)
  exact ⟨gr_L g + 1 - i + 1, Kl (gr_L g + 1 - i) i (by omega) (Nat.le_refl _) (-1) (Or.inl ⟨rfl, fun j' h1 h2 => by omega⟩)⟩
theorem yq_value {post : Int64 → SY → Prop} {p0 p1 p2 : Int32} (W : gr_W g) (I : ym_Inv g v) (hs : ∀ v' n i j, ym_Inv g v' → ym_sh v' = ym_sh v → pu_V g n i j → p0 = nI (10 + n) → p1 = nI i → p2 = nI j → post (pu_VL g (ym_sh v).2.2.1 (ym_sh v).2.2.2.1 n i j) v') (hn : (∀ n i j, pu_V g n i j → ¬ (p0 = nI (10 + n) ∧ p1 = nI i ∧ p2 = nI j)) → post ev_N v) : wpY_value post v p0 p1 p2 := by
  obtain ⟨f_productions, f_length, f_goal, f_extra, f_measured, f_known, f_more, f_sum, a_left, a_size, a_right, a_text, a_ops, a_constants, a_heights, a_many, a_chosen, a_firstEnd, a_secondEnd, a_values, a_nodes, a_far, a_productive, a_useful, a_covers⟩ := v
  unfold wpY_value
  refine yq_derivesK W I (fun n i j I' e K hv e0 e1 e2 => ⟨fun c => br_f (by decide) ?_, fun c => br_t rfl ?_⟩) (fun q => br_t rfl (hn q))
  · have hl := cy_lt W hv
    refine ys_cell n i j e0 e1 e2 ⟨vp_in_nI hl (by decide), ?_⟩
    rw [nI_clamp (by omega), (K.2.2 n i j hv c trivial).2.2.2.1]
    rw [← e] at hs
    exact hs _ n i j I' ym_sh_e hv e0 e1 e2
  · have z := hs _ n i j I' (ym_sh_e.trans e) hv e0 e1 e2
    rw [pu_VL_0 (by omega)] at z
    exact z
theorem pu_lft_0 {f : Nat → Nat} : ∀ d, d ≤ 3 → (∀ m, 3 - d ≤ m → m < 3 → f m = 0) → pu_lft f d = 0 := by
  intro d
  induction d with
  | zero => intro _ _; rfl
  | succ d ih =>
    intro hd h
    show f (2 - d) + pu_lft f d = 0
    rw [h (2 - d) (by omega) (by omega), ih (by omega) (fun m h1 h2 => h m (by omega) h2)]
end
section
variable {g : gr_G} {f_goal f_extra f_measured f_known f_more : Int32} {f_sum : Int64} {a_left a_size a_right a_text a_ops a_constants a_heights : Nat → Int32} {a_many : Nat → Int64} {a_chosen a_firstEnd a_secondEnd : Nat → Int32} {a_values a_nodes : Nat → Int64} {a_far a_productive a_useful a_covers : Nat → Int32}
theorem ys_node61 {post : Int32 → SY → Prop} (W : gr_W g) (mR : xm_R g a_right) (mZ : ym_Z g a_size) (Kn : ym_Known g a_ops a_constants a_heights a_many a_chosen a_firstEnd a_secondEnd a_values a_nodes) : ∀ f n i j k, k < f → pu_V g n i j → 0 < pu_HH g n i j → pu_SZ g n i j ≤ 1000000000 → k < pu_SZ g n i j → post (nI (10000 * pu_cp g (pu_ND g n i j k).1 (pu_ND g n i j k).2.1 (pu_ND g n i j k).2.2 + 100 * (pu_ND g n i j k).2.1 + (pu_ND g n i j k).2.2)) (nI (gr_P g), nI (gr_L g), f_goal, f_extra, f_measured, f_known, f_more, f_sum, a_left, a_size, a_right, a_text, a_ops, a_constants, a_heights, a_many, a_chosen, a_firstEnd, a_secondEnd, a_values, a_nodes, a_far, a_productive, a_useful, a_covers) → wY_node_61 post (nI (gr_P g)) (nI (gr_L g)) f_goal f_extra f_measured f_known f_more f_sum a_left a_size a_right a_text a_ops a_constants a_heights a_many a_chosen a_firstEnd a_secondEnd a_values a_nodes a_far a_productive a_useful a_covers f (nI (cy n i j)) (lN k) := by
  have hL := W.2.1
  have hP := W.1
  have S := Kn.1.1
  have X := pu_CHX_of W S
  intro f
  induction f with
  | zero => intro n i j k hk; omega
  | succ f ih =>
    intro n i j k hkf hv h0 hz hk hp
    have hl := cy_lt W hv
    have hin : vp_in (nI (cy n i j)) 980 := vp_in_nI hl (by decide)
    have ec : (nI (cy n i j)).toNatClampNeg = cy n i j := nI_clamp (by omega)
    obtain ⟨e1, e2, e3, _, _⟩ := Kn.2.2 n i j hv h0 trivial
    have hcp : pu_cp g n i j < gr_P g := (pu_part W X hv h0 (m := 0) (by decide)).1
    have d2 : (nI (cy n i j) - nI (cy n i j) / 196 * 196) / 14 = nI i := by
      rw [show (196 : Int32) = nI 196 from rfl, pk_rem (by omega) (by decide) (by decide), show (14 : Int32) = nI 14 from rfl, pk_div (by omega) (by decide) (by decide), (cy_dec W hv).2.1]
    have d3 : nI (cy n i j) - nI (cy n i j) / 14 * 14 = nI j := by
      rw [show (14 : Int32) = nI 14 from rfl, pk_rem (by omega) (by decide) (by decide), (cy_dec W hv).2.2]
    refine ek_if (d := k ≤ 0) (pk_lLE (b := 0) (by omega) (by decide)) (fun l => ⟨hin, by decide, by decide, by decide, ?_⟩) (fun l => ⟨hin, nm_r (e' := nI (pu_cp g n i j)) (by rw [ec]; exact e1) ⟨by decide, by decide, nm_r d2 ⟨by decide, nm_r d3 (nm_r (e' := lN (k - 1)) (by rw [show (1 : Int64) = lN 1 from rfl, lN_sub (by omega)]) ⟨3 + 1 + 1, ?_⟩)⟩⟩⟩)
    · have : k = 0 := by omega
      subst this
      rw [pu_ND_0] at hp
      rw [ec, e1, d2, d3, show (10000 : Int32) = nI 10000 from rfl, show (100 : Int32) = nI 100 from rfl, pk_mul, pk_mul, nI_add, nI_add]
      exact hp
    · obtain ⟨m1, hm1, nt1, k1, hk1, l1, esl, eN⟩ := pu_ND_s W X hv h0 (by omega) hk
      obtain ⟨v1, h01, hlt1⟩ := (pu_part W X hv h0 hm1).2.2.2.2 nt1
      have sl1 := pu_SZ_pt W X hv h0 hm1
      rw [pu_pz_t nt1] at sl1
      have fin : wY_node_61 post (nI (gr_P g)) (nI (gr_L g)) f_goal f_extra f_measured f_known f_more f_sum a_left a_size a_right a_text a_ops a_constants a_heights a_many a_chosen a_firstEnd a_secondEnd a_values a_nodes a_far a_productive a_useful a_covers f (nI (cy (pu_s g n i j m1 - 10) (pu_b g n i j m1) (pu_e g n i j m1))) (lN k1) := ih _ _ _ k1 (by omega) v1 h01 (by omega) l1 (by rw [← eN]; exact hp)
      have ez : a_size (nI (pu_cp g n i j)).toNatClampNeg = nI (pu_k g (pu_cp g n i j)) := by rw [nI_clamp (by omega)]; exact mZ _ hcp
      have inp : vp_in (nI (pu_cp g n i j)) 12 := vp_in_nI (by omega) (by decide)
      have k3 := pu_k_le g (pu_cp g n i j)
      have K101 : ∀ d m, m + d = 3 → ∀ k, k < 1000000000 → k < pu_lft (pu_pz g (pu_SZ g) n i j) d → pu_sl g n i j d k = (pu_s g n i j m1 - 10, pu_b g n i j m1, pu_e g n i j m1, k1) → wY_node_101 post (wY_node_61 post (nI (gr_P g)) (nI (gr_L g)) f_goal f_extra f_measured f_known f_more f_sum a_left a_size a_right a_text a_ops a_constants a_heights a_many a_chosen a_firstEnd a_secondEnd a_values a_nodes a_far a_productive a_useful a_covers f) (nI (cy n i j)) (nI (pu_cp g n i j)) (nI i) (nI j) (nI (gr_P g)) (nI (gr_L g)) f_goal f_extra f_measured f_known f_more f_sum a_left a_size a_right a_text a_ops a_constants a_heights a_many a_chosen a_firstEnd a_secondEnd a_values a_nodes a_far a_productive a_useful a_covers (d + 1 + 1) (lN k) (-1) (nI m) := by
        intro d
        induction d with
        | zero => intro m hm k hk1 hk; exact absurd hk (Nat.not_lt_zero _)
        | succ d ihd =>
          intro m hm k hk1 hk hsl
          have em : m = 2 - d := by omega
          have hm3 : m < 3 := by omega
          have mk : m < pu_k g (pu_cp g n i j) := by
            by_cases c : m < pu_k g (pu_cp g n i j)
            · exact c
            · exfalso
              rw [pu_lft_0 (d + 1) (by omega) (fun q h1 h2 => pu_pz_f (fun nt => ?_))] at hk
              · omega
              · unfold pu_nt pu_s at nt
                have kc := pu_k_c W hcp
                have : q = 0 ∨ q = 1 ∨ q = 2 := by omega
                unfold pu_cp at *
                obtain rfl | rfl | rfl := this
                · have nt' : 10 ≤ gr_R g (3 * (pu_ch g n i j).1) ∧ gr_R g (3 * (pu_ch g n i j).1) < 99 := nt
                  omega
                · omega
                · omega
          subst em
          have hk' : k < pu_pz g (pu_SZ g) n i j (2 - d) + pu_lft (pu_pz g (pu_SZ g) n i j) d := hk
          obtain ⟨_, ok, hbe, heL, hpt⟩ := pu_part W X hv h0 hm3
          refine ⟨inp, br_f (by rw [ez]; exact nI_ge mk (by omega)) (br_f (by decide) ⟨xb_i (by omega) hm3, nm_r (e' := sy_m (pu_s g n i j (2 - d))) (xm_Rm W mR hcp hm3) ?_⟩)⟩
          refine ys_pb W hv hm3 e2 e3 (ys_pe W hv hm3 e2 e3 (ek_if (sy_lt ok) (fun c => ?_) (fun c => ?_)))
          · have nt : ¬ pu_nt (pu_s g n i j (2 - d)) := by unfold pu_nt; omega
            rw [pu_pz_f nt] at hk'
            exact nm_r (nI_1 (2 - d)) (ihd (2 - d + 1) (by omega) k hk1 (by omega) ((pu_sl_f nt).symm.trans hsl))
          · have nt : pu_nt (pu_s g n i j (2 - d)) := by unfold pu_nt; unfold pu_ok at ok; omega
            obtain ⟨v', h0', hlt⟩ := hpt nt
            have hl' := cy_lt W v'
            have sl := pu_SZ_pt W X hv h0 hm3
            rw [pu_pz_t nt] at sl hk'
            have en : a_nodes (nI (cy (pu_s g n i j (2 - d) - 10) (pu_b g n i j (2 - d)) (pu_e g n i j (2 - d)))).toNatClampNeg = lN (pu_SZ g (pu_s g n i j (2 - d) - 10) (pu_b g n i j (2 - d)) (pu_e g n i j (2 - d))) := by
              rw [nI_clamp (by omega), (Kn.2.2 _ _ _ v' h0' trivial).2.2.2.2]
              unfold pu_c2; rw [if_pos (by omega)]
            refine ys_cell (pu_s g n i j (2 - d) - 10) (pu_b g n i j (2 - d)) (pu_e g n i j (2 - d)) (sy_nt nt) rfl rfl ⟨vp_in_nI hl' (by decide), ?_⟩
            rw [en]
            refine ek_if (d := pu_SZ g (pu_s g n i j (2 - d) - 10) (pu_b g n i j (2 - d)) (pu_e g n i j (2 - d)) ≤ k) (pk_lLE (by omega) (by omega)) (fun l => ⟨vp_in_nI hl' (by decide), nm_r (e' := lN (k - pu_SZ g (pu_s g n i j (2 - d) - 10) (pu_b g n i j (2 - d)) (pu_e g n i j (2 - d)))) (lN_sub l) (nm_r (nI_1 (2 - d)) (ihd (2 - d + 1) (by omega) _ (by omega) (by omega) ((pu_sl_m nt (by omega)).symm.trans hsl)))⟩) (fun l => nm_r (nI_1 (2 - d)) ?_)
            have q := (pu_sl_t nt (by omega)).symm.trans hsl
            injection q with q1 q
            injection q with q2 q
            injection q with q3 q4
            rw [q1, q2, q3, q4]
            have hl1 := cy_lt W v1
            refine ⟨inp, br_c (fun _ => fin) (fun _ => br_t (nI_pos' (by omega)) fin)⟩
      exact K101 3 0 rfl (k - 1) (by omega) (pu_lft3 W X hv h0 (by omega) hk) esl
end
