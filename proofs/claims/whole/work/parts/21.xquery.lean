/-! the component: its state, its questions -/
def xm_Inv (g : gr_G) (u : SX) : Prop := match u with
  | (f_productions, f_length, f_chartReady, f_countsReady, f_distancesReady, f_followsReady, f_filled, a_lefts, a_rights, a_ops, a_constants, a_text, a_heights, a_chosen, a_firstEnds, a_secondEnds, a_order, a_counts, a_distances, a_follows, a_sizes, a_values, a_operands, a_productive, a_used) => f_productions = nI (gr_P g) ∧ f_length = nI (gr_L g) ∧ xm_T g a_text ∧ xm_R g a_rights ∧ xm_F g a_lefts ∧ (∀ p, p < gr_P g → ∃ o, o < 8 ∧ a_ops p = nI o) ∧ (f_chartReady ≠ 0 → ∃ fl, f_filled = nI fl ∧ xm_Chart g a_heights a_chosen a_firstEnds a_secondEnds a_order fl) ∧ (f_countsReady ≠ 0 → xm_Cts g a_counts) ∧ (f_distancesReady ≠ 0 → xm_Dist g a_distances) ∧ (f_followsReady ≠ 0 → xm_Fo g a_follows)
abbrev sh_T : Type := (Nat → Int32) × (Nat → Int32) × (Nat → Int32) × (Nat → Int32) × (Nat → Int32)
def xm_sh (u : SX) : sh_T := match u with
  | (f_productions, f_length, f_chartReady, f_countsReady, f_distancesReady, f_followsReady, f_filled, a_lefts, a_rights, a_ops, a_constants, a_text, a_heights, a_chosen, a_firstEnds, a_secondEnds, a_order, a_counts, a_distances, a_follows, a_sizes, a_values, a_operands, a_productive, a_used) => (a_lefts, a_rights, a_ops, a_constants, a_text)
theorem xm_sh_e {f_productions f_length f_chartReady f_countsReady f_distancesReady f_followsReady f_filled : Int32} {a_lefts a_rights a_ops a_constants a_text a_heights a_chosen a_firstEnds a_secondEnds a_order a_counts a_distances a_follows a_sizes : Nat → Int32} {a_values a_operands : Nat → Int64} {a_productive a_used : Nat → Int32} : xm_sh (f_productions, f_length, f_chartReady, f_countsReady, f_distancesReady, f_followsReady, f_filled, a_lefts, a_rights, a_ops, a_constants, a_text, a_heights, a_chosen, a_firstEnds, a_secondEnds, a_order, a_counts, a_distances, a_follows, a_sizes, a_values, a_operands, a_productive, a_used) = (a_lefts, a_rights, a_ops, a_constants, a_text) := rfl
theorem xb_pv {σ ρ : Type} {post : ρ → σ → Prop} {a b : ρ} {u : σ} (e : a = b) (h : post a u) : post b u := e ▸ h
section
variable {g : gr_G} {u : SX}
/-- needChart, from any state -/
theorem xq_chart {post : SX → Prop} (W : gr_W g) (I : xm_Inv g u) (h : ∀ {f_chartReady f_countsReady f_distancesReady f_followsReady : Int32} {a_lefts a_rights a_ops a_constants a_text a_heights a_chosen a_firstEnds a_secondEnds a_order a_counts a_distances a_follows a_sizes : Nat → Int32} {a_values a_operands : Nat → Int64} {a_productive a_used : Nat → Int32} (fl : Nat), xm_Inv g (nI (gr_P g), nI (gr_L g), f_chartReady, f_countsReady, f_distancesReady, f_followsReady, nI fl, a_lefts, a_rights, a_ops, a_constants, a_text, a_heights, a_chosen, a_firstEnds, a_secondEnds, a_order, a_counts, a_distances, a_follows, a_sizes, a_values, a_operands, a_productive, a_used) → (a_lefts, a_rights, a_ops, a_constants, a_text) = xm_sh u → xm_Chart g a_heights a_chosen a_firstEnds a_secondEnds a_order fl → post (nI (gr_P g), nI (gr_L g), f_chartReady, f_countsReady, f_distancesReady, f_followsReady, nI fl, a_lefts, a_rights, a_ops, a_constants, a_text, a_heights, a_chosen, a_firstEnds, a_secondEnds, a_order, a_counts, a_distances, a_follows, a_sizes, a_values, a_operands, a_productive, a_used)) : wpX_needChart post u := by
  obtain ⟨f_productions, f_length, f_chartReady, f_countsReady, f_distancesReady, f_followsReady, f_filled, a_lefts, a_rights, a_ops, a_constants, a_text, a_heights, a_chosen, a_firstEnds, a_secondEnds, a_order, a_counts, a_distances, a_follows, a_sizes, a_values, a_operands, a_productive, a_used⟩ := u
  obtain ⟨rfl, rfl, tx, mR, mF, mO, cr, cc, cd, cf⟩ := I
  refine xs_needChart (g := g) W tx mR mF cr (fun fl r a1 a2 a3 a4 a5 hr C => h fl ⟨rfl, rfl, tx, mR, mF, mO, fun _ => ⟨fl, rfl, C⟩, cc, cd, cf⟩ xm_sh_e.symm C)
theorem xq_derives {post : Int32 → SX → Prop} {p0 p1 p2 : Int32} (W : gr_W g) (I : xm_Inv g u) (hs : ∀ u' n i j, xm_Inv g u' → xm_sh u' = xm_sh u → pu_HS g (pu_HH g) → pu_V g n i j → p0 = nI (10 + n) → p1 = nI i → p2 = nI j → post (if 0 < pu_HH g n i j then 1 else 0) u') (hn : ∀ u', xm_Inv g u' → xm_sh u' = xm_sh u → (∀ n i j, pu_V g n i j → ¬ (p0 = nI (10 + n) ∧ p1 = nI i ∧ p2 = nI j)) → post 0 u') : wpX_derives post u p0 p1 p2 := by
  unfold wpX_derives
  refine xq_chart W I (fun fl I' e C => xs_isSp W (fun n i j hv e0 e1 e2 => br_f (by decide) (xb_cell n i j e0 e1 e2 ⟨vp_in_nI (cx_lt W hv) (by decide), ?_⟩)) (fun q => br_t rfl (hn _ I' (xm_sh_e.trans e) q)))
  have hl := cx_lt W hv
  have hb := (C.1 n i j hv).2.2
  have z := hs _ n i j I' (xm_sh_e.trans e) C.1 hv e0 e1 e2
  rw [nI_clamp (by omega), C.2.1 n i j hv]
  refine pk_le (pu_HH g n i j) 0 (fun c => ?_) (fun c => ?_)
  · rw [if_neg (by omega)] at z; exact z
  · rw [if_pos (by omega)] at z; exact z
theorem xq_height {post : Int32 → SX → Prop} {p0 p1 p2 : Int32} (W : gr_W g) (I : xm_Inv g u) (hs : ∀ u' n i j, xm_Inv g u' → xm_sh u' = xm_sh u → pu_HS g (pu_HH g) → pu_V g n i j → p0 = nI (10 + n) → p1 = nI i → p2 = nI j → post (nI (pu_HH g n i j)) u') (hn : ∀ u', xm_Inv g u' → xm_sh u' = xm_sh u → (∀ n i j, pu_V g n i j → ¬ (p0 = nI (10 + n) ∧ p1 = nI i ∧ p2 = nI j)) → post 0 u') : wpX_height post u p0 p1 p2 := by
  unfold wpX_height
  refine xq_chart W I (fun fl I' e C => xs_isSp W (fun n i j hv e0 e1 e2 => br_f (by decide) (xb_cell n i j e0 e1 e2 ⟨vp_in_nI (cx_lt W hv) (by decide), ?_⟩)) (fun q => br_t rfl (hn _ I' (xm_sh_e.trans e) q)))
  have hl := cx_lt W hv
  have z := hs _ n i j I' (xm_sh_e.trans e) C.1 hv e0 e1 e2
  rw [nI_clamp (by omega), C.2.1 n i j hv]; exact z
theorem xq_trees {post : Int32 → SX → Prop} {p0 p1 p2 : Int32} (W : gr_W g) (I : xm_Inv g u) (hs : ∀ u' n i j, xm_Inv g u' → xm_sh u' = xm_sh u → pu_HS g (pu_HH g) → pu_CS g (pu_CC g) → pu_V g n i j → p0 = nI (10 + n) → p1 = nI i → p2 = nI j → post (xc_v (pu_HH g n i j) (pu_CC g n i j)) u') (hn : ∀ u', xm_Inv g u' → xm_sh u' = xm_sh u → (∀ n i j, pu_V g n i j → ¬ (p0 = nI (10 + n) ∧ p1 = nI i ∧ p2 = nI j)) → post 0 u') : wpX_trees post u p0 p1 p2 := by
  unfold wpX_trees
  refine xq_chart W I (fun fl I' e C => ?_)
  obtain ⟨_, _, tx, mR, mF, mO, cr, cc, cd, cf⟩ := I'
  refine xs_needCounts (g := g) W tx mR mF C cc (fun r a hr M => ?_)
  refine xs_isSp W (fun n i j hv e0 e1 e2 => br_f (by decide) (xb_cell n i j e0 e1 e2 ⟨vp_in_nI (cx_lt W hv) (by decide), ?_⟩)) (fun q => br_t rfl (hn _ ⟨rfl, rfl, tx, mR, mF, mO, cr, fun _ => M, cd, cf⟩ (xm_sh_e.trans e) q))
  have hl := cx_lt W hv
  rw [nI_clamp (by omega), M.2 n i j hv]
  exact hs _ n i j ⟨rfl, rfl, tx, mR, mF, mO, cr, fun _ => M, cd, cf⟩ (xm_sh_e.trans e) C.1 M.1 hv e0 e1 e2
theorem xq_longest {post : Int32 → SX → Prop} {p0 p1 : Int32} (W : gr_W g) (I : xm_Inv g u) (hs : ∀ u' n i, xm_Inv g u' → xm_sh u' = xm_sh u → pu_HS g (pu_HH g) → n < 5 → i ≤ gr_L g → p0 = nI (10 + n) → p1 = nI i → (∀ j, i ≤ j → j ≤ gr_L g → 0 < pu_HH g n i j → (∀ j', j < j' → j' ≤ gr_L g → pu_HH g n i j' = 0) → post (nI j) u') ∧ ((∀ j, i ≤ j → j ≤ gr_L g → pu_HH g n i j = 0) → post (-1) u')) (hn : ∀ u', xm_Inv g u' → xm_sh u' = xm_sh u → (∀ n i, n < 5 → i ≤ gr_L g → ¬ (p0 = nI (10 + n) ∧ p1 = nI i)) → post (-1) u') : wpX_longest post u p0 p1 := by
  obtain ⟨f_productions, f_length, f_chartReady, f_countsReady, f_distancesReady, f_followsReady, f_filled, a_lefts, a_rights, a_ops, a_constants, a_text, a_heights, a_chosen, a_firstEnds, a_secondEnds, a_order, a_counts, a_distances, a_follows, a_sizes, a_values, a_operands, a_productive, a_used⟩ := u
  have I0 := I
  obtain ⟨rfl, rfl, _⟩ := I
  have hL := W.2.1
  unfold wpX_longest
  refine xs_isNt (fun n hn5 e0 => br_f (by decide) ?_) (fun q => br_t rfl (hn _ I0 rfl (fun n i h1 h2 z => q n h1 z.1)))
  refine xs_isPl W (fun i hi e1 => br_f (by decide) ?_) (fun q => br_t rfl (hn _ I0 rfl (fun n i h1 h2 z => q i h2 z.2)))
  refine xq_chart W I0 (fun {f1 f2 f3 f4 a1 a2 a3 a4 a5 a6 a7 a8 a9 a10 a11 a12 a13 a14 a15 a16 a17 a18} fl I' e C => ?_)
  have H := hs _ n i I' (xm_sh_e.trans e) C.1 hn5 hi e0 e1
  subst e0 e1
  have K : ∀ d j, j = i + d → j ≤ gr_L g + 1 → (∀ j', j ≤ j' → j' ≤ gr_L g → pu_HH g n i j' = 0) → wX_longest_26 post (nI (10 + n)) (nI i) (nI (gr_P g)) (nI (gr_L g)) f1 f2 f3 f4 (nI fl) a1 a2 a3 a4 a5 a6 a7 a8 a9 a10 a11 a12 a13 a14 a15 a16 a17 a18 (d + 1) (nI j + (-1)) := by
    intro d
    induction d with
    | zero =>
      intro j hj hj1 hist
      exact br_t ((xb_m1lt (by omega) (by omega)).mpr (by omega)) (H.2 (fun j' h1 h2 => hist j' (by omega) h2))
    | succ d ih =>
      intro j hj hj1 hist
      have hv : pu_V g n i (i + d) := ⟨hn5, by omega, by omega⟩
      have hl := cx_lt W hv
      have hb := (C.1 _ _ _ hv).2.2
      refine br_f (fun z => by have := (xb_m1lt (by omega) (by omega)).mp z; omega) ?_
      rw [show nI j + (-1) = nI (i + d) by rw [hj]; exact pk_m1 (i + d)]
      refine xb_cell n i (i + d) rfl rfl rfl ⟨vp_in_nI hl (by decide), ?_⟩
      rw [nI_clamp (by omega), C.2.1 _ _ _ hv]
      refine pk_le (pu_HH g n i (i + d)) 0 (fun c => nm_e (ih (i + d) rfl (by omega) (fun j' h1 h2 => ?_))) (fun c => H.1 (i + d) (by omega) (by omega) c (fun j' h1 h2 => hist j' (by omega) h2))
      by_cases z : j' = i + d
      · rw [z]; omega
      · exact hist j' (by omega) h2
  refine ⟨gr_L g + 1 - i + 1, ?_⟩
  have Z := K (gr_L g + 1 - i) (gr_L g + 1) (by omega) (Nat.le_refl _) (fun j' h1 h2 => by omega)
  rw [pk_m1] at Z
  exact Z
theorem xq_value {post : Int64 → SX → Prop} {p0 p1 p2 : Int32} (W : gr_W g) (I : xm_Inv g u) (hs : ∀ u' n i j, xm_Inv g u' → xm_sh u' = xm_sh u → pu_HS g (pu_HH g) → pu_V g n i j → p0 = nI (10 + n) → p1 = nI i → p2 = nI j → post (pu_VL g (xm_sh u).2.2.1 (xm_sh u).2.2.2.1 n i j) u') (hn : ∀ u', xm_Inv g u' → xm_sh u' = xm_sh u → (∀ n i j, pu_V g n i j → ¬ (p0 = nI (10 + n) ∧ p1 = nI i ∧ p2 = nI j)) → post ev_N u') : wpX_value post u p0 p1 p2 := by
  unfold wpX_value
  refine xq_chart W I (fun fl I' e C => ?_)
  rw [← e] at hs hn
  obtain ⟨_, _, tx, mR, mF, mO, cr, cc, cd, cf⟩ := I'
  refine xs_fillValues (g := g) W mR mO C (fun a1 a2 M => ?_)
  refine xs_isSp W (fun n i j hv e0 e1 e2 => br_f (by decide) (xb_cell n i j e0 e1 e2 ⟨vp_in_nI (cx_lt W hv) (by decide), ?_⟩)) (fun q => br_t rfl (hn _ ⟨rfl, rfl, tx, mR, mF, mO, cr, cc, cd, cf⟩ xm_sh_e q))
  have hl := cx_lt W hv
  rw [nI_clamp (by omega), M n i j hv]
  exact hs _ n i j ⟨rfl, rfl, tx, mR, mF, mO, cr, cc, cd, cf⟩ xm_sh_e C.1 hv e0 e1 e2
theorem pu_ND_V (W : gr_W g) (X : pu_CHX g) : ∀ h n i j k, pu_V g n i j → 0 < pu_HH g n i j → pu_HH g n i j ≤ h → k < pu_SZ g n i j → pu_V g (pu_ND g n i j k).1 (pu_ND g n i j k).2.1 (pu_ND g n i j k).2.2 ∧ 0 < pu_HH g (pu_ND g n i j k).1 (pu_ND g n i j k).2.1 (pu_ND g n i j k).2.2 := by
  intro h
  induction h with
  | zero => intro n i j k hv h0 hh; omega
  | succ h ih =>
    intro n i j k hv h0 hh hk
    by_cases c : k = 0
    · subst c; rw [pu_ND_0]; exact ⟨hv, h0⟩
    · obtain ⟨m, hm, nt, k', hk', l', e, eN⟩ := pu_ND_s W X hv h0 (by omega) hk
      obtain ⟨v', h0', hlt⟩ := (pu_part W X hv h0 hm).2.2.2.2 nt
      rw [eN]
      exact ih _ _ _ _ v' h0' (by omega) l'
theorem xq_node {post : Int32 → SX → Prop} {p0 : Int32} (W : gr_W g) (I : xm_Inv g u) (hs : ∀ u' k, xm_Inv g u' → xm_sh u' = xm_sh u → pu_HS g (pu_HH g) → p0 = nI k → k < pu_SZ g 0 0 (gr_L g) → pu_SZ g 0 0 (gr_L g) ≤ 1000000000 → post (nI (10000 * pu_cp g (pu_ND g 0 0 (gr_L g) k).1 (pu_ND g 0 0 (gr_L g) k).2.1 (pu_ND g 0 0 (gr_L g) k).2.2 + 100 * (pu_ND g 0 0 (gr_L g) k).2.1 + (pu_ND g 0 0 (gr_L g) k).2.2)) u') (hn : ∀ u', xm_Inv g u' → xm_sh u' = xm_sh u → (∀ k, k < 2 ^ 31 → ¬ (p0 = nI k ∧ k < pu_SZ g 0 0 (gr_L g) ∧ pu_SZ g 0 0 (gr_L g) ≤ 1000000000)) → post (-1) u') : wpX_node post u p0 := by
  unfold wpX_node
  refine xq_chart W I (fun fl I' e C => ?_)
  obtain ⟨_, _, tx, mR, mF, mO, cr, cc, cd, cf⟩ := I'
  refine xs_fillSizes (g := g) W mR C (fun a M => ?_)
  have hv : pu_V g 0 0 (gr_L g) := ⟨by decide, Nat.zero_le _, Nat.le_refl _⟩
  have hl := cx_lt W hv
  have hL := W.2.1
  have hP := W.1
  have hin : vp_in (nI (cx 0 0 (gr_L g))) 605 := vp_in_nI hl (by decide)
  have ec : (nI (cx 0 0 (gr_L g))).toNatClampNeg = cx 0 0 (gr_L g) := nI_clamp (by omega)
  refine xb_cell 0 0 (gr_L g) rfl rfl rfl ?_
  have ez := M _ _ _ hv
  have zl := pu_cz_le (pu_SZ g 0 0 (gr_L g))
  refine br_c (fun q => hn _ ⟨rfl, rfl, tx, mR, mF, mO, cr, cc, cd, cf⟩ (xm_sh_e.trans e) (fun k hk z => xb_nlt (lo := 0) (k := k) (by decide) q hk (by omega) z.1)) (fun q => ⟨hin, ?_⟩)
  obtain ⟨k, hk, rfl⟩ := nI_of q
  rw [ec, ez]
  refine pk_le (pu_cz (pu_SZ g 0 0 (gr_L g))) k (fun l => hn _ ⟨rfl, rfl, tx, mR, mF, mO, cr, cc, cd, cf⟩ (xm_sh_e.trans e) (fun k' hk' z => ?_)) (fun l => ⟨hin, ?_⟩)
  · rw [nI_eq hk hk'] at z
    unfold pu_cz at l
    rw [if_pos z.2.2] at l
    omega
  · refine pk_le (pu_cz (pu_SZ g 0 0 (gr_L g))) 1000000000 (fun l2 => ?_) (fun l2 => hn _ ⟨rfl, rfl, tx, mR, mF, mO, cr, cc, cd, cf⟩ (xm_sh_e.trans e) (fun k' hk' z => ?_))
    · have s9 : pu_SZ g 0 0 (gr_L g) ≤ 1000000000 := by
        by_cases c : pu_SZ g 0 0 (gr_L g) ≤ 1000000000
        · exact c
        · unfold pu_cz at l2; rw [if_neg c] at l2; omega
      have es : pu_cz (pu_SZ g 0 0 (gr_L g)) = pu_SZ g 0 0 (gr_L g) := if_pos s9
      rw [es] at l
      obtain ⟨X, mC⟩ := xm_chs C
      have h0 : 0 < pu_HH g 0 0 (gr_L g) := by
        by_cases c : pu_HH g 0 0 (gr_L g) = 0
        · rw [pu_SZ_0 c] at l; omega
        · omega
      obtain ⟨v', h0'⟩ := pu_ND_V W X _ _ _ _ k hv h0 (Nat.le_refl _) l
      have hl' := cx_lt W v'
      obtain ⟨e1, _, _⟩ := mC _ _ _ v' h0'
      have hp : pu_cp g (pu_ND g 0 0 (gr_L g) k).1 (pu_ND g 0 0 (gr_L g) k).2.1 (pu_ND g 0 0 (gr_L g) k).2.2 < gr_P g := (pu_part W X v' h0' (m := 0) (by decide)).1
      refine xs_findNode (g := g) W C.1 X mR mC M hv h0 s9 l ⟨vp_in_nI hl' (by decide), ?_⟩
      have v2 := v'.2
      refine xs_beginOf v'.1 (by omega) (by omega) (xs_endOf v'.1 (by omega) (by omega) ?_)
      rw [nI_clamp (by omega), e1, show (10000 : Int32) = nI 10000 from rfl, show (100 : Int32) = nI 100 from rfl, pk_mul, pk_mul, nI_add, nI_add]
      exact hs _ k ⟨rfl, rfl, tx, mR, mF, mO, cr, cc, cd, cf⟩ (xm_sh_e.trans e) C.1 rfl l s9
    · unfold pu_cz at l2
      rw [if_pos z.2.2] at l2; omega
theorem xq_distance {post : Int32 → SX → Prop} {p0 p1 p2 : Int32} (W : gr_W g) (I : xm_Inv g u) (hs : ∀ u' n i j, xm_Inv g u' → xm_sh u' = xm_sh u → pu_V g n i j → p0 = nI (10 + n) → p1 = nI i → p2 = nI j → post (if pd_D g n i j < 1000000 then nI (pd_D g n i j) else -1) u') (hn : ∀ u', xm_Inv g u' → xm_sh u' = xm_sh u → (∀ n i j, pu_V g n i j → ¬ (p0 = nI (10 + n) ∧ p1 = nI i ∧ p2 = nI j)) → post (-1) u') : wpX_distance post u p0 p1 p2 := by
  obtain ⟨f_productions, f_length, f_chartReady, f_countsReady, f_distancesReady, f_followsReady, f_filled, a_lefts, a_rights, a_ops, a_constants, a_text, a_heights, a_chosen, a_firstEnds, a_secondEnds, a_order, a_counts, a_distances, a_follows, a_sizes, a_values, a_operands, a_productive, a_used⟩ := u
  have I0 := I
  obtain ⟨rfl, rfl, tx, mR, mF, mO, cr, cc, cd, cf⟩ := I
  unfold wpX_distance
  refine xs_isSp W (fun n i j hv e0 e1 e2 => br_f (by decide) ?_) (fun q => br_t rfl (hn _ I0 rfl q))
  refine xs_needDistances (g := g) W tx mR mF cd (fun r a hr M => xb_cell n i j e0 e1 e2 ⟨vp_in_nI (cx_lt W hv) (by decide), nm_r (e' := nI (pd_D g n i j)) (by rw [nI_clamp (by have := cx_lt W hv; omega)]; exact M n i j hv) ?_⟩)
  have b := (pd_D_s W).1.1 n i j hv
  refine pk_le 1000000 (pd_D g n i j) (fun c => ?_) (fun c => ?_)
  · exact xb_pv (if_neg (by omega)) (hs _ n i j ⟨rfl, rfl, tx, mR, mF, mO, cr, cc, fun _ => M, cf⟩ (xm_sh_e.trans xm_sh_e.symm) hv e0 e1 e2)
  · exact xb_pv (if_pos c) (hs _ n i j ⟨rfl, rfl, tx, mR, mF, mO, cr, cc, fun _ => M, cf⟩ (xm_sh_e.trans xm_sh_e.symm) hv e0 e1 e2)
/-- needChart and needFollows, from any state -/
theorem xq_follows {post : SX → Prop} (W : gr_W g) (I : xm_Inv g u) (h : ∀ {f_chartReady f_countsReady f_distancesReady f_followsReady : Int32} {a_lefts a_rights a_ops a_constants a_text a_heights a_chosen a_firstEnds a_secondEnds a_order a_counts a_distances a_follows a_sizes : Nat → Int32} {a_values a_operands : Nat → Int64} {a_productive a_used : Nat → Int32} (fl : Nat), xm_Inv g (nI (gr_P g), nI (gr_L g), f_chartReady, f_countsReady, f_distancesReady, f_followsReady, nI fl, a_lefts, a_rights, a_ops, a_constants, a_text, a_heights, a_chosen, a_firstEnds, a_secondEnds, a_order, a_counts, a_distances, a_follows, a_sizes, a_values, a_operands, a_productive, a_used) → (a_lefts, a_rights, a_ops, a_constants, a_text) = xm_sh u → xm_Chart g a_heights a_chosen a_firstEnds a_secondEnds a_order fl → xm_Fo g a_follows → post (nI (gr_P g), nI (gr_L g), f_chartReady, f_countsReady, f_distancesReady, f_followsReady, nI fl, a_lefts, a_rights, a_ops, a_constants, a_text, a_heights, a_chosen, a_firstEnds, a_secondEnds, a_order, a_counts, a_distances, a_follows, a_sizes, a_values, a_operands, a_productive, a_used)) : wpX_needChart (fun u => wpX_needFollows post u) u := by
  refine xq_chart W I (fun fl I' e C => ?_)
  obtain ⟨_, _, tx, mR, mF, mO, cr, cc, cd, cf⟩ := I'
  exact xs_needFollows (g := g) W tx mR mF C.1 C.2.1 cf (fun r a b hr M => h fl ⟨rfl, rfl, tx, mR, mF, mO, cr, cc, cd, fun _ => M⟩ e C M)
end
section
variable {g : gr_G} {f_chartReady f_countsReady f_distancesReady f_followsReady f_filled : Int32} {a_lefts a_rights a_ops a_constants a_text a_heights a_chosen a_firstEnds a_secondEnds a_order a_counts a_distances a_follows a_sizes : Nat → Int32} {a_values a_operands : Nat → Int64} {a_productive a_used : Nat → Int32}
theorem xs_wf {post : Int32 → Prop} {k : Nat} (W : gr_W g) (hk : k ≤ gr_L g) (S : pu_HS g (pu_HH g)) (mH : xm_H g a_heights (pu_HH g)) (M : xm_Fo g a_follows) (h : ∀ m, m < 64 → (∀ t, t < 6 → (m.testBit t = true ↔ pf_FO g k t 0 0)) → post (nI (m + if 0 < pu_HH g 0 0 k then 64 else 0))) : wpX_whatFollows post (nI (gr_P g), nI (gr_L g), f_chartReady, f_countsReady, f_distancesReady, f_followsReady, f_filled, a_lefts, a_rights, a_ops, a_constants, a_text, a_heights, a_chosen, a_firstEnds, a_secondEnds, a_order, a_counts, a_distances, a_follows, a_sizes, a_values, a_operands, a_productive, a_used) (nI k) := by
  obtain ⟨f, mf, sd⟩ := M
  have hv : pu_V g 0 0 k := ⟨by decide, Nat.zero_le _, hk⟩
  have hl := cx_lt W hv
  have hb := (S _ _ _ hv).2.2
  have hin : vp_in (nI (cx 0 0 k)) 605 := vp_in_nI hl (by decide)
  have z := h _ (sd _ _ _ hv).1 (sd _ _ _ hv).2
  unfold wpX_whatFollows
  refine xb_cell 0 0 k rfl rfl rfl ⟨hin, hin, ?_⟩
  rw [nI_clamp (by omega), mH _ _ _ hv, mf _ _ _ hv]
  refine pk_le (pu_HH g 0 0 k) 0 (fun c => ?_) (fun c => ?_)
  · rw [if_neg (by omega)] at z
    rw [show (0 : Int32) = nI 0 from rfl, nI_add]; exact z
  · rw [if_pos (by omega)] at z
    rw [show (64 : Int32) = nI 64 from rfl, nI_add]; exact z
end
section
variable {g : gr_G} {u : SX}
theorem xq_expected {post : Int32 → SX → Prop} {p0 : Int32} (W : gr_W g) (I : xm_Inv g u) (hs : ∀ u' k m, xm_Inv g u' → xm_sh u' = xm_sh u → pu_HS g (pu_HH g) → k ≤ gr_L g → p0 = nI k → m < 64 → (∀ t, t < 6 → (m.testBit t = true ↔ pf_FO g k t 0 0)) → post (nI (m + if 0 < pu_HH g 0 0 k then 64 else 0)) u') (hn : ∀ u', xm_Inv g u' → xm_sh u' = xm_sh u → (∀ k, k ≤ gr_L g → p0 ≠ nI k) → post (-1) u') : wpX_expected post u p0 := by
  obtain ⟨f_productions, f_length, f_chartReady, f_countsReady, f_distancesReady, f_followsReady, f_filled, a_lefts, a_rights, a_ops, a_constants, a_text, a_heights, a_chosen, a_firstEnds, a_secondEnds, a_order, a_counts, a_distances, a_follows, a_sizes, a_values, a_operands, a_productive, a_used⟩ := u
  have I0 := I
  obtain ⟨rfl, rfl, _⟩ := I
  unfold wpX_expected
  refine xs_isPl W (fun k hk e0 => br_f (by decide) ?_) (fun q => br_t rfl (hn _ I0 rfl q))
  subst e0
  exact xq_follows W I0 (fun fl I' e C M => xs_wf W hk C.1 C.2.1 M (fun m hm h => hs _ k m I' (xm_sh_e.trans e) C.1 hk rfl hm h))
theorem fb_nz {k m : Nat} (hm : m < 64) (h : ∀ t, t < 6 → (m.testBit t = true ↔ pf_FO g k t 0 0)) : m ≠ 0 ↔ ∃ t, t < 6 ∧ pf_FO g k t 0 0 := by
  constructor
  · intro ne
    apply Classical.byContradiction
    intro z
    apply ne
    refine fb_ext hm (by decide) (fun t ht => ?_)
    rw [Nat.zero_testBit]
    cases e : m.testBit t with
    | false => rfl
    | true => exact absurd ⟨t, ht, (h t ht).mp e⟩ z
  · intro ⟨t, ht, q⟩ e
    have := (h t ht).mpr q
    rw [e, Nat.zero_testBit] at this
    exact absurd this (by decide)
theorem xq_errorAt {post : Int32 → SX → Prop} (W : gr_W g) (I : xm_Inv g u) (hs : ∀ u', xm_Inv g u' → xm_sh u' = xm_sh u → pu_HS g (pu_HH g) → (0 < pu_HH g 0 0 (gr_L g) → post (-1) u') ∧ (pu_HH g 0 0 (gr_L g) = 0 → ∀ k, k ≤ gr_L g → pf_B g k → (∀ k', k < k' → k' ≤ gr_L g → ¬ pf_B g k') → post (nI k) u') ∧ (pu_HH g 0 0 (gr_L g) = 0 → (∀ k, k ≤ gr_L g → ¬ pf_B g k) → post (-2) u')) : wpX_errorAt post u := by
  unfold wpX_errorAt
  refine xq_follows W I (fun {f1 f2 f3 f4 a1 a2 a3 a4 a5 a6 a7 a8 a9 a10 a11 a12 a13 a14 a15 a16 a17 a18} fl I' e C M => ?_)
  have H := hs _ I' (xm_sh_e.trans e) C.1
  have hv : pu_V g 0 0 (gr_L g) := ⟨by decide, Nat.zero_le _, Nat.le_refl _⟩
  have hl := cx_lt W hv
  have hb := (C.1 _ _ _ hv).2.2
  have hL := W.2.1
  refine xb_cell 0 0 (gr_L g) rfl rfl rfl ⟨vp_in_nI hl (by decide), ?_⟩
  rw [nI_clamp (by omega), C.2.1 _ _ _ hv]
  refine pk_le (pu_HH g 0 0 (gr_L g)) 0 (fun c => ?_) (fun c => H.1 c)
  have K : ∀ d, d ≤ gr_L g + 1 → (∀ k', d ≤ k' → k' ≤ gr_L g → ¬ pf_B g k') → wX_errorAt_33 post (nI (gr_P g)) (nI (gr_L g)) f1 f2 f3 f4 (nI fl) a1 a2 a3 a4 a5 a6 a7 a8 a9 a10 a11 a12 a13 a14 a15 a16 a17 a18 (d + 1) (nI d + (-1)) := by
    intro d
    induction d with
    | zero =>
      intro hd hist
      exact br_t ((xb_m1lt (b := 0) (by decide) (by decide)).mpr (Nat.le_refl _)) (H.2.2 (by omega) (fun k hk => hist k (by omega) hk))
    | succ d ih =>
      intro hd hist
      refine br_f (fun z => by have := (xb_m1lt (b := 0) (by omega) (by decide)).mp z; omega) ?_
      rw [pk_m1]
      refine xs_wf W (k := d) (by omega) C.1 C.2.1 M (fun m hm h => ?_)
      have nz := fb_nz hm h
      have bi := pf_B_iff W C.1 (k := d) (by omega)
      refine pk_eq (m + if 0 < pu_HH g 0 0 d then 64 else 0) 0 (fun q => nm_e (ih (by omega) (fun k' h1 h2 => ?_))) (fun q => H.2.1 (by omega) d (by omega) (bi.mpr ?_) (fun k' h1 h2 => hist k' (by omega) h2)) rfl rfl (by split <;> omega)
      · by_cases z : k' = d
        · rw [z]
          intro y
          obtain y | y := bi.mp y
          · have := nz.mpr y; omega
          · rw [if_pos y] at q; omega
        · exact hist k' (by omega) h2
      · by_cases z : 0 < pu_HH g 0 0 d
        · exact Or.inr z
        · rw [if_neg z] at q
          exact Or.inl (nz.mp (by omega))
  refine ⟨gr_L g + 1 + 1, ?_⟩
  have Z := K (gr_L g + 1) (Nat.le_refl _) (fun k' h1 h2 => by omega)
  rw [pk_m1] at Z
  exact Z
theorem xq_traits {post : Int32 → SX → Prop} {p0 : Int32} (W : gr_W g) (I : xm_Inv g u) (hs : ∀ u' n a b c, xm_Inv g u' → xm_sh u' = xm_sh u → pu_HS g (pu_HH g) → n < 5 → p0 = nI (10 + n) → ((a = 1 ∧ pf_PR g n) ∨ (a = 0 ∧ ¬ pf_PR g n)) → ((b = 2 ∧ 0 < pu_HH g n 0 0) ∨ (b = 0 ∧ ¬ 0 < pu_HH g n 0 0)) → ((c = 4 ∧ pf_US g n) ∨ (c = 0 ∧ ¬ pf_US g n)) → post (nI (a + b + c)) u') (hn : ∀ u', xm_Inv g u' → xm_sh u' = xm_sh u → (∀ n, n < 5 → p0 ≠ nI (10 + n)) → post (-1) u') : wpX_traits post u p0 := by
  obtain ⟨f_productions, f_length, f_chartReady, f_countsReady, f_distancesReady, f_followsReady, f_filled, a_lefts, a_rights, a_ops, a_constants, a_text, a_heights, a_chosen, a_firstEnds, a_secondEnds, a_order, a_counts, a_distances, a_follows, a_sizes, a_values, a_operands, a_productive, a_used⟩ := u
  have I0 := I
  obtain ⟨rfl, rfl, _⟩ := I
  unfold wpX_traits
  refine xs_isNt (fun n hn5 e0 => br_f (by decide) ?_) (fun q => br_t rfl (hn _ I0 rfl q))
  subst e0
  refine xq_chart W I0 (fun {f1 f2 f3 f4 a1 a2 a3 a4 a5 a6 a7 a8 a9 a10 a11 a12 a13 a14 a15 a16 a17 a18} fl I' e C => ?_)
  obtain ⟨_, _, tx, mR, mF, mO, cr, cc, cd, cf⟩ := I'
  refine xs_markProd (g := g) W mR mF (fun pr Pr => xs_markUsed (g := g) W mR mF Pr (fun us Us => ?_))
  have hv : pu_V g n 0 0 := ⟨hn5, Nat.le_refl _, Nat.zero_le _⟩
  have hl := cx_lt W hv
  have hb := (C.1 _ _ _ hv).2.2
  rw [xb_10]
  refine ⟨vp_in_nI hn5 (by decide), ?_⟩
  have T56 : ∀ x, ∀ z : Nat, x = nI z → z < 4 → ((∀ c, ((c = 4 ∧ pf_US g n) ∨ (c = 0 ∧ ¬ pf_US g n)) → post (nI (z + c)) (nI (gr_P g), nI (gr_L g), f1, f2, f3, f4, nI fl, a1, a2, a3, a4, a5, a6, a7, a8, a9, a10, a11, a12, a13, a14, a15, a16, pr, us))) → wX_traits_56 post (nI (10 + n)) x (nI (gr_P g)) (nI (gr_L g)) f1 f2 f3 f4 (nI fl) a1 a2 a3 a4 a5 a6 a7 a8 a9 a10 a11 a12 a13 a14 a15 a16 pr us := by
    intro x z ex hz h
    subst ex
    unfold wX_traits_56
    rw [xb_10]
    refine ⟨vp_in_nI hn5 (by decide), ?_⟩
    rw [nI_clamp (by omega)]
    obtain ⟨e1, e2⟩ | ⟨e1, e2⟩ := Us n hn5
    · exact br_f (by rw [e1]; decide) (nm_r (nI_add z 4) (h 4 (Or.inl ⟨rfl, e2⟩)))
    · exact br_t e1 (h 0 (Or.inr ⟨rfl, e2⟩))
  have T38 : ∀ x, ∀ a : Nat, x = nI a → a < 2 → ((a = 1 ∧ pf_PR g n) ∨ (a = 0 ∧ ¬ pf_PR g n)) → wX_traits_38 post (nI (10 + n)) x (nI (gr_P g)) (nI (gr_L g)) f1 f2 f3 f4 (nI fl) a1 a2 a3 a4 a5 a6 a7 a8 a9 a10 a11 a12 a13 a14 a15 a16 pr us := by
    intro x a ex ha hpa
    subst ex
    refine xb_cell n 0 0 rfl rfl rfl ⟨vp_in_nI hl (by decide), ?_⟩
    rw [nI_clamp (by omega), C.2.1 _ _ _ hv]
    refine pk_le (pu_HH g n 0 0) 0 (fun c => T56 _ a rfl (by omega) (fun cc' hc => ?_)) (fun c => nm_r (nI_add a 2) (T56 _ (a + 2) rfl (by omega) (fun cc' hc => ?_)))
    · exact hs _ n a 0 cc' ⟨rfl, rfl, tx, mR, mF, mO, cr, cc, cd, cf⟩ (xm_sh_e.trans e) C.1 hn5 rfl hpa (Or.inr ⟨rfl, by omega⟩) hc
    · exact hs _ n a 2 cc' ⟨rfl, rfl, tx, mR, mF, mO, cr, cc, cd, cf⟩ (xm_sh_e.trans e) C.1 hn5 rfl hpa (Or.inl ⟨rfl, c⟩) hc
  rw [nI_clamp (by omega)]
  obtain ⟨e1, e2⟩ | ⟨e1, e2⟩ := Pr n hn5
  · exact br_f (by rw [e1]; decide) (T38 1 1 rfl (by decide) (Or.inl ⟨rfl, e2⟩))
  · exact br_t e1 (T38 0 0 rfl (by decide) (Or.inr ⟨rfl, e2⟩))
end
