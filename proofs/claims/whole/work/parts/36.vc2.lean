/-! the two together: edits -/
theorem i_vc_produce {k : Nat} {u : SX} {v : SY} (I : i_Rel k u v) (hk : k + 5 ≤ 2560) (v1 : Int32) (v2 : Int32) (v3 : Int32) (v4 : Int32) : wpX_produce (fun r u' => wpY_produce (fun r' v' => r' = r ∧ i_Rel (k + 5) u' v') v v1 v2 v3 v4) u v1 v2 v3 v4 := by
  obtain ⟨f_productions, f_length, f_chartReady, f_countsReady, f_distancesReady, f_followsReady, f_filled, a_lefts, a_rights, a_ops, a_constants, a_text, a_heights, a_chosen, a_firstEnds, a_secondEnds, a_order, a_counts, a_distances, a_follows, a_sizes, a_values, a_operands, a_productive, a_used⟩ := u
  obtain ⟨y1, y2, y3, y4, y5, y6, y7, y8, z1, z2, z3, z4, z5, z6, z7, z8, z9, z10, z11, z12, z13, z14, z15, z16, z17⟩ := v
  obtain ⟨g, W, IX, IY, sh⟩ := I
  obtain ⟨rfl, rfl, rfl, rfl, rfl⟩ := rl_sh sh xm_sh_e ym_sh_e
  have IX0 := IX
  have IY0 := IY
  obtain ⟨rfl, rfl, tx, mR, mF, mO, cr, cc, cd, cf⟩ := IX
  obtain ⟨rfl, rfl, tx', mR', mF', mZ', mO', hk'⟩ := IY
  refine xs_produce (g := g) W (fun q => ys_produce (g := g) W (fun _ => ⟨rfl, g, W, IX0, IY0, sh⟩) (fun ex _ => ?_) (fun n a b c h1 h2 h3 _ => absurd ⟨h1, h2, h3⟩ (q n a b c))) (fun ex e => ys_produce (g := g) W (fun q => ?_) (fun _ _ => ⟨rfl, g, W, IX0, IY0, sh⟩) (fun n a b c h1 h2 h3 l => absurd l (by omega))) (fun ex l => ys_produce (g := g) W (fun q => ?_) (fun _ e => absurd l (by omega)) (fun n a b c h1 h2 h3 _ => ⟨rfl, eg_p g n a b c, eg_p_W W h1 h3 l, ⟨rfl, rfl, tx, eg_p_xR h3 mR, eg_p_xF h2 mF, eg_p_O mO, fun z => absurd rfl z, fun z => absurd rfl z, fun z => absurd rfl z, fun z => absurd rfl z⟩, ⟨rfl, rfl, tx', eg_p_xR h3 mR', eg_p_xF h2 mF', eg_p_Z mZ', eg_p_O mO', fun z => absurd rfl z⟩, xm_sh_e.trans ym_sh_e.symm⟩))
  · obtain ⟨n, a, b, c, h⟩ := ex
    exact absurd h (q n a b c)
  · obtain ⟨n, a, b, c, h⟩ := ex
    exact absurd h (q n a b c)
  · obtain ⟨n, a, b, c, h⟩ := ex
    exact absurd h (q n a b c)
theorem i_vc_retract {k : Nat} {u : SX} {v : SY} (I : i_Rel k u v) (hk : k + 5 ≤ 2560) : wpX_retract (fun r u' => wpY_retract (fun r' v' => r' = r ∧ i_Rel (k + 5) u' v') v) u := by
  obtain ⟨f_productions, f_length, f_chartReady, f_countsReady, f_distancesReady, f_followsReady, f_filled, a_lefts, a_rights, a_ops, a_constants, a_text, a_heights, a_chosen, a_firstEnds, a_secondEnds, a_order, a_counts, a_distances, a_follows, a_sizes, a_values, a_operands, a_productive, a_used⟩ := u
  obtain ⟨y1, y2, y3, y4, y5, y6, y7, y8, z1, z2, z3, z4, z5, z6, z7, z8, z9, z10, z11, z12, z13, z14, z15, z16, z17⟩ := v
  obtain ⟨g, W, IX, IY, sh⟩ := I
  obtain ⟨rfl, rfl, rfl, rfl, rfl⟩ := rl_sh sh xm_sh_e ym_sh_e
  have IX0 := IX
  have IY0 := IY
  obtain ⟨rfl, rfl, tx, mR, mF, mO, cr, cc, cd, cf⟩ := IX
  obtain ⟨rfl, rfl, tx', mR', mF', mZ', mO', hk'⟩ := IY
  refine xs_retract (g := g) W (fun e => ys_retract (g := g) W (fun _ => ⟨rfl, g, W, IX0, IY0, sh⟩) (fun p e' => absurd e (by omega))) (fun p e => ys_retract (g := g) W (fun e' => absurd e (by omega)) (fun p' e' => ?_))
  have ep : p' = p := by omega
  subst ep
  exact ⟨rfl, eg_r g p', eg_r_W W e, ⟨rfl, rfl, tx, fun q hq => mR q (by have : q < 3 * p' := hq; omega), fun q hq => mF q (by have : q < p' := hq; omega), fun q hq => mO q (by have : q < p' := hq; omega), fun z => absurd rfl z, fun z => absurd rfl z, fun z => absurd rfl z, fun z => absurd rfl z⟩, ⟨rfl, rfl, tx', fun q hq => mR' q (by have : q < 3 * p' := hq; omega), fun q hq => mF' q (by have : q < p' := hq; omega), fun q hq => mZ' q (by have : q < p' := hq; omega), fun q hq => mO' q (by have : q < p' := hq; omega), fun z => absurd rfl z⟩, xm_sh_e.trans ym_sh_e.symm⟩
theorem i_vc_action {k : Nat} {u : SX} {v : SY} (I : i_Rel k u v) (hk : k + 5 ≤ 2560) (v1 : Int32) (v2 : Int32) (v3 : Int32) : wpX_action (fun r u' => wpY_action (fun r' v' => r' = r ∧ i_Rel (k + 5) u' v') v v1 v2 v3) u v1 v2 v3 := by
  obtain ⟨f_productions, f_length, f_chartReady, f_countsReady, f_distancesReady, f_followsReady, f_filled, a_lefts, a_rights, a_ops, a_constants, a_text, a_heights, a_chosen, a_firstEnds, a_secondEnds, a_order, a_counts, a_distances, a_follows, a_sizes, a_values, a_operands, a_productive, a_used⟩ := u
  obtain ⟨y1, y2, y3, y4, y5, y6, y7, y8, z1, z2, z3, z4, z5, z6, z7, z8, z9, z10, z11, z12, z13, z14, z15, z16, z17⟩ := v
  obtain ⟨g, W, IX, IY, sh⟩ := I
  obtain ⟨rfl, rfl, rfl, rfl, rfl⟩ := rl_sh sh xm_sh_e ym_sh_e
  have IX0 := IX
  have IY0 := IY
  obtain ⟨rfl, rfl, tx, mR, mF, mO, cr, cc, cd, cf⟩ := IX
  obtain ⟨rfl, rfl, tx', mR', mF', mZ', mO', hk'⟩ := IY
  have hP := W.1
  have up : ∀ p o, o < 8 → ∀ q, q < gr_P g → ∃ r, r < 8 ∧ upd a_ops p (nI o) q = nI r := by
    intro p o ho q hq
    by_cases c : q = p
    · rw [c, pk_us]; exact ⟨o, ho, rfl⟩
    · rw [pk_un c]; exact mO q hq
  refine xs_action (g := g) W (fun q => ys_action (g := g) W (fun _ => ⟨rfl, g, W, IX0, IY0, sh⟩) (fun p o h1 h2 h3 h4 => absurd ⟨h1, h2, h3, h4⟩ (q p o))) (fun p o h1 h2 h3 h4 => ys_action (g := g) W (fun q => absurd ⟨h1, h2, h3, h4⟩ (q p o)) (fun p' o' f1 f2 f3 f4 => ?_))
  have ep : p' = p := by
    have z := h3.symm.trans f3
    rw [nI_eq (by omega) (by omega)] at z; omega
  have eo : o' = o := by
    have z := h4.symm.trans f4
    rw [nI_eq (by omega) (by omega)] at z; omega
  subst ep eo
  exact ⟨rfl, g, W, ⟨rfl, rfl, tx, mR, mF, up p' o' h2, cr, cc, cd, cf⟩, ⟨rfl, rfl, tx', mR', mF', mZ', up p' o' h2, fun z => absurd rfl z⟩, xm_sh_e.trans ym_sh_e.symm⟩
theorem i_vc_set {k : Nat} {u : SX} {v : SY} (I : i_Rel k u v) (hk : k + 5 ≤ 2560) (v1 : Int32) (v2 : Int32) : wpX_set (fun r u' => wpY_set (fun r' v' => r' = r ∧ i_Rel (k + 5) u' v') v v1 v2) u v1 v2 := by
  obtain ⟨f_productions, f_length, f_chartReady, f_countsReady, f_distancesReady, f_followsReady, f_filled, a_lefts, a_rights, a_ops, a_constants, a_text, a_heights, a_chosen, a_firstEnds, a_secondEnds, a_order, a_counts, a_distances, a_follows, a_sizes, a_values, a_operands, a_productive, a_used⟩ := u
  obtain ⟨y1, y2, y3, y4, y5, y6, y7, y8, z1, z2, z3, z4, z5, z6, z7, z8, z9, z10, z11, z12, z13, z14, z15, z16, z17⟩ := v
  obtain ⟨g, W, IX, IY, sh⟩ := I
  obtain ⟨rfl, rfl, rfl, rfl, rfl⟩ := rl_sh sh xm_sh_e ym_sh_e
  have IX0 := IX
  have IY0 := IY
  obtain ⟨rfl, rfl, tx, mR, mF, mO, cr, cc, cd, cf⟩ := IX
  obtain ⟨rfl, rfl, tx', mR', mF', mZ', mO', hk'⟩ := IY
  have hL := W.2.1
  refine xs_set (g := g) W (fun q => ys_set (g := g) W (fun _ => ⟨rfl, g, W, IX0, IY0, sh⟩) (fun p o h1 h2 h3 h4 => absurd ⟨h1, h2, h3, h4⟩ (q p o))) (fun p o h1 h2 h3 h4 => ys_set (g := g) W (fun q => absurd ⟨h1, h2, h3, h4⟩ (q p o)) (fun p' o' f1 f2 f3 f4 => ?_))
  have ep : p' = p := by
    have z := h3.symm.trans f3
    rw [nI_eq (by omega) (by omega)] at z; omega
  have eo : o' = o := by
    have z := h4.symm.trans f4
    rw [nI_eq (by omega) (by omega)] at z; omega
  subst ep eo
  have T : xm_T (eg_t g (gr_L g) (fun x => if x = p' then o' else gr_T g x)) (upd a_text p' (nI o')) := by
    intro x hx
    have hx' : x < gr_L g := hx
    show _ = nI (if x = p' then o' else gr_T g x)
    by_cases c : x = p'
    · rw [if_pos c, c, pk_us]
    · rw [if_neg c, pk_un c]; exact tx x hx'
  refine ⟨rfl, eg_t g (gr_L g) (fun x => if x = p' then o' else gr_T g x), eg_t_W W hL (fun x hx => ?_), ⟨rfl, rfl, T, mR, mF, mO, fun z => absurd rfl z, fun z => absurd rfl z, fun z => absurd rfl z, fun z => absurd rfl z⟩, ⟨rfl, rfl, T, mR', mF', mZ', mO', fun z => absurd rfl z⟩, xm_sh_e.trans ym_sh_e.symm⟩
  show (if x = p' then o' else gr_T g x) < 6
  split
  · exact h2
  · exact W.2.2.2.2.2 x hx
theorem i_vc_insert {k : Nat} {u : SX} {v : SY} (I : i_Rel k u v) (hk : k + 5 ≤ 2560) (v1 : Int32) (v2 : Int32) : wpX_insert (fun r u' => wpY_insert (fun r' v' => r' = r ∧ i_Rel (k + 5) u' v') v v1 v2) u v1 v2 := by
  obtain ⟨f_productions, f_length, f_chartReady, f_countsReady, f_distancesReady, f_followsReady, f_filled, a_lefts, a_rights, a_ops, a_constants, a_text, a_heights, a_chosen, a_firstEnds, a_secondEnds, a_order, a_counts, a_distances, a_follows, a_sizes, a_values, a_operands, a_productive, a_used⟩ := u
  obtain ⟨y1, y2, y3, y4, y5, y6, y7, y8, z1, z2, z3, z4, z5, z6, z7, z8, z9, z10, z11, z12, z13, z14, z15, z16, z17⟩ := v
  obtain ⟨g, W, IX, IY, sh⟩ := I
  obtain ⟨rfl, rfl, rfl, rfl, rfl⟩ := rl_sh sh xm_sh_e ym_sh_e
  have IX0 := IX
  have IY0 := IY
  obtain ⟨rfl, rfl, tx, mR, mF, mO, cr, cc, cd, cf⟩ := IX
  obtain ⟨rfl, rfl, tx', mR', mF', mZ', mO', hk'⟩ := IY
  have hL := W.2.1
  refine xs_insert (g := g) W (fun q => ys_insert (g := g) W (fun _ => ⟨rfl, g, W, IX0, IY0, sh⟩) (fun p o h1 h2 h5 h3 h4 => absurd ⟨h1, h2, h5, h3, h4⟩ (q p o))) (fun p o h1 h2 h5 h3 h4 => ys_insert (g := g) W (fun q => absurd ⟨h1, h2, h5, h3, h4⟩ (q p o)) (fun p' o' f1 f2 f5 f3 f4 => ?_))
  have ep : p' = p := by
    have z := h3.symm.trans f3
    rw [nI_eq (by omega) (by omega)] at z; omega
  have eo : o' = o := by
    have z := h4.symm.trans f4
    rw [nI_eq (by omega) (by omega)] at z; omega
  subst ep eo
  have T : xm_T (eg_t g (gr_L g + 1) (fun x => if x = p' then o' else if p' < x ∧ x ≤ gr_L g then gr_T g (x - 1) else gr_T g x)) (ed_ins a_text (gr_L g) p' (nI o')) := by
    intro x hx
    have hx' : x < gr_L g + 1 := hx
    show ed_ins a_text (gr_L g) p' (nI o') x = nI (if x = p' then o' else if p' < x ∧ x ≤ gr_L g then gr_T g (x - 1) else gr_T g x)
    unfold ed_ins
    by_cases c : x = p'
    · rw [if_pos c, if_pos c]
    · rw [if_neg c, if_neg c]
      by_cases c2 : p' < x ∧ x ≤ gr_L g
      · rw [if_pos c2, if_pos c2]; exact tx (x - 1) (by omega)
      · rw [if_neg c2, if_neg c2]; exact tx x (by omega)
  refine ⟨rfl, eg_t g (gr_L g + 1) (fun x => if x = p' then o' else if p' < x ∧ x ≤ gr_L g then gr_T g (x - 1) else gr_T g x), eg_t_W W (by omega) (fun x hx => ?_), ⟨rfl, rfl, T, mR, mF, mO, fun z => absurd rfl z, fun z => absurd rfl z, fun z => absurd rfl z, fun z => absurd rfl z⟩, ⟨rfl, rfl, T, mR', mF', mZ', mO', fun z => absurd rfl z⟩, xm_sh_e.trans ym_sh_e.symm⟩
  show (if x = p' then o' else if p' < x ∧ x ≤ gr_L g then gr_T g (x - 1) else gr_T g x) < 6
  by_cases c : x = p'
  · rw [if_pos c]; exact h2
  · rw [if_neg c]
    by_cases c2 : p' < x ∧ x ≤ gr_L g
    · rw [if_pos c2]; exact W.2.2.2.2.2 _ (by omega)
    · rw [if_neg c2]; exact W.2.2.2.2.2 x (by omega)
theorem i_vc_erase {k : Nat} {u : SX} {v : SY} (I : i_Rel k u v) (hk : k + 5 ≤ 2560) (v1 : Int32) : wpX_erase (fun r u' => wpY_erase (fun r' v' => r' = r ∧ i_Rel (k + 5) u' v') v v1) u v1 := by
  obtain ⟨f_productions, f_length, f_chartReady, f_countsReady, f_distancesReady, f_followsReady, f_filled, a_lefts, a_rights, a_ops, a_constants, a_text, a_heights, a_chosen, a_firstEnds, a_secondEnds, a_order, a_counts, a_distances, a_follows, a_sizes, a_values, a_operands, a_productive, a_used⟩ := u
  obtain ⟨y1, y2, y3, y4, y5, y6, y7, y8, z1, z2, z3, z4, z5, z6, z7, z8, z9, z10, z11, z12, z13, z14, z15, z16, z17⟩ := v
  obtain ⟨g, W, IX, IY, sh⟩ := I
  obtain ⟨rfl, rfl, rfl, rfl, rfl⟩ := rl_sh sh xm_sh_e ym_sh_e
  have IX0 := IX
  have IY0 := IY
  obtain ⟨rfl, rfl, tx, mR, mF, mO, cr, cc, cd, cf⟩ := IX
  obtain ⟨rfl, rfl, tx', mR', mF', mZ', mO', hk'⟩ := IY
  have hL := W.2.1
  refine xs_erase (g := g) W (fun q => ys_erase (g := g) W (fun _ => ⟨rfl, g, W, IX0, IY0, sh⟩) (fun p l h1 h2 h3 => absurd ⟨h1, h3⟩ (q p))) (fun p l h1 h2 h3 => ys_erase (g := g) W (fun q => absurd ⟨h1, h3⟩ (q p)) (fun p' l' f1 f2 f3 => ?_))
  have ep : p' = p := by
    have z := h3.symm.trans f3
    rw [nI_eq (by omega) (by omega)] at z; omega
  have eo : l' = l := by omega
  subst ep eo
  have T : xm_T (eg_t g l' (fun x => if p' ≤ x ∧ x + 1 < gr_L g then gr_T g (x + 1) else gr_T g x)) (ed_era a_text (gr_L g) p') := by
    intro x hx
    have hx' : x < l' := hx
    show ed_era a_text (gr_L g) p' x = nI (if p' ≤ x ∧ x + 1 < gr_L g then gr_T g (x + 1) else gr_T g x)
    unfold ed_era
    by_cases c : p' ≤ x ∧ x + 1 < gr_L g
    · rw [if_pos c, if_pos c]; exact tx (x + 1) (by omega)
    · rw [if_neg c, if_neg c]; exact tx x (by omega)
  refine ⟨rfl, eg_t g l' (fun x => if p' ≤ x ∧ x + 1 < gr_L g then gr_T g (x + 1) else gr_T g x), eg_t_W W (by omega) (fun x hx => ?_), ⟨rfl, rfl, T, mR, mF, mO, fun z => absurd rfl z, fun z => absurd rfl z, fun z => absurd rfl z, fun z => absurd rfl z⟩, ⟨rfl, rfl, T, mR', mF', mZ', mO', fun z => absurd rfl z⟩, xm_sh_e.trans ym_sh_e.symm⟩
  show (if p' ≤ x ∧ x + 1 < gr_L g then gr_T g (x + 1) else gr_T g x) < 6
  by_cases c : p' ≤ x ∧ x + 1 < gr_L g
  · rw [if_pos c]; exact W.2.2.2.2.2 _ (by omega)
  · rw [if_neg c]; exact W.2.2.2.2.2 x (by omega)
