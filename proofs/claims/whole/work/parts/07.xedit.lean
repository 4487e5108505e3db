/-! the component: what is what, edits, height, longest -/
theorem xb_lit {n : Nat} (x : Int32) (lo : Nat) (hl : lo < 2 ^ 31) (h : ¬ x < nI lo) (h2 : ¬ nI n ≤ x) (hn : n < 2 ^ 31) : ∃ k, lo ≤ k ∧ k < n ∧ x = nI k := by
  have h0 : ¬ x < 0 := by
    intro z
    apply h
    rw [Int32.lt_iff_toInt_lt] at *
    rw [nI_toInt hl]
    rw [show (0 : Int32).toInt = 0 from rfl] at z
    omega
  obtain ⟨k, hk, rfl⟩ := nI_of h0
  rw [nI_ltI hk hl] at h
  rw [nI_leI hn hk] at h2
  exact ⟨k, by omega, by omega, rfl⟩
theorem xb_nlt {x : Int32} {lo k : Nat} (hl : lo < 2 ^ 31) (h : x < nI lo) (hk : k < 2 ^ 31) (l : lo ≤ k) : x ≠ nI k := by
  intro e; rw [e, nI_ltI hk hl] at h; omega
theorem xb_nle {x : Int32} {hi k : Nat} (hh : hi < 2 ^ 31) (h : nI hi ≤ x) (l : k < hi) : x ≠ nI k := by
  intro e; rw [e, nI_leI hh (by omega)] at h; omega
theorem xb_ngt {x : Int32} {hi k : Nat} (hh : hi < 2 ^ 31) (h : nI hi < x) (l : k ≤ hi) : x ≠ nI k := by
  intro e; rw [e, nI_ltI hh (by omega)] at h; omega
theorem xb_nn {x : Int32} {hi k : Nat} (hh : hi < 2 ^ 31) (hk : k < 2 ^ 31) (h : ¬ x = nI hi) (l : k = hi) : x ≠ nI k := by
  intro e; rw [l] at e; exact h e
theorem xs_isNt {post : Int32 → Prop} {x : Int32} (ht : ∀ n, n < 5 → x = nI (10 + n) → post 1) (hf : (∀ n, n < 5 → x ≠ nI (10 + n)) → post 0) : wpX_isNonterminal post x := by
  refine br_c (fun h => hf (fun n hn => xb_nlt (lo := 10) (by decide) h (by omega) (by omega))) (fun h => br_c (fun h2 => hf (fun n hn => xb_nle (hi := 15) (by decide) h2 (by omega))) (fun h2 => ?_))
  obtain ⟨k, k1, k2, e⟩ := xb_lit (n := 15) x 10 (by decide) h h2 (by decide)
  exact ht (k - 10) (by omega) (by rw [e]; exact congrArg nI (by omega))
theorem xs_isTm {post : Int32 → Prop} {x : Int32} (ht : ∀ n, n < 6 → x = nI n → post 1) (hf : (∀ n, n < 6 → x ≠ nI n) → post 0) : wpX_isTerminal post x := by
  refine br_c (fun h => hf (fun n hn => xb_nlt (lo := 0) (by decide) h (by omega) (by omega))) (fun h => br_c (fun h2 => hf (fun n hn => xb_nle (hi := 6) (by decide) h2 (by omega))) (fun h2 => ?_))
  obtain ⟨k, k1, k2, e⟩ := xb_lit (n := 6) x 0 (by decide) h h2 (by decide)
  exact ht k k2 e
theorem xs_isSym {post : Int32 → Prop} {x : Int32} (ht : ∀ s, pu_ok s → x = sy_m s → post 1) (hf : (∀ s, pu_ok s → x ≠ sy_m s) → post 0) : wpX_isSymbolOrAbsent post x := by
  refine br_c (fun h => ht 99 (Or.inr (Or.inr rfl)) h) (fun h => ?_)
  refine xs_isTm (fun n hn e => br_f (by decide) (ht n (Or.inl hn) (by rw [sy_n (by omega)]; exact e))) (fun h1 => br_t rfl ?_)
  refine xs_isNt (fun n hn e => br_f (by decide) (ht (10 + n) (Or.inr (Or.inl ⟨by omega, by omega⟩)) (by rw [sy_n (by omega)]; exact e))) (fun h2 => br_t rfl (hf (fun s ok e => ?_)))
  by_cases c : s = 99
  · rw [c] at e; exact h e
  · rw [sy_n c] at e
    unfold pu_ok at ok
    by_cases c2 : s < 6
    · exact h1 s c2 e
    · exact h2 (s - 10) (by omega) (by rw [e]; exact congrArg nI (by omega))
def xm_rs (a b c : Nat) (p0 p1 p2 : Int32) : Prop := pu_ok a ∧ pu_ok b ∧ pu_ok c ∧ p0 = sy_m a ∧ p1 = sy_m b ∧ p2 = sy_m c ∧ (a = 99 → b = 99) ∧ (b = 99 → c = 99)
theorem xs_rs26 {post : Int32 → Prop} {p0 p1 p2 : Int32} {a b c : Nat} (oa : pu_ok a) (ob : pu_ok b) (oc : pu_ok c) (ea : p0 = sy_m a) (eb : p1 = sy_m b) (ec : p2 = sy_m c) (ht : xm_rs a b c p0 p1 p2 → post 1) (hf : ¬ ((a = 99 → b = 99) ∧ (b = 99 → c = 99)) → post 0) : wX_isRightSide_26 post p0 p1 p2 1 := by
  have K : ∀ z : Int32, (z = 1 → (a = 99 → b = 99) ∧ (b = 99 → c = 99)) → (z = 0 → ¬ ((a = 99 → b = 99) ∧ (b = 99 → c = 99))) → (z = 1 ∨ z = 0) → wX_isRightSide_52 post 1 z := by
    intro z h1 h0 h
    refine br_f (by decide) ?_
    obtain rfl | rfl := h
    · exact br_f (by decide) (ht ⟨oa, ob, oc, ea, eb, ec, h1 rfl⟩)
    · exact br_t rfl (hf (h0 rfl))
  have z0 : ¬ (0 : Int32) = 1 := by decide
  have z1 : ¬ (1 : Int32) = 0 := by decide
  subst ea eb ec
  have K37 : (a = 99 → b = 99) → wX_isRightSide_37 post (sy_m b) (sy_m c) 1 := fun hab =>
    ek_if (sy_e1 ob) (fun e => ek_if (sy_e1 oc) (fun e2 => K 1 (fun _ => ⟨hab, fun _ => e2⟩) (fun q => absurd q z1) (Or.inl rfl)) (fun e2 => K 0 (fun q => absurd q z0) (fun _ q => e2 (q.2 e)) (Or.inr rfl))) (fun e => K 1 (fun _ => ⟨hab, fun q => absurd q e⟩) (fun q => absurd q z1) (Or.inl rfl))
  exact ek_if (sy_e1 oa) (fun e => ek_if (sy_e1 ob) (fun e2 => K37 (fun _ => e2)) (fun e2 => K 0 (fun q => absurd q z0) (fun _ q => e2 (q.1 e)) (Or.inr rfl))) (fun e => K37 (fun q => absurd q e))
theorem xs_rs25 {post : Int32 → Prop} {p0 p1 p2 : Int32} (h : post 0) : wX_isRightSide_25 post p0 p1 p2 := by
  have K : ∀ z : Int32, wX_isRightSide_52 post 0 z := fun z => br_t rfl h
  have K37 : wX_isRightSide_37 post p1 p2 0 := br_c (fun _ => br_c (fun _ => K 1) (fun _ => K 0)) (fun _ => K 1)
  exact br_c (fun _ => br_c (fun _ => K37) (fun _ => K 0)) (fun _ => K37)
theorem xs_isRs {post : Int32 → Prop} {p0 p1 p2 : Int32} (ht : ∀ a b c, xm_rs a b c p0 p1 p2 → post 1) (hf : (∀ a b c, ¬ xm_rs a b c p0 p1 p2) → post 0) : wpX_isRightSide post p0 p1 p2 := by
  refine xs_isSym (fun a oa ea => br_f (by decide) ?_) (fun h => br_t rfl (xs_rs25 (hf (fun a b c q => h a q.1 q.2.2.2.1))))
  refine xs_isSym (fun b ob eb => br_f (by decide) ?_) (fun h => br_t rfl (xs_rs25 (hf (fun a b c q => h b q.2.1 q.2.2.2.2.1))))
  refine xs_isSym (fun c oc ec => br_f (by decide) ?_) (fun h => br_t rfl (xs_rs25 (hf (fun a b c q => h c q.2.2.1 q.2.2.2.2.2.1))))
  refine xs_rs26 oa ob oc ea eb ec (ht a b c) (fun q => hf (fun a' b' c' q' => q ?_))
  have f : ∀ s s', pu_ok s → pu_ok s' → sy_m s = sy_m s' → (s = 99 ↔ s' = 99) := fun s s' o o' e => by rw [← sy_e1 o, ← sy_e1 o', e]
  have ha := f a a' oa q'.1 (ea.symm.trans q'.2.2.2.1)
  have hb := f b b' ob q'.2.1 (eb.symm.trans q'.2.2.2.2.1)
  have hc := f c c' oc q'.2.2.1 (ec.symm.trans q'.2.2.2.2.2.1)
  have h1 := q'.2.2.2.2.2.2
  exact ⟨fun z => hb.mpr (h1.1 (ha.mp z)), fun z => hc.mpr (h1.2 (hb.mp z))⟩
section
variable {g : gr_G} {f_chartReady f_countsReady f_distancesReady f_followsReady f_filled : Int32} {a_lefts a_rights a_ops a_constants a_text a_heights a_chosen a_firstEnds a_secondEnds a_order a_counts a_distances a_follows a_sizes : Nat → Int32} {a_values a_operands : Nat → Int64} {a_productive a_used : Nat → Int32}
theorem xs_isPl {post : Int32 → Prop} {x : Int32} (W : gr_W g) (ht : ∀ n, n ≤ gr_L g → x = nI n → post 1) (hf : (∀ n, n ≤ gr_L g → x ≠ nI n) → post 0) : wpX_isPlace post (nI (gr_P g), nI (gr_L g), f_chartReady, f_countsReady, f_distancesReady, f_followsReady, f_filled, a_lefts, a_rights, a_ops, a_constants, a_text, a_heights, a_chosen, a_firstEnds, a_secondEnds, a_order, a_counts, a_distances, a_follows, a_sizes, a_values, a_operands, a_productive, a_used) x := by
  have hL := W.2.1
  refine br_c (fun h => hf (fun n hn => xb_nlt (lo := 0) (by decide) h (by omega) (by omega))) (fun h => br_c (fun h2 => hf (fun n hn => xb_ngt (by omega) h2 hn)) (fun h2 => ?_))
  obtain ⟨k, hk, rfl⟩ := nI_of h
  rw [nI_ltI (by omega) hk] at h2
  exact ht k (by omega) rfl
theorem xs_isTk {post : Int32 → Prop} {x : Int32} (W : gr_W g) (ht : ∀ n, n < gr_L g → x = nI n → post 1) (hf : (∀ n, n < gr_L g → x ≠ nI n) → post 0) : wpX_isToken post (nI (gr_P g), nI (gr_L g), f_chartReady, f_countsReady, f_distancesReady, f_followsReady, f_filled, a_lefts, a_rights, a_ops, a_constants, a_text, a_heights, a_chosen, a_firstEnds, a_secondEnds, a_order, a_counts, a_distances, a_follows, a_sizes, a_values, a_operands, a_productive, a_used) x := by
  have hL := W.2.1
  refine br_c (fun h => hf (fun n hn => xb_nlt (lo := 0) (by decide) h (by omega) (by omega))) (fun h => br_c (fun h2 => hf (fun n hn => xb_nle (by omega) h2 hn)) (fun h2 => ?_))
  obtain ⟨k, hk, rfl⟩ := nI_of h
  rw [nI_leI (by omega) hk] at h2
  exact ht k (by omega) rfl
theorem xs_isSp {post : Int32 → Prop} {p0 p1 p2 : Int32} (W : gr_W g) (ht : ∀ n i j, pu_V g n i j → p0 = nI (10 + n) → p1 = nI i → p2 = nI j → post 1) (hf : (∀ n i j, pu_V g n i j → ¬ (p0 = nI (10 + n) ∧ p1 = nI i ∧ p2 = nI j)) → post 0) : wpX_isSpan post (nI (gr_P g), nI (gr_L g), f_chartReady, f_countsReady, f_distancesReady, f_followsReady, f_filled, a_lefts, a_rights, a_ops, a_constants, a_text, a_heights, a_chosen, a_firstEnds, a_secondEnds, a_order, a_counts, a_distances, a_follows, a_sizes, a_values, a_operands, a_productive, a_used) p0 p1 p2 := by
  have hL := W.2.1
  unfold wpX_isSpan
  refine xs_isNt (fun n hn en => br_f (by decide) ?_) (fun h => br_t rfl (hf (fun n i j hv q => h n hv.1 q.1)))
  refine xs_isPl W (fun i hi ei => br_f (by decide) ?_) (fun h => br_t rfl (hf (fun n i j hv q => h i (by have := hv.2; omega) q.2.1)))
  refine xs_isPl W (fun j hj ej => br_f (by decide) ?_) (fun h => br_t rfl (hf (fun n i j hv q => h j hv.2.2 q.2.2)))
  refine pk_lt j i (fun h => hf (fun n' i' j' hv q => ?_)) (fun h => ht n i j ⟨hn, h, hj⟩ en ei ej) ej ei
  have e1 := ei.symm.trans q.2.1
  have e2 := ej.symm.trans q.2.2
  have hv2 := hv.2
  rw [nI_eq (by omega) (by omega)] at e1 e2
  omega
theorem xs_produce {post : Int32 → SX → Prop} {p0 p1 p2 p3 : Int32} (W : gr_W g) (bad : (∀ n a b c, ¬ (n < 5 ∧ p0 = nI (10 + n) ∧ xm_rs a b c p1 p2 p3)) → post (-1) (nI (gr_P g), nI (gr_L g), f_chartReady, f_countsReady, f_distancesReady, f_followsReady, f_filled, a_lefts, a_rights, a_ops, a_constants, a_text, a_heights, a_chosen, a_firstEnds, a_secondEnds, a_order, a_counts, a_distances, a_follows, a_sizes, a_values, a_operands, a_productive, a_used)) (full : (∃ n a b c, n < 5 ∧ p0 = nI (10 + n) ∧ xm_rs a b c p1 p2 p3) → gr_P g = 12 → post (-2) (nI (gr_P g), nI (gr_L g), f_chartReady, f_countsReady, f_distancesReady, f_followsReady, f_filled, a_lefts, a_rights, a_ops, a_constants, a_text, a_heights, a_chosen, a_firstEnds, a_secondEnds, a_order, a_counts, a_distances, a_follows, a_sizes, a_values, a_operands, a_productive, a_used))
    (good : (∃ n a b c, n < 5 ∧ p0 = nI (10 + n) ∧ xm_rs a b c p1 p2 p3) → gr_P g < 12 → post (nI (gr_P g)) (nI (gr_P g + 1), nI (gr_L g), 0, 0, 0, 0, f_filled, upd a_lefts (gr_P g) p0, upd (upd (upd a_rights (3 * gr_P g) p1) (3 * gr_P g + 1) p2) (3 * gr_P g + 2) p3, upd a_ops (gr_P g) 1, upd a_constants (gr_P g) 0, a_text, a_heights, a_chosen, a_firstEnds, a_secondEnds, a_order, a_counts, a_distances, a_follows, a_sizes, a_values, a_operands, a_productive, a_used)) : wpX_produce post (nI (gr_P g), nI (gr_L g), f_chartReady, f_countsReady, f_distancesReady, f_followsReady, f_filled, a_lefts, a_rights, a_ops, a_constants, a_text, a_heights, a_chosen, a_firstEnds, a_secondEnds, a_order, a_counts, a_distances, a_follows, a_sizes, a_values, a_operands, a_productive, a_used) p0 p1 p2 p3 := by
  have hP := W.1
  unfold wpX_produce
  refine xs_isNt (fun n hn en => br_f (by decide) ?_) (fun h => br_t rfl (bad (fun n a b c q => h n q.1 q.2.1)))
  refine xs_isRs (fun a b c h => br_f (by decide) ?_) (fun h => br_t rfl (bad (fun n a b c q => h a b c q.2.2)))
  refine pk_lt (gr_P g) 12 (fun l => ?_) (fun l => full ⟨n, a, b, c, hn, en, h⟩ (by omega))
  refine ⟨vp_in_nI l (by decide), nm_r (e' := upd a_lefts (gr_P g) p0) (by rw [nI_clamp (by omega)]) ⟨xb_i0 l, nm_r (by rw [xb_r0 l]) ⟨xb_i1 l, nm_r (by rw [xb_r1 l]) ⟨xb_i2 l, nm_r (by rw [xb_r2 l]) ⟨vp_in_nI l (by decide), nm_r (e' := upd a_ops (gr_P g) 1) (by rw [nI_clamp (by omega)]) ⟨vp_in_nI l (by decide), nm_r (e' := upd a_constants (gr_P g) 0) (by rw [nI_clamp (by omega)]) (nm_r (nI_1 _) ?_)⟩⟩⟩⟩⟩⟩
  exact good ⟨n, a, b, c, hn, en, h⟩ l
theorem xs_retract {post : Int32 → SX → Prop} (W : gr_W g) (none : gr_P g = 0 → post 0 (nI (gr_P g), nI (gr_L g), f_chartReady, f_countsReady, f_distancesReady, f_followsReady, f_filled, a_lefts, a_rights, a_ops, a_constants, a_text, a_heights, a_chosen, a_firstEnds, a_secondEnds, a_order, a_counts, a_distances, a_follows, a_sizes, a_values, a_operands, a_productive, a_used)) (good : ∀ p, gr_P g = p + 1 → post 1 (nI p, nI (gr_L g), 0, 0, 0, 0, f_filled, a_lefts, a_rights, a_ops, a_constants, a_text, a_heights, a_chosen, a_firstEnds, a_secondEnds, a_order, a_counts, a_distances, a_follows, a_sizes, a_values, a_operands, a_productive, a_used)) : wpX_retract post (nI (gr_P g), nI (gr_L g), f_chartReady, f_countsReady, f_distancesReady, f_followsReady, f_filled, a_lefts, a_rights, a_ops, a_constants, a_text, a_heights, a_chosen, a_firstEnds, a_secondEnds, a_order, a_counts, a_distances, a_follows, a_sizes, a_values, a_operands, a_productive, a_used) := by
  have hP := W.1
  refine pk_eq (gr_P g) 0 none (fun h => ?_)
  obtain ⟨p, ep⟩ : ∃ p, gr_P g = p + 1 := ⟨gr_P g - 1, by omega⟩
  refine nm_r (e' := nI p) (by rw [ep]; exact nI_pred p) (good p ep)
theorem xs_action {post : Int32 → SX → Prop} {p0 p1 p2 : Int32} (W : gr_W g) (bad : (∀ p o, ¬ (p < gr_P g ∧ o < 8 ∧ p0 = nI p ∧ p1 = nI o)) → post 0 (nI (gr_P g), nI (gr_L g), f_chartReady, f_countsReady, f_distancesReady, f_followsReady, f_filled, a_lefts, a_rights, a_ops, a_constants, a_text, a_heights, a_chosen, a_firstEnds, a_secondEnds, a_order, a_counts, a_distances, a_follows, a_sizes, a_values, a_operands, a_productive, a_used)) (good : ∀ p o, p < gr_P g → o < 8 → p0 = nI p → p1 = nI o → post 1 (nI (gr_P g), nI (gr_L g), f_chartReady, f_countsReady, f_distancesReady, f_followsReady, f_filled, a_lefts, a_rights, upd a_ops p (nI o), upd a_constants p p2, a_text, a_heights, a_chosen, a_firstEnds, a_secondEnds, a_order, a_counts, a_distances, a_follows, a_sizes, a_values, a_operands, a_productive, a_used)) : wpX_action post (nI (gr_P g), nI (gr_L g), f_chartReady, f_countsReady, f_distancesReady, f_followsReady, f_filled, a_lefts, a_rights, a_ops, a_constants, a_text, a_heights, a_chosen, a_firstEnds, a_secondEnds, a_order, a_counts, a_distances, a_follows, a_sizes, a_values, a_operands, a_productive, a_used) p0 p1 p2 := by
  have hP := W.1
  refine br_c (fun h => bad (fun p o q => xb_nlt (lo := 0) (k := p) (by decide) h (by omega) (by omega) q.2.2.1)) (fun h => br_c (fun h2 => bad (fun p o q => xb_nle (by omega) h2 q.1 q.2.2.1)) (fun h2 => br_c (fun h3 => bad (fun p o q => xb_nlt (lo := 0) (k := o) (by decide) h3 (by omega) (by omega) q.2.2.2)) (fun h3 => br_c (fun h4 => ?_) (fun h4 => bad (fun p o q => ?_)))))
  · obtain ⟨p, hp, rfl⟩ := nI_of h
    obtain ⟨o, ho, rfl⟩ := nI_of h3
    rw [nI_leI (by omega) hp] at h2
    rw [show (8 : Int32) = nI 8 from rfl, nI_ltI ho (by decide)] at h4
    refine ⟨vp_in_nI (by omega) (by decide), nm_r (e' := upd a_ops p (nI o)) (by rw [nI_clamp hp]) ⟨vp_in_nI (by omega) (by decide), nm_r (e' := upd a_constants p p2) (by rw [nI_clamp hp]) (good p o (by omega) h4 rfl rfl)⟩⟩
  · apply h4
    rw [q.2.2.2, show (8 : Int32) = nI 8 from rfl]
    exact nI_lt q.2.1 (by decide)
theorem xs_set {post : Int32 → SX → Prop} {p0 p1 : Int32} (W : gr_W g) (bad : (∀ i t, ¬ (i < gr_L g ∧ t < 6 ∧ p0 = nI i ∧ p1 = nI t)) → post 0 (nI (gr_P g), nI (gr_L g), f_chartReady, f_countsReady, f_distancesReady, f_followsReady, f_filled, a_lefts, a_rights, a_ops, a_constants, a_text, a_heights, a_chosen, a_firstEnds, a_secondEnds, a_order, a_counts, a_distances, a_follows, a_sizes, a_values, a_operands, a_productive, a_used)) (good : ∀ i t, i < gr_L g → t < 6 → p0 = nI i → p1 = nI t → post 1 (nI (gr_P g), nI (gr_L g), 0, 0, 0, 0, f_filled, a_lefts, a_rights, a_ops, a_constants, upd a_text i (nI t), a_heights, a_chosen, a_firstEnds, a_secondEnds, a_order, a_counts, a_distances, a_follows, a_sizes, a_values, a_operands, a_productive, a_used)) : wpX_set post (nI (gr_P g), nI (gr_L g), f_chartReady, f_countsReady, f_distancesReady, f_followsReady, f_filled, a_lefts, a_rights, a_ops, a_constants, a_text, a_heights, a_chosen, a_firstEnds, a_secondEnds, a_order, a_counts, a_distances, a_follows, a_sizes, a_values, a_operands, a_productive, a_used) p0 p1 := by
  have hL := W.2.1
  unfold wpX_set
  refine xs_isTk W (fun i hi ei => br_f (by decide) ?_) (fun h => br_t rfl (bad (fun i t q => h i q.1 q.2.2.1)))
  refine xs_isTm (fun t ht et => br_f (by decide) ?_) (fun h => br_t rfl (bad (fun i t q => h t q.2.1 q.2.2.2)))
  refine ⟨by rw [ei]; exact vp_in_nI (by omega) (by decide), nm_r (e' := upd a_text i (nI t)) (by rw [ei, et, nI_clamp (by omega)]) (good i t hi ht ei et)⟩
end
def ed_ins (a : Nat → Int32) (L at' : Nat) (t : Int32) : Nat → Int32 := fun k => if k = at' then t else if at' < k ∧ k ≤ L then a (k - 1) else a k
def ed_era (a : Nat → Int32) (L at' : Nat) : Nat → Int32 := fun k => if at' ≤ k ∧ k + 1 < L then a (k + 1) else a k
section
variable {g : gr_G} {f_chartReady f_countsReady f_distancesReady f_followsReady f_filled : Int32} {a_lefts a_rights a_ops a_constants a_text a_heights a_chosen a_firstEnds a_secondEnds a_order a_counts a_distances a_follows a_sizes : Nat → Int32} {a_values a_operands : Nat → Int64} {a_productive a_used : Nat → Int32}
theorem xs_insert {post : Int32 → SX → Prop} {p0 p1 : Int32} (W : gr_W g) (bad : (∀ i t, ¬ (i ≤ gr_L g ∧ t < 6 ∧ gr_L g < 10 ∧ p0 = nI i ∧ p1 = nI t)) → post 0 (nI (gr_P g), nI (gr_L g), f_chartReady, f_countsReady, f_distancesReady, f_followsReady, f_filled, a_lefts, a_rights, a_ops, a_constants, a_text, a_heights, a_chosen, a_firstEnds, a_secondEnds, a_order, a_counts, a_distances, a_follows, a_sizes, a_values, a_operands, a_productive, a_used)) (good : ∀ i t, i ≤ gr_L g → t < 6 → gr_L g < 10 → p0 = nI i → p1 = nI t → post 1 (nI (gr_P g), nI (gr_L g + 1), 0, 0, 0, 0, f_filled, a_lefts, a_rights, a_ops, a_constants, ed_ins a_text (gr_L g) i (nI t), a_heights, a_chosen, a_firstEnds, a_secondEnds, a_order, a_counts, a_distances, a_follows, a_sizes, a_values, a_operands, a_productive, a_used)) : wpX_insert post (nI (gr_P g), nI (gr_L g), f_chartReady, f_countsReady, f_distancesReady, f_followsReady, f_filled, a_lefts, a_rights, a_ops, a_constants, a_text, a_heights, a_chosen, a_firstEnds, a_secondEnds, a_order, a_counts, a_distances, a_follows, a_sizes, a_values, a_operands, a_productive, a_used) p0 p1 := by
  have hL := W.2.1
  unfold wpX_insert
  refine xs_isPl W (fun i hi ei => br_f (by decide) ?_) (fun h => br_t rfl (bad (fun i t q => h i q.1 q.2.2.2.1)))
  refine xs_isTm (fun t ht et => br_f (by decide) ?_) (fun h => br_t rfl (bad (fun i t q => h t q.2.1 q.2.2.2.2)))
  refine pk_lt (gr_L g) 10 (fun l => ?_) (fun l => bad (fun i t q => by omega))
  subst ei et
  have G := good i t hi ht l rfl rfl
  have K : ∀ d k, k = i + d → k ≤ gr_L g → ∀ (a : Nat → Int32), (∀ x, a x = if k < x ∧ x ≤ gr_L g then a_text (x - 1) else a_text x) → wX_insert_31 post (nI i) (nI t) (nI (gr_P g)) (nI (gr_L g)) f_chartReady f_countsReady f_distancesReady f_followsReady f_filled (d + 1) (nI k) a_lefts a_rights a_ops a_constants a a_heights a_chosen a_firstEnds a_secondEnds a_order a_counts a_distances a_follows a_sizes a_values a_operands a_productive a_used := by
    intro d
    induction d with
    | zero =>
      intro k hk hkL a ha
      refine br_t (nI_le (by omega) (by omega)) ⟨vp_in_nI (by omega) (by decide), nm_r (e' := ed_ins a_text (gr_L g) i (nI t)) ?_ (nm_r (nI_1 _) G)⟩
      rw [nI_clamp (by omega)]
      funext x
      unfold upd ed_ins
      rw [ha x]
      by_cases c : x = i
      · rw [if_pos c, if_pos c]
      · rw [if_neg c, if_neg c, show k = i by omega]
    | succ d ih =>
      intro k hk hkL a ha
      obtain ⟨q, rfl⟩ : ∃ q, k = q + 1 := ⟨k - 1, by omega⟩
      refine br_f (nI_ge (by omega) (by omega)) ⟨by rw [nI_pred]; exact vp_in_nI (by omega) (by decide), vp_in_nI (by omega) (by decide), nm_r (e' := upd a (q + 1) (a q)) (by rw [nI_pred, nI_clamp (by omega), nI_clamp (by omega)]) (nm_r (pk_m1 q) (ih q (by omega) (by omega) _ (fun x => ?_)))⟩
      unfold upd
      by_cases c : x = q + 1
      · rw [if_pos c, ha q, if_neg (by omega), if_pos (by omega), c]; rfl
      · rw [if_neg c, ha x]
        by_cases c2 : q + 1 < x ∧ x ≤ gr_L g
        · rw [if_pos c2, if_pos (by omega)]
        · rw [if_neg c2, if_neg (by omega)]
  refine ⟨gr_L g - i + 1, K (gr_L g - i) (gr_L g) (by omega) (by omega) _ (fun x => ?_)⟩
  rw [if_neg (by omega)]
theorem xs_erase {post : Int32 → SX → Prop} {p0 : Int32} (W : gr_W g) (bad : (∀ i, ¬ (i < gr_L g ∧ p0 = nI i)) → post 0 (nI (gr_P g), nI (gr_L g), f_chartReady, f_countsReady, f_distancesReady, f_followsReady, f_filled, a_lefts, a_rights, a_ops, a_constants, a_text, a_heights, a_chosen, a_firstEnds, a_secondEnds, a_order, a_counts, a_distances, a_follows, a_sizes, a_values, a_operands, a_productive, a_used)) (good : ∀ i l, i < gr_L g → gr_L g = l + 1 → p0 = nI i → post 1 (nI (gr_P g), nI l, 0, 0, 0, 0, f_filled, a_lefts, a_rights, a_ops, a_constants, ed_era a_text (gr_L g) i, a_heights, a_chosen, a_firstEnds, a_secondEnds, a_order, a_counts, a_distances, a_follows, a_sizes, a_values, a_operands, a_productive, a_used)) : wpX_erase post (nI (gr_P g), nI (gr_L g), f_chartReady, f_countsReady, f_distancesReady, f_followsReady, f_filled, a_lefts, a_rights, a_ops, a_constants, a_text, a_heights, a_chosen, a_firstEnds, a_secondEnds, a_order, a_counts, a_distances, a_follows, a_sizes, a_values, a_operands, a_productive, a_used) p0 := by
  have hL := W.2.1
  unfold wpX_erase
  refine xs_isTk W (fun i hi ei => br_f (by decide) ?_) (fun h => br_t rfl (bad (fun i q => h i q.1 q.2)))
  subst ei
  obtain ⟨l, el⟩ : ∃ l, gr_L g = l + 1 := ⟨gr_L g - 1, by omega⟩
  have G := good i l hi el rfl
  have K : ∀ d k, k + d = l → i ≤ k → ∀ (a : Nat → Int32), (∀ x, a x = if i ≤ x ∧ x < k then a_text (x + 1) else a_text x) → wX_erase_12 post (nI (gr_P g)) (nI (gr_L g)) f_chartReady f_countsReady f_distancesReady f_followsReady f_filled (d + 1) (nI k) a_lefts a_rights a_ops a_constants a a_heights a_chosen a_firstEnds a_secondEnds a_order a_counts a_distances a_follows a_sizes a_values a_operands a_productive a_used := by
    intro d
    induction d with
    | zero =>
      intro k hk hik a ha
      refine br_t (by rw [el, nI_pred]; exact nI_le (by omega) (by omega)) (nm_r (e' := nI l) (by rw [el, nI_pred]) ?_)
      have e : a = ed_era a_text (gr_L g) i := by
        funext x
        unfold ed_era
        rw [ha x]
        by_cases c : i ≤ x ∧ x < k
        · rw [if_pos c, if_pos (by omega)]
        · rw [if_neg c, if_neg (by omega)]
      rw [e]; exact G
    | succ d ih =>
      intro k hk hik a ha
      refine br_f (by rw [el, nI_pred]; exact nI_ge (by omega) (by omega)) ⟨by rw [nI_1]; exact vp_in_nI (by omega) (by decide), vp_in_nI (by omega) (by decide), nm_r (e' := upd a k (a (k + 1))) (by rw [nI_1, nI_clamp (by omega), nI_clamp (by omega)]) (nm_r (nI_1 k) (ih (k + 1) (by omega) (by omega) _ (fun x => ?_)))⟩
      unfold upd
      by_cases c : x = k
      · rw [if_pos c, ha (k + 1), if_neg (by omega), if_pos (by omega), c]
      · rw [if_neg c, ha x]
        by_cases c2 : i ≤ x ∧ x < k
        · rw [if_pos c2, if_pos (by omega)]
        · rw [if_neg c2, if_neg (by omega)]
  refine ⟨l - i + 1, K (l - i) i (by omega) (by omega) _ (fun x => ?_)⟩
  rw [if_neg (by omega)]
end
