/-! the reference: edits -/
def ed_k (a b c : Nat) : Nat := if a = 99 then 0 else if b = 99 then 1 else if c = 99 then 2 else 3
section
variable {g : gr_G} {f_goal f_extra f_measured f_known f_more : Int32} {f_sum : Int64} {a_left a_size a_right a_text a_ops a_constants a_heights : Nat → Int32} {a_many : Nat → Int64} {a_chosen a_firstEnd a_secondEnd : Nat → Int32} {a_values a_nodes : Nat → Int64} {a_far a_productive a_useful a_covers : Nat → Int32}
theorem ys_produce {post : Int32 → SY → Prop} {p0 p1 p2 p3 : Int32} (W : gr_W g) (bad : (∀ n a b c, ¬ (n < 5 ∧ p0 = nI (10 + n) ∧ xm_rs a b c p1 p2 p3)) → post (-1) (nI (gr_P g), nI (gr_L g), f_goal, f_extra, f_measured, f_known, f_more, f_sum, a_left, a_size, a_right, a_text, a_ops, a_constants, a_heights, a_many, a_chosen, a_firstEnd, a_secondEnd, a_values, a_nodes, a_far, a_productive, a_useful, a_covers)) (full : (∃ n a b c, n < 5 ∧ p0 = nI (10 + n) ∧ xm_rs a b c p1 p2 p3) → gr_P g = 12 → post (-2) (nI (gr_P g), nI (gr_L g), f_goal, f_extra, f_measured, f_known, f_more, f_sum, a_left, a_size, a_right, a_text, a_ops, a_constants, a_heights, a_many, a_chosen, a_firstEnd, a_secondEnd, a_values, a_nodes, a_far, a_productive, a_useful, a_covers))
    (good : ∀ n a b c, n < 5 → p0 = nI (10 + n) → xm_rs a b c p1 p2 p3 → gr_P g < 12 → post (nI (gr_P g)) (nI (gr_P g + 1), nI (gr_L g), f_goal, f_extra, f_measured, 0, f_more, f_sum, upd a_left (gr_P g) p0, upd a_size (gr_P g) (nI (ed_k a b c)), upd (upd (upd a_right (3 * gr_P g) p1) (3 * gr_P g + 1) p2) (3 * gr_P g + 2) p3, a_text, upd a_ops (gr_P g) 1, upd a_constants (gr_P g) 0, a_heights, a_many, a_chosen, a_firstEnd, a_secondEnd, a_values, a_nodes, a_far, a_productive, a_useful, a_covers)) : wpY_produce post (nI (gr_P g), nI (gr_L g), f_goal, f_extra, f_measured, f_known, f_more, f_sum, a_left, a_size, a_right, a_text, a_ops, a_constants, a_heights, a_many, a_chosen, a_firstEnd, a_secondEnd, a_values, a_nodes, a_far, a_productive, a_useful, a_covers) p0 p1 p2 p3 := by
  have hP := W.1
  unfold wpY_produce
  refine ys_nt (fun n hn en => br_f (by decide) ?_) (fun h => br_t rfl (bad (fun n a b c q => h n q.1 q.2.1)))
  refine ys_wrong (fun a oa ea => br_t rfl ?_) (fun h => br_f (by decide) (bad (fun n a b c q => h a q.2.2.1 q.2.2.2.2.2.1)))
  refine ys_wrong (fun b ob eb => br_t rfl ?_) (fun h => br_f (by decide) (bad (fun n a b c q => h b q.2.2.2.1 q.2.2.2.2.2.2.1)))
  refine ys_wrong (fun c oc ec => br_t rfl ?_) (fun h => br_f (by decide) (bad (fun n a b c q => h c q.2.2.2.2.1 q.2.2.2.2.2.2.2.1)))
  subst ea eb ec
  have f : ∀ s s', pu_ok s → pu_ok s' → sy_m s = sy_m s' → (s = 99 ↔ s' = 99) := fun s s' o o' e => by rw [← sy_e1 o, ← sy_e1 o', e]
  have gapless : (a = 99 → b = 99) → (b = 99 → c = 99) → wY_produce_58 post p0 (sy_m a) (sy_m b) (sy_m c) (nI (gr_P g)) (nI (gr_L g)) f_goal f_extra f_measured f_known f_more f_sum a_left a_size a_right a_text a_ops a_constants a_heights a_many a_chosen a_firstEnd a_secondEnd a_values a_nodes a_far a_productive a_useful a_covers := by
    intro g1 g2
    have rs : xm_rs a b c (sy_m a) (sy_m b) (sy_m c) := ⟨oa, ob, oc, rfl, rfl, rfl, g1, g2⟩
    refine pk_eq (gr_P g) 12 (fun e => full ⟨n, a, b, c, hn, en, rs⟩ e) (fun e => ?_)
    have l : gr_P g < 12 := by omega
    have G := good n a b c hn en rs l
    have T158 : ∀ z : Nat, z = ed_k a b c → wY_produce_158 post (nI z) (nI (gr_P g)) (nI (gr_P g)) (nI (gr_L g)) f_goal f_extra f_measured f_known f_more f_sum (upd a_left (gr_P g) p0) a_size (upd (upd (upd a_right (3 * gr_P g) (sy_m a)) (3 * gr_P g + 1) (sy_m b)) (3 * gr_P g + 2) (sy_m c)) a_text a_ops a_constants a_heights a_many a_chosen a_firstEnd a_secondEnd a_values a_nodes a_far a_productive a_useful a_covers := by
      intro z ez
      subst ez
      refine ⟨vp_in_nI l (by decide), nm_r (e' := upd a_size (gr_P g) (nI (ed_k a b c))) (by rw [nI_clamp (by omega)]) ⟨vp_in_nI l (by decide), nm_r (e' := upd a_ops (gr_P g) 1) (by rw [nI_clamp (by omega)]) ⟨vp_in_nI l (by decide), nm_r (e' := upd a_constants (gr_P g) 0) (by rw [nI_clamp (by omega)]) (nm_r (nI_1 _) ?_)⟩⟩⟩
      rw [nI_pred]; exact G
    refine ⟨vp_in_nI l (by decide), nm_r (e' := upd a_left (gr_P g) p0) (by rw [nI_clamp (by omega)]) ⟨xb_i0 l, nm_r (by rw [xb_r0 l]) ⟨xb_i1 l, nm_r (by rw [xb_r1 l]) ⟨xb_i2 l, nm_r (by rw [xb_r2 l]) ?_⟩⟩⟩⟩
    refine ek_if (sy_e1 oa) (fun z => T158 0 (by unfold ed_k; rw [if_pos z])) (fun z => ek_if (sy_e1 ob) (fun z2 => T158 1 (by unfold ed_k; rw [if_neg z, if_pos z2])) (fun z2 => ek_if (sy_e1 oc) (fun z3 => T158 2 (by unfold ed_k; rw [if_neg z, if_neg z2, if_pos z3])) (fun z3 => T158 3 (by unfold ed_k; rw [if_neg z, if_neg z2, if_neg z3]))))
  have nogap : ¬ ((a = 99 → b = 99) ∧ (b = 99 → c = 99)) → post (-1) (nI (gr_P g), nI (gr_L g), f_goal, f_extra, f_measured, f_known, f_more, f_sum, a_left, a_size, a_right, a_text, a_ops, a_constants, a_heights, a_many, a_chosen, a_firstEnd, a_secondEnd, a_values, a_nodes, a_far, a_productive, a_useful, a_covers) := by
    intro h
    refine bad (fun n' a' b' c' q => h ?_)
    obtain ⟨_, _, oa', ob', oc', ea, eb, ec, g1, g2⟩ := q
    have ha := f a a' oa oa' ea
    have hb := f b b' ob ob' eb
    have hc := f c c' oc oc' ec
    exact ⟨fun z => hb.mpr (g1 (ha.mp z)), fun z => hc.mpr (g2 (hb.mp z))⟩
  have T45 : (a = 99 → b = 99) → wY_produce_45 post p0 (sy_m a) (sy_m b) (sy_m c) (nI (gr_P g)) (nI (gr_L g)) f_goal f_extra f_measured f_known f_more f_sum a_left a_size a_right a_text a_ops a_constants a_heights a_many a_chosen a_firstEnd a_secondEnd a_values a_nodes a_far a_productive a_useful a_covers := fun g1 =>
    ek_if (sy_e1 ob) (fun z => ek_if (sy_e1 oc) (fun z2 => gapless g1 (fun _ => z2)) (fun z2 => nogap (fun q => z2 (q.2 z)))) (fun z => gapless g1 (fun q => absurd q z))
  exact ek_if (sy_e1 oa) (fun z => ek_if (sy_e1 ob) (fun z2 => T45 (fun _ => z2)) (fun z2 => nogap (fun q => z2 (q.1 z)))) (fun z => T45 (fun q => absurd q z))
theorem ys_retract {post : Int32 → SY → Prop} (W : gr_W g) (none : gr_P g = 0 → post 0 (nI (gr_P g), nI (gr_L g), f_goal, f_extra, f_measured, f_known, f_more, f_sum, a_left, a_size, a_right, a_text, a_ops, a_constants, a_heights, a_many, a_chosen, a_firstEnd, a_secondEnd, a_values, a_nodes, a_far, a_productive, a_useful, a_covers)) (good : ∀ p, gr_P g = p + 1 → post 1 (nI p, nI (gr_L g), f_goal, f_extra, f_measured, 0, f_more, f_sum, a_left, a_size, a_right, a_text, a_ops, a_constants, a_heights, a_many, a_chosen, a_firstEnd, a_secondEnd, a_values, a_nodes, a_far, a_productive, a_useful, a_covers)) : wpY_retract post (nI (gr_P g), nI (gr_L g), f_goal, f_extra, f_measured, f_known, f_more, f_sum, a_left, a_size, a_right, a_text, a_ops, a_constants, a_heights, a_many, a_chosen, a_firstEnd, a_secondEnd, a_values, a_nodes, a_far, a_productive, a_useful, a_covers) := by
  have hP := W.1
  refine pk_eq (gr_P g) 0 none (fun h => ?_)
  obtain ⟨p, ep⟩ : ∃ p, gr_P g = p + 1 := ⟨gr_P g - 1, by omega⟩
  refine nm_r (e' := nI p) (by rw [ep]; exact nI_pred p) (good p ep)
theorem ys_action {post : Int32 → SY → Prop} {p0 p1 p2 : Int32} (W : gr_W g) (bad : (∀ p o, ¬ (p < gr_P g ∧ o < 8 ∧ p0 = nI p ∧ p1 = nI o)) → post 0 (nI (gr_P g), nI (gr_L g), f_goal, f_extra, f_measured, f_known, f_more, f_sum, a_left, a_size, a_right, a_text, a_ops, a_constants, a_heights, a_many, a_chosen, a_firstEnd, a_secondEnd, a_values, a_nodes, a_far, a_productive, a_useful, a_covers)) (good : ∀ p o, p < gr_P g → o < 8 → p0 = nI p → p1 = nI o → post 1 (nI (gr_P g), nI (gr_L g), f_goal, f_extra, f_measured, 0, f_more, f_sum, a_left, a_size, a_right, a_text, upd a_ops p (nI o), upd a_constants p p2, a_heights, a_many, a_chosen, a_firstEnd, a_secondEnd, a_values, a_nodes, a_far, a_productive, a_useful, a_covers)) : wpY_action post (nI (gr_P g), nI (gr_L g), f_goal, f_extra, f_measured, f_known, f_more, f_sum, a_left, a_size, a_right, a_text, a_ops, a_constants, a_heights, a_many, a_chosen, a_firstEnd, a_secondEnd, a_values, a_nodes, a_far, a_productive, a_useful, a_covers) p0 p1 p2 := by
  have hP := W.1
  refine br_c (fun h => bad (fun p o q => xb_nlt (lo := 0) (k := p) (by decide) h (by omega) (by omega) q.2.2.1)) (fun h => br_c (fun h2 => bad (fun p o q => xb_nle (by omega) h2 q.1 q.2.2.1)) (fun h2 => br_c (fun h3 => bad (fun p o q => xb_nlt (lo := 0) (k := o) (by decide) h3 (by omega) (by omega) q.2.2.2)) (fun h3 => br_c (fun h4 => ?_) (fun h4 => bad (fun p o q => ?_)))))
  · obtain ⟨p, hp, rfl⟩ := nI_of h
    obtain ⟨o, ho, rfl⟩ := nI_of h3
    rw [nI_leI (by omega) hp] at h2
    rw [show (7 : Int32) = nI 7 from rfl, nI_leI ho (by decide)] at h4
    refine ⟨vp_in_nI (by omega) (by decide), nm_r (e' := upd a_ops p (nI o)) (by rw [nI_clamp hp]) ⟨vp_in_nI (by omega) (by decide), nm_r (e' := upd a_constants p p2) (by rw [nI_clamp hp]) (good p o (by omega) (by omega) rfl rfl)⟩⟩
  · apply h4
    rw [q.2.2.2, show (7 : Int32) = nI 7 from rfl]
    exact nI_le (by have := q.2.1; omega) (by decide)
theorem ys_set {post : Int32 → SY → Prop} {p0 p1 : Int32} (W : gr_W g) (bad : (∀ i t, ¬ (i < gr_L g ∧ t < 6 ∧ p0 = nI i ∧ p1 = nI t)) → post 0 (nI (gr_P g), nI (gr_L g), f_goal, f_extra, f_measured, f_known, f_more, f_sum, a_left, a_size, a_right, a_text, a_ops, a_constants, a_heights, a_many, a_chosen, a_firstEnd, a_secondEnd, a_values, a_nodes, a_far, a_productive, a_useful, a_covers)) (good : ∀ i t, i < gr_L g → t < 6 → p0 = nI i → p1 = nI t → post 1 (nI (gr_P g), nI (gr_L g), f_goal, f_extra, f_measured, 0, f_more, f_sum, a_left, a_size, a_right, upd a_text i (nI t), a_ops, a_constants, a_heights, a_many, a_chosen, a_firstEnd, a_secondEnd, a_values, a_nodes, a_far, a_productive, a_useful, a_covers)) : wpY_set post (nI (gr_P g), nI (gr_L g), f_goal, f_extra, f_measured, f_known, f_more, f_sum, a_left, a_size, a_right, a_text, a_ops, a_constants, a_heights, a_many, a_chosen, a_firstEnd, a_secondEnd, a_values, a_nodes, a_far, a_productive, a_useful, a_covers) p0 p1 := by
  have hL := W.2.1
  refine br_c (fun h => bad (fun i t q => xb_nlt (lo := 0) (k := i) (by decide) h (by omega) (by omega) q.2.2.1)) (fun h => br_c (fun h2 => bad (fun i t q => xb_nle (by omega) h2 q.1 q.2.2.1)) (fun h2 => ?_))
  refine ys_tm (fun t ht et => br_f (by decide) ?_) (fun q => br_t rfl (bad (fun i t z => q t z.2.1 z.2.2.2)))
  obtain ⟨i, hi, rfl⟩ := nI_of h
  rw [nI_leI (by omega) hi] at h2
  exact ⟨vp_in_nI (by omega) (by decide), nm_r (e' := upd a_text i (nI t)) (by rw [et, nI_clamp (by omega)]) (good i t (by omega) ht rfl et)⟩
theorem ys_insert {post : Int32 → SY → Prop} {p0 p1 : Int32} (W : gr_W g) (bad : (∀ i t, ¬ (i ≤ gr_L g ∧ t < 6 ∧ gr_L g < 10 ∧ p0 = nI i ∧ p1 = nI t)) → post 0 (nI (gr_P g), nI (gr_L g), f_goal, f_extra, f_measured, f_known, f_more, f_sum, a_left, a_size, a_right, a_text, a_ops, a_constants, a_heights, a_many, a_chosen, a_firstEnd, a_secondEnd, a_values, a_nodes, a_far, a_productive, a_useful, a_covers)) (good : ∀ i t, i ≤ gr_L g → t < 6 → gr_L g < 10 → p0 = nI i → p1 = nI t → post 1 (nI (gr_P g), nI (gr_L g + 1), f_goal, f_extra, f_measured, 0, f_more, f_sum, a_left, a_size, a_right, ed_ins a_text (gr_L g) i (nI t), a_ops, a_constants, a_heights, a_many, a_chosen, a_firstEnd, a_secondEnd, a_values, a_nodes, a_far, a_productive, a_useful, a_covers)) : wpY_insert post (nI (gr_P g), nI (gr_L g), f_goal, f_extra, f_measured, f_known, f_more, f_sum, a_left, a_size, a_right, a_text, a_ops, a_constants, a_heights, a_many, a_chosen, a_firstEnd, a_secondEnd, a_values, a_nodes, a_far, a_productive, a_useful, a_covers) p0 p1 := by
  have hL := W.2.1
  refine br_c (fun h => bad (fun i t q => xb_nlt (lo := 0) (k := i) (by decide) h (by omega) (by omega) q.2.2.2.1)) (fun h => br_c (fun h2 => bad (fun i t q => xb_ngt (by omega) h2 q.1 q.2.2.2.1)) (fun h2 => ?_))
  refine ys_tm (fun t ht et => br_f (by decide) ?_) (fun q => br_t rfl (bad (fun i t z => q t z.2.1 z.2.2.2.2)))
  refine pk_eq (gr_L g) 10 (fun l => bad (fun i t q => by omega)) (fun l => ?_)
  obtain ⟨i, hi, rfl⟩ := nI_of h
  rw [nI_ltI (by omega) hi] at h2
  subst et
  have G := good i t (by omega) ht (by omega) rfl rfl
  have K : ∀ d k, k = i + d → k ≤ gr_L g → ∀ (a : Nat → Int32), (∀ x, a x = if k < x ∧ x ≤ gr_L g then a_text (x - 1) else a_text x) → wY_insert_36 post (nI i) (nI t) (nI (gr_P g)) (nI (gr_L g)) f_goal f_extra f_measured f_known f_more f_sum (d + 1) (nI k) a_left a_size a_right a a_ops a_constants a_heights a_many a_chosen a_firstEnd a_secondEnd a_values a_nodes a_far a_productive a_useful a_covers := by
    intro d
    induction d with
    | zero =>
      intro k hk hkL a ha
      refine br_t (nI_le (by omega) (by omega)) ⟨vp_in_nI (by omega) (by decide), nm_r (e' := ed_ins a_text (gr_L g) i (nI t)) ?_ (nm_r (nI_1 _) G)⟩
      rw [nI_clamp (by omega)]
      funext x
      unfold upd ed_ins
      rw [ha x]
      by_cases c : x = i
      · rw [if_pos c, if_pos c]
      · rw [if_neg c, if_neg c, show k = i by omega]
    | succ d ih =>
      intro k hk hkL a ha
      obtain ⟨q, rfl⟩ : ∃ q, k = q + 1 := ⟨k - 1, by omega⟩
      refine br_f (nI_ge (by omega) (by omega)) ⟨by rw [nI_pred]; exact vp_in_nI (by omega) (by decide), vp_in_nI (by omega) (by decide), nm_r (e' := upd a (q + 1) (a q)) (by rw [nI_pred, nI_clamp (by omega), nI_clamp (by omega)]) (nm_r (pk_m1 q) (ih q (by omega) (by omega) _ (fun x => ?_)))⟩
      unfold upd
      by_cases c : x = q + 1
      · rw [if_pos c, ha q, if_neg (by omega), if_pos (by omega), c]; rfl
      · rw [if_neg c, ha x]
        by_cases c2 : q + 1 < x ∧ x ≤ gr_L g
        · rw [if_pos c2, if_pos (by omega)]
        · rw [if_neg c2, if_neg (by omega)]
  refine ⟨gr_L g - i + 1, K (gr_L g - i) (gr_L g) (by omega) (by omega) _ (fun x => ?_)⟩
  rw [if_neg (by omega)]
theorem ys_erase {post : Int32 → SY → Prop} {p0 : Int32} (W : gr_W g) (bad : (∀ i, ¬ (i < gr_L g ∧ p0 = nI i)) → post 0 (nI (gr_P g), nI (gr_L g), f_goal, f_extra, f_measured, f_known, f_more, f_sum, a_left, a_size, a_right, a_text, a_ops, a_constants, a_heights, a_many, a_chosen, a_firstEnd, a_secondEnd, a_values, a_nodes, a_far, a_productive, a_useful, a_covers)) (good : ∀ i l, i < gr_L g → gr_L g = l + 1 → p0 = nI i → post 1 (nI (gr_P g), nI l, f_goal, f_extra, f_measured, 0, f_more, f_sum, a_left, a_size, a_right, ed_era a_text (gr_L g) i, a_ops, a_constants, a_heights, a_many, a_chosen, a_firstEnd, a_secondEnd, a_values, a_nodes, a_far, a_productive, a_useful, a_covers)) : wpY_erase post (nI (gr_P g), nI (gr_L g), f_goal, f_extra, f_measured, f_known, f_more, f_sum, a_left, a_size, a_right, a_text, a_ops, a_constants, a_heights, a_many, a_chosen, a_firstEnd, a_secondEnd, a_values, a_nodes, a_far, a_productive, a_useful, a_covers) p0 := by
  have hL := W.2.1
  refine br_c (fun h => bad (fun i q => xb_nlt (lo := 0) (k := i) (by decide) h (by omega) (by omega) q.2)) (fun h => br_c (fun h2 => ?_) (fun h2 => bad (fun i q => h2 (by rw [q.2]; exact nI_lt q.1 (by omega)))))
  obtain ⟨i, hi, rfl⟩ := nI_of h
  rw [nI_ltI hi (by omega)] at h2
  obtain ⟨l, el⟩ : ∃ l, gr_L g = l + 1 := ⟨gr_L g - 1, by omega⟩
  have G := good i l h2 el rfl
  have K : ∀ d k, k + d = l → i ≤ k → ∀ (a : Nat → Int32), (∀ x, a x = if i ≤ x ∧ x < k then a_text (x + 1) else a_text x) → wY_erase_26 post (nI (gr_P g)) (nI l) f_goal f_extra f_measured f_known f_more f_sum (d + 1) (nI k) a_left a_size a_right a a_ops a_constants a_heights a_many a_chosen a_firstEnd a_secondEnd a_values a_nodes a_far a_productive a_useful a_covers := by
    intro d
    induction d with
    | zero =>
      intro k hk hik a ha
      refine br_t (nI_le (by omega) (by omega)) ?_
      have e : a = ed_era a_text (gr_L g) i := by
        funext x
        unfold ed_era
        rw [ha x]
        by_cases c : i ≤ x ∧ x < k
        · rw [if_pos c, if_pos (by omega)]
        · rw [if_neg c, if_neg (by omega)]
      rw [e]; exact G
    | succ d ih =>
      intro k hk hik a ha
      refine br_f (nI_ge (by omega) (by omega)) ⟨by rw [nI_1]; exact vp_in_nI (by omega) (by decide), vp_in_nI (by omega) (by decide), nm_r (e' := upd a k (a (k + 1))) (by rw [nI_1, nI_clamp (by omega), nI_clamp (by omega)]) (nm_r (nI_1 k) (ih (k + 1) (by omega) (by omega) _ (fun x => ?_)))⟩
      unfold upd
      by_cases c : x = k
      · rw [if_pos c, ha (k + 1), if_neg (by omega), if_pos (by omega), c]
      · rw [if_neg c, ha x]
        by_cases c2 : i ≤ x ∧ x < k
        · rw [if_pos c2, if_pos (by omega)]
        · rw [if_neg c2, if_neg (by omega)]
  refine nm_r (e' := nI l) (by rw [el]; exact nI_pred l) ⟨l - i + 1, K (l - i) i (by omega) (by omega) _ (fun x => ?_)⟩
  rw [if_neg (by omega)]
end
/-! the grammar and the text after an edit -/
def eg_p (g : gr_G) (n a b c : Nat) : gr_G := (gr_P g + 1, gr_L g, fun p => if p = gr_P g then n else gr_F g p, fun k => if k = 3 * gr_P g then a else if k = 3 * gr_P g + 1 then b else if k = 3 * gr_P g + 2 then c else gr_R g k, gr_T g)
def eg_r (g : gr_G) (p : Nat) : gr_G := (p, gr_L g, gr_F g, gr_R g, gr_T g)
def eg_t (g : gr_G) (l : Nat) (T : Nat → Nat) : gr_G := (gr_P g, l, gr_F g, gr_R g, T)
section
variable {g : gr_G}
theorem eg_p_R {n a b c k : Nat} (h : k < 3 * gr_P g) : gr_R (eg_p g n a b c) k = gr_R g k := by
  show (if k = 3 * gr_P g then a else if k = 3 * gr_P g + 1 then b else if k = 3 * gr_P g + 2 then c else gr_R g k) = _
  rw [if_neg (by omega), if_neg (by omega), if_neg (by omega)]
theorem eg_p_R0 {n a b c : Nat} : gr_R (eg_p g n a b c) (3 * gr_P g) = a := if_pos rfl
theorem eg_p_R1 {n a b c : Nat} : gr_R (eg_p g n a b c) (3 * gr_P g + 1) = b := by
  show (if 3 * gr_P g + 1 = 3 * gr_P g then a else if 3 * gr_P g + 1 = 3 * gr_P g + 1 then b else _) = _
  rw [if_neg (by omega), if_pos rfl]
theorem eg_p_R2 {n a b c : Nat} : gr_R (eg_p g n a b c) (3 * gr_P g + 2) = c := by
  show (if 3 * gr_P g + 2 = 3 * gr_P g then a else if 3 * gr_P g + 2 = 3 * gr_P g + 1 then b else if 3 * gr_P g + 2 = 3 * gr_P g + 2 then c else _) = _
  rw [if_neg (by omega), if_neg (by omega), if_pos rfl]
theorem eg_p_W {n a b c : Nat} {p1 p2 p3 : Int32} (W : gr_W g) (hn : n < 5) (rs : xm_rs a b c p1 p2 p3) (l : gr_P g < 12) : gr_W (eg_p g n a b c) := by
  obtain ⟨W1, W2, W3, W4, W5, W6⟩ := W
  refine ⟨(by omega : gr_P g + 1 ≤ 12), W2, fun p hp => ?_, fun k hk => ?_, fun p hp => ?_, W6⟩
  · show (if p = gr_P g then n else gr_F g p) < 5
    by_cases z : p = gr_P g
    · rw [if_pos z]; exact hn
    · have hp' : p < gr_P g + 1 := hp
      rw [if_neg z]; exact W3 p (by omega)
  · have hk' : k < 3 * (gr_P g + 1) := hk
    by_cases z : k < 3 * gr_P g
    · rw [eg_p_R z]; exact W4 k z
    · have : k = 3 * gr_P g ∨ k = 3 * gr_P g + 1 ∨ k = 3 * gr_P g + 2 := by omega
      obtain rfl | rfl | rfl := this
      · rw [eg_p_R0]; exact rs.1
      · rw [eg_p_R1]; exact rs.2.1
      · rw [eg_p_R2]; exact rs.2.2.1
  · have hp' : p < gr_P g + 1 := hp
    by_cases z : p = gr_P g
    · subst z
      rw [eg_p_R0, eg_p_R1, eg_p_R2]; exact rs.2.2.2.2.2.2
    · rw [eg_p_R (by omega), eg_p_R (by omega), eg_p_R (by omega)]; exact W5 p (by omega)
theorem eg_p_xR {n a b c : Nat} {p1 p2 p3 : Int32} {r : Nat → Int32} (rs : xm_rs a b c p1 p2 p3) (h : xm_R g r) : xm_R (eg_p g n a b c) (upd (upd (upd r (3 * gr_P g) p1) (3 * gr_P g + 1) p2) (3 * gr_P g + 2) p3) := by
  intro k hk
  have hk' : k < 3 * (gr_P g + 1) := hk
  by_cases z : k < 3 * gr_P g
  · rw [eg_p_R z, pk_un (by omega), pk_un (by omega), pk_un (by omega)]; exact h k z
  · have : k = 3 * gr_P g ∨ k = 3 * gr_P g + 1 ∨ k = 3 * gr_P g + 2 := by omega
    obtain rfl | rfl | rfl := this
    · rw [eg_p_R0, pk_un (by omega), pk_un (by omega), pk_us]; exact rs.2.2.2.1
    · rw [eg_p_R1, pk_un (by omega), pk_us]; exact rs.2.2.2.2.1
    · rw [eg_p_R2, pk_us]; exact rs.2.2.2.2.2.1
theorem eg_p_xF {n a b c : Nat} {p0 : Int32} {f : Nat → Int32} (e : p0 = nI (10 + n)) (h : xm_F g f) : xm_F (eg_p g n a b c) (upd f (gr_P g) p0) := by
  intro p hp
  have hp' : p < gr_P g + 1 := hp
  show _ = nI (10 + if p = gr_P g then n else gr_F g p)
  by_cases z : p = gr_P g
  · rw [if_pos z, z, pk_us]; exact e
  · rw [if_neg z, pk_un z]; exact h p (by omega)
theorem eg_p_O {n a b c : Nat} {o : Nat → Int32} (h : ∀ p, p < gr_P g → ∃ q, q < 8 ∧ o p = nI q) : ∀ p, p < gr_P (eg_p g n a b c) → ∃ q, q < 8 ∧ upd o (gr_P g) 1 p = nI q := by
  intro p hp
  have hp' : p < gr_P g + 1 := hp
  by_cases z : p = gr_P g
  · rw [z, pk_us]; exact ⟨1, by decide, rfl⟩
  · rw [pk_un z]; exact h p (by omega)
theorem eg_p_Z {n a b c : Nat} {s : Nat → Int32} (h : ym_Z g s) : ym_Z (eg_p g n a b c) (upd s (gr_P g) (nI (ed_k a b c))) := by
  intro p hp
  have hp' : p < gr_P g + 1 := hp
  by_cases z : p = gr_P g
  · subst z
    rw [pk_us]
    unfold pu_k ed_k
    rw [eg_p_R0, eg_p_R1, eg_p_R2]
  · rw [pk_un z, h p (by omega)]
    unfold pu_k
    rw [eg_p_R (by omega), eg_p_R (by omega), eg_p_R (by omega)]
theorem eg_r_W {p : Nat} (W : gr_W g) (e : gr_P g = p + 1) : gr_W (eg_r g p) := by
  obtain ⟨W1, W2, W3, W4, W5, W6⟩ := W
  exact ⟨(by omega : p ≤ 12), W2, fun q hq => W3 q (by have : q < p := hq; omega), fun k hk => W4 k (by have : k < 3 * p := hk; omega), fun q hq => W5 q (by have : q < p := hq; omega), W6⟩
theorem eg_t_W {l : Nat} {T : Nat → Nat} (W : gr_W g) (hl : l ≤ 10) (hT : ∀ i, i < l → T i < 6) : gr_W (eg_t g l T) := by
  obtain ⟨W1, W2, W3, W4, W5, W6⟩ := W
  exact ⟨W1, hl, W3, W4, W5, hT⟩
end
