/-! the component: values -/
theorem pu_k_le (g : gr_G) (p : Nat) : pu_k g p ≤ 3 := by unfold pu_k; (repeat' split) <;> omega
theorem pu_k_a {g : gr_G} {p m : Nat} (hm : m < 3) (h : gr_R g (3 * p + m) = 99) : pu_k g p ≤ m := by
  have : m = 0 ∨ m = 1 ∨ m = 2 := by omega
  obtain rfl | rfl | rfl := this
  · unfold pu_k; rw [if_pos (show gr_R g (3 * p) = 99 from h)]; exact Nat.le_refl _
  · unfold pu_k; rw [if_pos h]; split <;> omega
  · unfold pu_k; rw [if_pos h]; split <;> (try split) <;> omega
theorem pu_k_n {g : gr_G} {p m : Nat} (hm : m < 3) (h : gr_R g (3 * p + m) ≠ 99) (l : m ≤ pu_k g p) : m + 1 ≤ pu_k g p := by
  have : m = 0 ∨ m = 1 ∨ m = 2 := by omega
  obtain rfl | rfl | rfl := this
  · unfold pu_k; rw [if_neg (show ¬ gr_R g (3 * p) = 99 from h)]; split <;> (try split) <;> omega
  · unfold pu_k at *
    rw [if_neg h] at *
    split at l <;> split <;> (try split) <;> omega
  · unfold pu_k at *
    rw [if_neg h] at *
    split at l
    · omega
    · split at l
      · omega
      · rw [if_neg (by assumption), if_neg (by assumption)]; omega
theorem ev_v_t {op : Int32} {c : Int64} {k : Nat} {x : Nat → Int64} (h : ev_bad k x) : ev_v op c k x = ev_N := if_pos h
theorem ev_v_f {op : Int32} {c : Int64} {k : Nat} {x : Nat → Int64} (h : ¬ ev_bad k x) : ev_v op c k x = ev_act op c k x := if_neg h
section
variable {g : gr_G} {f_chartReady f_countsReady f_distancesReady f_followsReady f_filled : Int32} {a_lefts a_rights a_ops a_constants a_text a_heights a_chosen a_firstEnds a_secondEnds a_order a_counts a_distances a_follows a_sizes : Nat → Int32} {a_values a_operands : Nat → Int64} {a_productive a_used : Nat → Int32}
theorem xs_sumFrom {post : Int64 → Prop} {a k : Nat} {x : Nat → Int64} (hk : k ≤ 3) (ha : a ≤ k) (ho : ∀ m, m < k → a_operands m = x m) (h : post (ev_fold (fun s y => s + y) x (k - a) a 0)) : wpX_sumFrom post (nI (gr_P g), nI (gr_L g), f_chartReady, f_countsReady, f_distancesReady, f_followsReady, f_filled, a_lefts, a_rights, a_ops, a_constants, a_text, a_heights, a_chosen, a_firstEnds, a_secondEnds, a_order, a_counts, a_distances, a_follows, a_sizes, a_values, a_operands, a_productive, a_used) (nI a) (nI k) := by
  have K : ∀ d m s, m + d = k → post (ev_fold (fun s y => s + y) x d m s) → wX_sumFrom_5 post (nI k) (nI (gr_P g)) (nI (gr_L g)) f_chartReady f_countsReady f_distancesReady f_followsReady f_filled a_lefts a_rights a_ops a_constants a_text a_heights a_chosen a_firstEnds a_secondEnds a_order a_counts a_distances a_follows a_sizes a_values a_operands a_productive a_used (d + 1) s (nI m) := by
    intro d
    induction d with
    | zero => intro m s hm hp; exact br_t (nI_le (by omega) (by omega)) hp
    | succ d ih =>
      intro m s hm hp
      exact br_f (nI_ge (by omega) (by omega)) ⟨vp_in_nI (by omega) (by decide), nm_r (e' := s + x m) (by rw [nI_clamp (by omega), ho m (by omega)]) (nm_r (nI_1 m) (ih (m + 1) _ (by omega) hp))⟩
  exact ⟨k - a + 1, K (k - a) a 0 (by omega) h⟩
theorem xs_timesAll {post : Int64 → Prop} {k : Nat} {c : Int64} {x : Nat → Int64} (hk : k ≤ 3) (ho : ∀ m, m < k → a_operands m = x m) (h : post (ev_fold (fun s y => s * y) x k 0 c)) : wpX_timesAll post (nI (gr_P g), nI (gr_L g), f_chartReady, f_countsReady, f_distancesReady, f_followsReady, f_filled, a_lefts, a_rights, a_ops, a_constants, a_text, a_heights, a_chosen, a_firstEnds, a_secondEnds, a_order, a_counts, a_distances, a_follows, a_sizes, a_values, a_operands, a_productive, a_used) c (nI k) := by
  have K : ∀ d m s, m + d = k → post (ev_fold (fun s y => s * y) x d m s) → wX_timesAll_6 post (nI k) (nI (gr_P g)) (nI (gr_L g)) f_chartReady f_countsReady f_distancesReady f_followsReady f_filled a_lefts a_rights a_ops a_constants a_text a_heights a_chosen a_firstEnds a_secondEnds a_order a_counts a_distances a_follows a_sizes a_values a_operands a_productive a_used (d + 1) s (nI m) := by
    intro d
    induction d with
    | zero => intro m s hm hp; exact br_t (nI_le (by omega) (by omega)) hp
    | succ d ih =>
      intro m s hm hp
      exact br_f (nI_ge (by omega) (by omega)) ⟨vp_in_nI (by omega) (by decide), nm_r (e' := s * x m) (by rw [nI_clamp (by omega), ho m (by omega)]) (nm_r (nI_1 m) (ih (m + 1) _ (by omega) hp))⟩
  exact ⟨k + 1, K k 0 c (by omega) h⟩
theorem xs_digits {post : Int64 → Prop} {k : Nat} {c : Int64} {x : Nat → Int64} (hk : k ≤ 3) (ho : ∀ m, m < k → a_operands m = x m) (h : post (ev_fold (fun s y => 10 * s + y) x k 0 c)) : wpX_digits post (nI (gr_P g), nI (gr_L g), f_chartReady, f_countsReady, f_distancesReady, f_followsReady, f_filled, a_lefts, a_rights, a_ops, a_constants, a_text, a_heights, a_chosen, a_firstEnds, a_secondEnds, a_order, a_counts, a_distances, a_follows, a_sizes, a_values, a_operands, a_productive, a_used) c (nI k) := by
  have K : ∀ d m s, m + d = k → post (ev_fold (fun s y => 10 * s + y) x d m s) → wX_digits_6 post (nI k) (nI (gr_P g)) (nI (gr_L g)) f_chartReady f_countsReady f_distancesReady f_followsReady f_filled a_lefts a_rights a_ops a_constants a_text a_heights a_chosen a_firstEnds a_secondEnds a_order a_counts a_distances a_follows a_sizes a_values a_operands a_productive a_used (d + 1) s (nI m) := by
    intro d
    induction d with
    | zero => intro m s hm hp; exact br_t (nI_le (by omega) (by omega)) hp
    | succ d ih =>
      intro m s hm hp
      exact br_f (nI_ge (by omega) (by omega)) ⟨vp_in_nI (by omega) (by decide), nm_r (e' := 10 * s + x m) (by rw [nI_clamp (by omega), ho m (by omega)]) (nm_r (nI_1 m) (ih (m + 1) _ (by omega) hp))⟩
  exact ⟨k + 1, K k 0 c (by omega) h⟩
theorem xs_greatest {post : Int64 → Prop} {k : Nat} {c : Int64} {x : Nat → Int64} (hk : k ≤ 3) (ho : ∀ m, m < k → a_operands m = x m) (h : post (ev_fold ev_gr x k 0 c)) : wpX_greatest post (nI (gr_P g), nI (gr_L g), f_chartReady, f_countsReady, f_distancesReady, f_followsReady, f_filled, a_lefts, a_rights, a_ops, a_constants, a_text, a_heights, a_chosen, a_firstEnds, a_secondEnds, a_order, a_counts, a_distances, a_follows, a_sizes, a_values, a_operands, a_productive, a_used) c (nI k) := by
  have K : ∀ d m s, m + d = k → post (ev_fold ev_gr x d m s) → wX_greatest_6 post (nI k) (nI (gr_P g)) (nI (gr_L g)) f_chartReady f_countsReady f_distancesReady f_followsReady f_filled a_lefts a_rights a_ops a_constants a_text a_heights a_chosen a_firstEnds a_secondEnds a_order a_counts a_distances a_follows a_sizes a_values a_operands a_productive a_used (d + 1) s (nI m) := by
    intro d
    induction d with
    | zero => intro m s hm hp; exact br_t (nI_le (by omega) (by omega)) hp
    | succ d ih =>
      intro m s hm hp
      have eo : a_operands (nI m).toNatClampNeg = x m := by rw [nI_clamp (by omega), ho m (by omega)]
      have hp' : post (ev_fold ev_gr x d (m + 1) (ev_gr s (x m))) := hp
      refine br_f (nI_ge (by omega) (by omega)) ⟨vp_in_nI (by omega) (by decide), br_c (fun c => nm_r (nI_1 m) (ih (m + 1) _ (by omega) ?_)) (fun c => ⟨vp_in_nI (by omega) (by decide), nm_r (e' := x m) eo (nm_r (nI_1 m) (ih (m + 1) _ (by omega) ?_))⟩)⟩
      · rw [eo] at c
        unfold ev_gr at hp'; rw [if_pos c] at hp'; exact hp'
      · rw [eo] at c
        unfold ev_gr at hp'; rw [if_neg c] at hp'; exact hp'
  exact ⟨k + 1, K k 0 c (by omega) h⟩
theorem xs_quotient {post : Int64 → Prop} {k : Nat} {c : Int64} {x : Nat → Int64} (hk : k ≤ 3) (ho : ∀ m, m < k → a_operands m = x m) (h : post (if k = 0 then c else if c + ev_fold (fun s y => s + y) x (k - 1) 1 0 = 0 then ev_N else x 0 / (c + ev_fold (fun s y => s + y) x (k - 1) 1 0))) : wpX_quotient post (nI (gr_P g), nI (gr_L g), f_chartReady, f_countsReady, f_distancesReady, f_followsReady, f_filled, a_lefts, a_rights, a_ops, a_constants, a_text, a_heights, a_chosen, a_firstEnds, a_secondEnds, a_order, a_counts, a_distances, a_follows, a_sizes, a_values, a_operands, a_productive, a_used) c (nI k) := by
  refine pk_eq k 0 (fun e => ?_) (fun e => ?_)
  · rw [if_pos e] at h; exact h
  · rw [if_neg e] at h
    refine xs_sumFrom (g := g) (a := 1) (x := x) hk (by omega) ho (nm_e (br_c (fun z => ?_) (fun z => ⟨z, ?_⟩)))
    · rw [if_pos z] at h; exact h
    · rw [if_neg z] at h
      rw [ho 0 (by omega)]; exact h
theorem xs_act {post : Int64 → Prop} {k o : Nat} {c : Int64} {x : Nat → Int64} (hk : k ≤ 3) (ho8 : o < 8) (ho : ∀ m, m < k → a_operands m = x m) (h : post (ev_act (nI o) c k x)) : wpX_act post (nI (gr_P g), nI (gr_L g), f_chartReady, f_countsReady, f_distancesReady, f_followsReady, f_filled, a_lefts, a_rights, a_ops, a_constants, a_text, a_heights, a_chosen, a_firstEnds, a_secondEnds, a_order, a_counts, a_distances, a_follows, a_sizes, a_values, a_operands, a_productive, a_used) (nI o) c (nI k) := by
  have cs : o = 0 ∨ o = 1 ∨ o = 2 ∨ o = 3 ∨ o = 4 ∨ o = 5 ∨ o = 6 ∨ o = 7 := by omega
  unfold ev_act at h
  obtain rfl | rfl | rfl | rfl | rfl | rfl | rfl | rfl := cs
  · rw [if_neg (by decide), if_neg (by decide), if_neg (by decide), if_neg (by decide), if_neg (by decide), if_neg (by decide), if_neg (by decide)] at h
    exact br_t (by decide) h
  · rw [if_pos (by decide)] at h
    exact br_f (by decide) (br_f (by decide) (br_t (by decide) (xs_sumFrom (g := g) (a := 0) (x := x) hk (by omega) ho h)))
  · rw [if_neg (by decide), if_pos (by decide)] at h
    exact br_f (by decide) (br_f (by decide) (br_f (by decide) (br_t (by decide) (xs_timesAll (g := g) (x := x) hk ho h))))
  · rw [if_neg (by decide), if_neg (by decide), if_pos (by decide)] at h
    refine br_f (by decide) (br_f (by decide) (br_f (by decide) (br_f (by decide) (br_t (by decide) (pk_eq k 0 (fun e => ?_) (fun e => ?_))))))
    · rw [if_pos e] at h; exact h
    · rw [if_neg e] at h
      refine xs_sumFrom (g := g) (a := 1) (x := x) hk (by omega) ho ?_
      rw [ho 0 (by omega)]; exact h
  · rw [if_neg (by decide), if_neg (by decide), if_neg (by decide), if_pos (by decide)] at h
    exact br_f (by decide) (br_f (by decide) (br_f (by decide) (br_f (by decide) (br_f (by decide) (br_t (by decide) (xs_digits (g := g) (x := x) hk ho h))))))
  · rw [if_neg (by decide), if_neg (by decide), if_neg (by decide), if_neg (by decide), if_pos (by decide)] at h
    exact br_f (by decide) (br_f (by decide) (br_f (by decide) (br_f (by decide) (br_f (by decide) (br_f (by decide) (br_t (by decide) (xs_greatest (g := g) (x := x) hk ho h)))))))
  · rw [if_neg (by decide), if_neg (by decide), if_neg (by decide), if_neg (by decide), if_neg (by decide), if_pos (by decide)] at h
    exact br_f (by decide) (br_f (by decide) (br_f (by decide) (br_f (by decide) (br_f (by decide) (br_f (by decide) (br_f (by decide) (br_t (by decide) (xs_quotient (g := g) (x := x) hk ho h))))))))
  · rw [if_neg (by decide), if_neg (by decide), if_neg (by decide), if_neg (by decide), if_neg (by decide), if_neg (by decide), if_pos (by decide)] at h
    refine br_f (by decide) (br_f (by decide) (br_f (by decide) (br_f (by decide) (br_f (by decide) (br_f (by decide) (br_f (by decide) (br_f (by decide) (br_t (by decide) (pk_eq k 0 (fun e => ?_) (fun e => ?_))))))))))
    · rw [if_pos e] at h; exact h
    · rw [if_neg e] at h
      refine br_c (fun z => ?_) (fun z => ?_)
      · rw [ho 0 (by omega)] at z
        rw [if_pos z] at h
        rw [ho 0 (by omega)]; exact h
      · rw [ho 0 (by omega)] at z
        rw [if_neg z] at h
        obtain ⟨q, rfl⟩ : ∃ q, k = q + 1 := ⟨k - 1, by omega⟩
        rw [nI_pred]
        refine ⟨vp_in_nI (by omega) (by decide), ?_⟩
        rw [nI_clamp (by omega), ho q (by omega)]; exact h
theorem xs_fillOperands {post : Int32 → SX → Prop} {n i j : Nat} {z : pu_C6} (W : gr_W g) (X : pu_CHX g) (mR : xm_R g a_rights) (mC : xm_ch g a_chosen a_firstEnds a_secondEnds) (hv : pu_V g n i j) (h0 : 0 < pu_HH g n i j)
    (mV : ∀ m, m < 3 → pu_nt (pu_s g n i j m) → a_values (cx (pu_s g n i j m - 10) (pu_b g n i j m) (pu_e g n i j m)) = z (pu_s g n i j m - 10) (pu_b g n i j m) (pu_e g n i j m))
    (hbad : ∀ (a_operands : Nat → Int64), ev_bad (pu_k g (pu_cp g n i j)) (pu_pv g z n i j) → post (-1) (nI (gr_P g), nI (gr_L g), f_chartReady, f_countsReady, f_distancesReady, f_followsReady, f_filled, a_lefts, a_rights, a_ops, a_constants, a_text, a_heights, a_chosen, a_firstEnds, a_secondEnds, a_order, a_counts, a_distances, a_follows, a_sizes, a_values, a_operands, a_productive, a_used))
    (hgood : ∀ (a_operands : Nat → Int64), ¬ ev_bad (pu_k g (pu_cp g n i j)) (pu_pv g z n i j) → (∀ m, m < pu_k g (pu_cp g n i j) → a_operands m = pu_pv g z n i j m) → post (nI (pu_k g (pu_cp g n i j))) (nI (gr_P g), nI (gr_L g), f_chartReady, f_countsReady, f_distancesReady, f_followsReady, f_filled, a_lefts, a_rights, a_ops, a_constants, a_text, a_heights, a_chosen, a_firstEnds, a_secondEnds, a_order, a_counts, a_distances, a_follows, a_sizes, a_values, a_operands, a_productive, a_used)) : wpX_fillOperands post (nI (gr_P g), nI (gr_L g), f_chartReady, f_countsReady, f_distancesReady, f_followsReady, f_filled, a_lefts, a_rights, a_ops, a_constants, a_text, a_heights, a_chosen, a_firstEnds, a_secondEnds, a_order, a_counts, a_distances, a_follows, a_sizes, a_values, a_operands, a_productive, a_used) (nI (cx n i j)) := by
  have hl := cx_lt W hv
  have hin : vp_in (nI (cx n i j)) 605 := vp_in_nI hl (by decide)
  have ec : (nI (cx n i j)).toNatClampNeg = cx n i j := nI_clamp (by omega)
  have hP := W.1
  have k3 := pu_k_le g (pu_cp g n i j)
  obtain ⟨e1, _, _⟩ := mC n i j hv h0
  have hp : (pu_ch g n i j).1 < gr_P g := (pu_part W X hv h0 (m := 0) (by decide)).1
  have K2 : ∀ d m, m + d = 3 → ∀ (a_operands : Nat → Int64), m ≤ pu_k g (pu_cp g n i j) → (∀ q, q < m → pu_pv g z n i j q ≠ ev_N ∧ a_operands q = pu_pv g z n i j q) → wX_fillOperands_2 post (nI (cx n i j)) (nI (gr_P g)) (nI (gr_L g)) f_chartReady f_countsReady f_distancesReady f_followsReady f_filled (d + 1) (nI m) a_lefts a_rights a_ops a_constants a_text a_heights a_chosen a_firstEnds a_secondEnds a_order a_counts a_distances a_follows a_sizes a_values a_operands a_productive a_used := by
    intro d
    induction d with
    | zero =>
      intro m hm a_operands hk hist
      have e : m = 3 := by omega
      subst e
      have ek : pu_k g (pu_cp g n i j) = 3 := by omega
      have G := hgood a_operands (fun ⟨q, hq, e⟩ => (hist q (by omega)).1 e) (fun q hq => (hist q (by omega)).2)
      rw [ek] at G
      exact br_t (nI_le (a := 3) (b := 3) (by decide) (by decide)) G
    | succ d ih =>
      intro m hm a_operands hk hist
      have ok : pu_ok (pu_s g n i j m) := (pu_part W X hv h0 (m := m) (by omega)).2.1
      refine br_f (nI_ge (b := 3) (by omega) (by decide)) ⟨hin, by rw [ec, e1]; exact xb_i (by omega) (by omega), nm_r (e' := sy_m (pu_s g n i j m)) (by rw [ec, e1]; exact xm_Rm W mR hp (by omega)) ?_⟩
      refine ek_if (sy_e1 ok) (fun e => ?_) (fun e => ?_)
      · have ek : pu_k g (pu_cp g n i j) = m := by have := pu_k_a (p := pu_cp g n i j) (show m < 3 by omega) e; omega
        have G := hgood a_operands (fun ⟨q, hq, e⟩ => (hist q (by omega)).1 e) (fun q hq => (hist q (by omega)).2)
        rw [ek] at G
        exact G
      · have hk' := pu_k_n (p := pu_cp g n i j) (show m < 3 by omega) e hk
        have T : ∀ y : Int64, y = pu_pv g z n i j m → wX_fillOperands_61 post (wX_fillOperands_2 post (nI (cx n i j)) (nI (gr_P g)) (nI (gr_L g)) f_chartReady f_countsReady f_distancesReady f_followsReady f_filled (d + 1)) (nI (cx n i j)) (nI m) y (nI m) (nI (gr_P g)) (nI (gr_L g)) f_chartReady f_countsReady f_distancesReady f_followsReady f_filled a_lefts a_rights a_ops a_constants a_text a_heights a_chosen a_firstEnds a_secondEnds a_order a_counts a_distances a_follows a_sizes a_values a_operands a_productive a_used := by
          intro y ey
          subst ey
          refine ⟨vp_in_nI (by omega) (by decide), nm_r (e' := vp_updL a_operands m (pu_pv g z n i j m)) (by rw [nI_clamp (by omega)]) ⟨vp_in_nI (by omega) (by decide), ?_⟩⟩
          rw [nI_clamp (by omega), pk_uLs]
          refine br_c (fun b => hbad _ ⟨m, by omega, b⟩) (fun b => nm_r (nI_1 m) (ih (m + 1) (by omega) _ hk' (fun q hq => ?_)))
          by_cases c : q = m
          · rw [c, pk_uLs]; exact ⟨b, rfl⟩
          · rw [pk_uLn c]; exact hist q (by omega)
        refine xs_inner (g := g) W X mR mC hv h0 (m := m) (by omega) rfl (fun c => br_t rfl (T _ (pu_pv_f (fun q => c q.2)).symm)) (fun c => ?_)
        have hl' := cx_lt W ((pu_part W X hv h0 (m := m) (by omega)).2.2.2.2 c).1
        refine br_f (xb_neg1 _ (by omega)) ⟨vp_in_nI hl' (by decide), T _ ?_⟩
        rw [nI_clamp (by omega), mV m (by omega) c, pu_pv_t (by omega) c]
  exact ⟨3 + 1, K2 3 0 rfl a_operands (by omega) (fun q hq => by omega)⟩
def xm_Vl (g : gr_G) (ops cs : Nat → Int32) (vals : Nat → Int64) : Prop := ∀ n i j, pu_V g n i j → vals (cx n i j) = pu_VL g ops cs n i j
def xv_P (g : gr_G) (ops cs : Nat → Int32) (ord : Nat → Int32) (k : Nat) (vals : Nat → Int64) : Prop := (∀ n i j, pu_V g n i j → vals (cx n i j) = ev_N ∨ vals (cx n i j) = pu_VL g ops cs n i j) ∧ (∀ k', k' < k → ∀ n i j, pu_V g n i j → ord k' = nI (cx n i j) → vals (cx n i j) = pu_VL g ops cs n i j)
theorem xs_fillValues {post : SX → Prop} {fl : Nat} (W : gr_W g) (mR : xm_R g a_rights) (mO : ∀ p, p < gr_P g → ∃ o, o < 8 ∧ a_ops p = nI o) (C : xm_Chart g a_heights a_chosen a_firstEnds a_secondEnds a_order fl)
    (hpost : ∀ (a_values a_operands : Nat → Int64), xm_Vl g a_ops a_constants a_values → post (nI (gr_P g), nI (gr_L g), f_chartReady, f_countsReady, f_distancesReady, f_followsReady, nI fl, a_lefts, a_rights, a_ops, a_constants, a_text, a_heights, a_chosen, a_firstEnds, a_secondEnds, a_order, a_counts, a_distances, a_follows, a_sizes, a_values, a_operands, a_productive, a_used)) : wpX_fillValues post (nI (gr_P g), nI (gr_L g), f_chartReady, f_countsReady, f_distancesReady, f_followsReady, nI fl, a_lefts, a_rights, a_ops, a_constants, a_text, a_heights, a_chosen, a_firstEnds, a_secondEnds, a_order, a_counts, a_distances, a_follows, a_sizes, a_values, a_operands, a_productive, a_used) := by
  have hfl : fl ≤ 605 := by rw [C.2.2.1]; exact pu_cnt_le _ _
  have hP := W.1
  obtain ⟨X, mC⟩ := xm_chs C
  have K26 : ∀ d k, k + d = fl → ∀ (a_values a_operands : Nat → Int64), xv_P g a_ops a_constants a_order k a_values → wX_fillValues_26 post (d + 1) (nI k) (nI (gr_P g)) (nI (gr_L g)) f_chartReady f_countsReady f_distancesReady f_followsReady (nI fl) a_lefts a_rights a_ops a_constants a_text a_heights a_chosen a_firstEnds a_secondEnds a_order a_counts a_distances a_follows a_sizes a_values a_operands a_productive a_used := by
    intro d
    induction d with
    | zero =>
      intro k hk a_values a_operands I
      have e : k = fl := by omega
      subst e
      refine br_t (nI_le (Nat.le_refl _) (by omega)) (hpost a_values a_operands (fun n i j hv => ?_))
      by_cases c : pu_HH g n i j = 0
      · have := I.1 n i j hv
        rw [pu_VL_0 c] at *
        obtain h | h := this <;> exact h
      · obtain ⟨k', hk', e⟩ := C.2.2.2.2.2.2 n i j hv (by omega)
        exact I.2 k' hk' n i j hv e
    | succ d ih =>
      intro k hk a_values a_operands I
      obtain ⟨n, i, j, hv, eo, h0⟩ := C.2.2.2.2.1 k (by omega)
      have hl := cx_lt W hv
      have hin : vp_in (nI (cx n i j)) 605 := vp_in_nI hl (by decide)
      have ec : (nI (cx n i j)).toNatClampNeg = cx n i j := nI_clamp (by omega)
      obtain ⟨e1, _, _⟩ := mC n i j hv h0
      have hp : pu_cp g n i j < gr_P g := (pu_part W X hv h0 (m := 0) (by decide)).1
      have eV := pu_VL_eq (ops := a_ops) (cs := a_constants) W X hv h0
      refine br_f (nI_ge (by omega) (by omega)) ⟨vp_in_nI (by omega) (by decide), nm_r (e' := nI (cx n i j)) (by rw [nI_clamp (by omega)]; exact eo) ⟨hin, nm_r (e' := nI (pu_cp g n i j)) (by rw [ec]; exact e1) ?_⟩⟩
      refine xs_fillOperands (g := g) (z := pu_VL g a_ops a_constants) W X mR mC hv h0 (fun m hm c => ?_) (fun a_operands' bad => br_t rfl (nm_r (nI_1 k) (ih (k + 1) (by omega) _ _ ⟨I.1, fun k' hk' n' i' j' hv' e' => ?_⟩))) (fun a_operands' good ho => br_f (xb_neg1 _ (by have := pu_k_le g (pu_cp g n i j); omega)) ⟨vp_in_nI (by omega) (by decide), vp_in_nI (by omega) (by decide), ?_⟩)
      · obtain ⟨v', h0', hlt⟩ := (pu_part W X hv h0 hm).2.2.2.2 c
        obtain ⟨k', hk', e'⟩ := xm_before C (show k < fl by omega) hv eo v' h0' hlt
        exact I.2 k' hk' _ _ _ v' e'
      · by_cases q : k' = k
        · rw [q, eo] at e'
          obtain ⟨rfl, rfl, rfl⟩ := cx_inj W hv hv' e'
          have := I.1 n i j hv
          rw [eV, ev_v_t bad] at *
          obtain h | h := this <;> exact h
        · exact I.2 k' (by omega) n' i' j' hv' e'
      · obtain ⟨o, ho8, eo8⟩ := mO _ hp
        rw [show (nI (pu_cp g n i j)).toNatClampNeg = pu_cp g n i j from nI_clamp (by omega), eo8]
        rw [eo8, ev_v_f good] at eV
        refine xs_act (g := g) (x := pu_pv g (pu_VL g a_ops a_constants) n i j) (pu_k_le _ _) ho8 ho ⟨hin, nm_r (e' := vp_updL a_values (cx n i j) (pu_VL g a_ops a_constants n i j)) (by rw [ec, eV]) (nm_r (nI_1 k) (ih (k + 1) (by omega) _ _ ⟨fun n' i' j' hv' => ?_, fun k' hk' n' i' j' hv' e' => ?_⟩))⟩
        · by_cases zz : cx n' i' j' = cx n i j
          · obtain ⟨rfl, rfl, rfl⟩ := cx_inj W hv' hv (congrArg nI zz)
            exact Or.inr pk_uLs
          · rw [pk_uLn zz]; exact I.1 n' i' j' hv'
        · by_cases zz : cx n' i' j' = cx n i j
          · obtain ⟨rfl, rfl, rfl⟩ := cx_inj W hv' hv (congrArg nI zz)
            exact pk_uLs
          · rw [pk_uLn zz]
            by_cases q : k' = k
            · rw [q, eo] at e'
              exact absurd (by obtain ⟨rfl, rfl, rfl⟩ := cx_inj W hv hv' e'; rfl) zz
            · exact I.2 k' (by omega) n' i' j' hv' e'
  have K2 : ∀ d x, x + d = 605 → ∀ (a_values : Nat → Int64), (∀ y, y < x → a_values y = ev_N) → wX_fillValues_2 post (nI (gr_P g)) (nI (gr_L g)) f_chartReady f_countsReady f_distancesReady f_followsReady (nI fl) (d + 1) (nI x) a_lefts a_rights a_ops a_constants a_text a_heights a_chosen a_firstEnds a_secondEnds a_order a_counts a_distances a_follows a_sizes a_values a_operands a_productive a_used := by
    intro d
    induction d with
    | zero =>
      intro x hx a_values hz
      have e : x = 605 := by omega
      subst e
      exact br_t (nI_le (a := 605) (b := 605) (by decide) (by decide)) ⟨fl + 1, K26 fl 0 (by omega) a_values a_operands ⟨fun n i j hv => Or.inl (hz _ (cx_lt W hv)), fun k' hk' => by omega⟩⟩
    | succ d ih =>
      intro x hx a_values hz
      refine br_f (nI_ge (b := 605) (by omega) (by decide)) ⟨vp_in_nI (by omega) (by decide), nm_r (e' := vp_updL a_values x ev_N) (by rw [nI_clamp (by omega)]; rfl) (nm_r (nI_1 x) (ih (x + 1) (by omega) _ (fun y hy => ?_)))⟩
      by_cases c : y = x
      · rw [c, pk_uLs]
      · rw [pk_uLn c]; exact hz y (by omega)
  exact ⟨605 + 1, K2 605 0 rfl _ (fun y hy => absurd hy (by omega))⟩
end
