/-! the reference: the chart's rounds -/
def yc_H (g : gr_G) (H : pu_C) : Nat := pu_cnt (fun x => decide (x / 11 % 11 ≤ x % 11 ∧ x % 11 ≤ gr_L g ∧ H (x / 121) (x / 11 % 11) (x % 11) ≠ 0)) 605
theorem yc_up {g : gr_G} {H : pu_C} {n i j h : Nat} (W : gr_W g) (hv : pu_V g n i j) (e : H n i j = 0) (h0 : h ≠ 0) : yc_H g H + 1 ≤ yc_H g (up3 H n i j h) := by
  obtain ⟨e1, e2, e3⟩ := pd_cell W hv
  refine pu_cnt_lt (x0 := cx n i j) ?_ ?_ (fun x hx q => ?_) (cx_lt W hv)
  · rw [e1, e2, e3]; exact decide_eq_false (fun q => q.2.2 e)
  · rw [e1, e2, e3, up3_s]; exact decide_eq_true ⟨hv.2.1, hv.2.2, h0⟩
  · have q := of_decide_eq_true q
    refine decide_eq_true ⟨q.1, q.2.1, ?_⟩
    by_cases z : x / 121 = n ∧ x / 11 % 11 = i ∧ x % 11 = j
    · rw [z.1, z.2.1, z.2.2, up3_s]; exact h0
    · rw [up3_n z]; exact q.2.2
def yd_dn (i j n : Nat) : Nat → Nat → Nat → Prop := fun n' i' j' => i' < i ∨ (i' = i ∧ (j' < j ∨ (j' = j ∧ n' < n)))
def yd_I (g : gr_G) (H : pu_C) (m : Nat) (dn : Nat → Nat → Nat → Prop) : Prop := (∀ n i j, pu_V g n i j → H n i j ≤ m + 1) ∧ (∀ n i j, pu_V g n i j → ∀ k, H n i j = k + 1 → pu_HT g H n i j (k + 1) ∧ ¬ pu_HT g H n i j k) ∧ (∀ n i j, pu_V g n i j → H n i j = 0 → ¬ pu_HT g H n i j m) ∧ (∀ n i j, pu_V g n i j → dn n i j → H n i j = 0 → ¬ pu_HT g H n i j (m + 1))
def ym_0 (g : gr_G) (a : Nat → Int32) : Prop := ∀ x, x < 980 → ¬ pu_V g (x / 196) (x % 196 / 14) (x % 14) → a x = 0
theorem cy_dec {g : gr_G} {n i j : Nat} (W : gr_W g) (hv : pu_V g n i j) : cy n i j / 196 = n ∧ cy n i j % 196 / 14 = i ∧ cy n i j % 14 = j := by
  have := W.2.1
  unfold pu_V at hv
  unfold cy; omega
theorem cy_enc (x : Nat) : cy (x / 196) (x % 196 / 14) (x % 14) = x := by unfold cy; omega
theorem ym_0_up {g : gr_G} {a : Nat → Int32} {n i j : Nat} {v : Int32} (W : gr_W g) (h : ym_0 g a) (hv : pu_V g n i j) : ym_0 g (upd a (cy n i j) v) := by
  intro x hx nv
  by_cases c : x = cy n i j
  · obtain ⟨e1, e2, e3⟩ := cy_dec W hv
    rw [c, e1, e2, e3] at nv
    exact absurd hv nv
  · rw [pk_un c]; exact h x hx nv
def yd_L (g : gr_G) (m : Nat) (dn : Nat → Nat → Nat → Prop) (more : Int32) (hts : Nat → Int32) : Prop := ∃ H, ym_H g hts H ∧ ym_0 g hts ∧ yd_I g H m dn ∧ m ≤ yc_H g H ∧ ((more = 0 ∧ ∀ n i j, pu_V g n i j → H n i j ≤ m) ∨ (more = 1 ∧ m + 1 ≤ yc_H g H))
theorem yd_L_dn {g : gr_G} {m : Nat} {dn dn' : Nat → Nat → Nat → Prop} {more : Int32} {hts : Nat → Int32} (l : yd_L g m dn more hts) (h : ∀ n i j, pu_V g n i j → dn' n i j → dn n i j) : yd_L g m dn' more hts := by
  obtain ⟨H, h1, h2, ⟨I1, I2, I3, I4⟩, b, c⟩ := l
  exact ⟨H, h1, h2, ⟨I1, I2, I3, fun n i j hv d => I4 n i j hv (h n i j hv d)⟩, b, c⟩
theorem yd_fill {g : gr_G} {H : pu_C} {m n i j : Nat} {dn : Nat → Nat → Nat → Prop} (W : gr_W g) (I : yd_I g H m dn) (hv : pu_V g n i j) (h0 : H n i j = 0) (t : pu_HT g H n i j (m + 1)) : yd_I g (up3 H n i j (m + 1)) m dn := by
  have A : pu_ag g H (up3 H n i j (m + 1)) (m + 1) := by
    intro n' i' j' hv' k k0 k1
    by_cases z : n' = n ∧ i' = i ∧ j' = j
    · obtain ⟨rfl, rfl, rfl⟩ := z
      rw [up3_s, h0]; omega
    · rw [up3_n z]
  obtain ⟨I1, I2, I3, I4⟩ := I
  have Z : ∀ n' i' j', up3 H n i j (m + 1) n' i' j' = 0 → H n' i' j' = 0 := by
    intro n' i' j' e
    by_cases z : n' = n ∧ i' = i ∧ j' = j
    · obtain ⟨rfl, rfl, rfl⟩ := z; exact h0
    · rw [up3_n z] at e; exact e
  refine ⟨fun n' i' j' hv' => ?_, fun n' i' j' hv' k ek => ?_, fun n' i' j' hv' e0 z => ?_, fun n' i' j' hv' d e0 z => ?_⟩
  · by_cases z : n' = n ∧ i' = i ∧ j' = j
    · obtain ⟨rfl, rfl, rfl⟩ := z
      rw [up3_s]; omega
    · rw [up3_n z]; exact I1 _ _ _ hv'
  · by_cases z : n' = n ∧ i' = i ∧ j' = j
    · obtain ⟨rfl, rfl, rfl⟩ := z
      rw [up3_s] at ek
      have : k = m := by omega
      subst this
      exact ⟨pu_HT_im W A hv.2.2 t, fun z => I3 _ _ _ hv h0 (pu_HT_im W (pu_ag_sy (pu_ag_le A (by omega))) hv.2.2 z)⟩
    · rw [up3_n z] at ek
      have b := I1 _ _ _ hv'
      have a := I2 _ _ _ hv' k ek
      exact ⟨pu_HT_im W (pu_ag_le A (by omega)) hv'.2.2 a.1, fun z => a.2 (pu_HT_im W (pu_ag_sy (pu_ag_le A (by omega))) hv'.2.2 z)⟩
  · exact I3 _ _ _ hv' (Z _ _ _ e0) (pu_HT_im W (pu_ag_sy (pu_ag_le A (by omega))) hv'.2.2 z)
  · exact I4 _ _ _ hv' d (Z _ _ _ e0) (pu_HT_im W (pu_ag_sy A) hv'.2.2 z)
def ym_Chart (g : gr_G) (hts : Nat → Int32) : Prop := pu_HS g (pu_HH g) ∧ ym_H g hts (pu_HH g) ∧ ym_0 g hts
section
variable {g : gr_G} {f_goal f_extra f_measured f_known f_more : Int32} {f_sum : Int64} {a_left a_size a_right a_text a_ops a_constants a_heights : Nat → Int32} {a_many : Nat → Int64} {a_chosen a_firstEnd a_secondEnd : Nat → Int32} {a_values a_nodes : Nat → Int64} {a_far a_productive a_useful a_covers : Nat → Int32}
theorem ys_deriveSpan {post : SY → Prop} {m i j : Nat} (W : gr_W g) (hm : m ≤ 605) (hij : i ≤ j) (hj : j ≤ gr_L g) (tx : xm_T g a_text) (mR : xm_R g a_right) (mF : xm_F g a_left) (mZ : ym_Z g a_size) (l : yd_L g m (yd_dn i j 0) f_more a_heights) (hpost : ∀ (f_more : Int32) (a_heights : Nat → Int32), yd_L g m (yd_dn i j 5) f_more a_heights → post (nI (gr_P g), nI (gr_L g), f_goal, f_extra, f_measured, f_known, f_more, f_sum, a_left, a_size, a_right, a_text, a_ops, a_constants, a_heights, a_many, a_chosen, a_firstEnd, a_secondEnd, a_values, a_nodes, a_far, a_productive, a_useful, a_covers)) : wpY_deriveSpan post (nI (gr_P g), nI (gr_L g), f_goal, f_extra, f_measured, f_known, f_more, f_sum, a_left, a_size, a_right, a_text, a_ops, a_constants, a_heights, a_many, a_chosen, a_firstEnd, a_secondEnd, a_values, a_nodes, a_far, a_productive, a_useful, a_covers) (nI i) (nI j) (nI (m + 1)) := by
  have K : ∀ d n, n + d = 5 → ∀ (f_more : Int32) (a_heights : Nat → Int32), yd_L g m (yd_dn i j n) f_more a_heights → wY_deriveSpan_4 post (nI i) (nI j) (nI (m + 1)) (nI (gr_P g)) (nI (gr_L g)) f_goal f_extra f_measured f_known f_sum (d + 1) (nI (10 + n)) f_more a_left a_size a_right a_text a_ops a_constants a_heights a_many a_chosen a_firstEnd a_secondEnd a_values a_nodes a_far a_productive a_useful a_covers := by
    intro d
    induction d with
    | zero =>
      intro n hn f_more a_heights l
      have e : n = 5 := by omega
      subst e
      exact br_t (nI_le (a := 15) (b := 15) (by decide) (by decide)) (hpost _ _ l)
    | succ d ih =>
      intro n hn f_more a_heights l
      have hv : pu_V g n i j := ⟨by omega, hij, hj⟩
      have hl := cy_lt W hv
      have hin : vp_in (nI (cy n i j)) 980 := vp_in_nI hl (by decide)
      have ec : (nI (cy n i j)).toNatClampNeg = cy n i j := nI_clamp (by omega)
      obtain ⟨H, mH, m0, I, b, c⟩ := l
      have hb : ∀ n i j, pu_V g n i j → H n i j ≤ 1000 := fun n i j h => by have := I.1 n i j h; omega
      have hbc := hb _ _ _ hv
      refine br_f (nI_ge (b := 15) (by omega) (by decide)) (ys_cell n i j rfl rfl rfl ⟨hin, ?_⟩)
      refine pk_eq (H n i j) 0 (fun e => ?_) (fun e => nm_r (nI_1 (10 + n)) (ih (n + 1) (by omega) _ _ ⟨H, mH, m0, ⟨I.1, I.2.1, I.2.2.1, fun n' i' j' hv' q e' => ?_⟩, b, c⟩)) (by rw [ec]; exact mH _ _ _ hv)
      · refine ys_hasTree W hv (by omega) (by omega) tx mR mF mZ mH hb (fun t => br_f (by decide) ⟨hin, nm_r (e' := upd a_heights (cy n i j) (nI (m + 1))) (by rw [ec]) (nm_r (nI_1 (10 + n)) (ih (n + 1) (by omega) 1 _ ⟨_, ym_H_up W mH hv (m + 1), ym_0_up W m0 hv, ?_, ?_, Or.inr ⟨rfl, ?_⟩⟩))⟩) (fun t => br_t rfl (nm_r (nI_1 (10 + n)) (ih (n + 1) (by omega) _ _ ⟨H, mH, m0, ⟨I.1, I.2.1, I.2.2.1, fun n' i' j' hv' q e' => ?_⟩, b, c⟩)))
        · have I' := yd_fill W I hv e t
          refine ⟨I'.1, I'.2.1, I'.2.2.1, fun n' i' j' hv' q e' => ?_⟩
          by_cases z : n' = n ∧ i' = i ∧ j' = j
          · obtain ⟨rfl, rfl, rfl⟩ := z
            rw [up3_s] at e'; omega
          · exact I'.2.2.2 n' i' j' hv' (by unfold yd_dn at *; omega) e'
        · have := yc_up W hv e (show m + 1 ≠ 0 by omega); omega
        · have := yc_up W hv e (show m + 1 ≠ 0 by omega); omega
        · by_cases z : n' = n ∧ i' = i ∧ j' = j
          · obtain ⟨rfl, rfl, rfl⟩ := z; exact t
          · exact I.2.2.2 n' i' j' hv' (by unfold yd_dn at *; omega) e'
      · by_cases z : n' = n ∧ i' = i ∧ j' = j
        · obtain ⟨rfl, rfl, rfl⟩ := z; exact absurd e' e
        · exact I.2.2.2 n' i' j' hv' (by unfold yd_dn at *; omega) e'
  exact ⟨5 + 1, K 5 0 rfl _ _ l⟩
theorem ys_derive {post : SY → Prop} (W : gr_W g) (tx : xm_T g a_text) (mR : xm_R g a_right) (mF : xm_F g a_left) (mZ : ym_Z g a_size) (hpost : ∀ (f_more : Int32) (a_heights : Nat → Int32), ym_Chart g a_heights → post (nI (gr_P g), nI (gr_L g), f_goal, f_extra, f_measured, f_known, f_more, f_sum, a_left, a_size, a_right, a_text, a_ops, a_constants, a_heights, a_many, a_chosen, a_firstEnd, a_secondEnd, a_values, a_nodes, a_far, a_productive, a_useful, a_covers)) : wpY_derive post (nI (gr_P g), nI (gr_L g), f_goal, f_extra, f_measured, f_known, f_more, f_sum, a_left, a_size, a_right, a_text, a_ops, a_constants, a_heights, a_many, a_chosen, a_firstEnd, a_secondEnd, a_values, a_nodes, a_far, a_productive, a_useful, a_covers) := by
  have hL := W.2.1
  have K60 : ∀ {J29 J50 : Int32 → Int32 → Int32 → Int32 → Int32 → Int32 → Int32 → Int32 → Int64 → (Nat → Int32) → (Nat → Int32) → (Nat → Int32) → (Nat → Int32) → (Nat → Int32) → (Nat → Int32) → (Nat → Int32) → (Nat → Int64) → (Nat → Int32) → (Nat → Int32) → (Nat → Int32) → (Nat → Int64) → (Nat → Int64) → (Nat → Int32) → (Nat → Int32) → (Nat → Int32) → (Nat → Int32) → Prop} (m i : Nat), m ≤ 605 → i ≤ gr_L g → (∀ (f_more : Int32) (a_heights : Nat → Int32), yd_L g m (yd_dn (i + 1) (i + 1) 0) f_more a_heights → J50 (nI (i + 1)) (nI (gr_P g)) (nI (gr_L g)) f_goal f_extra f_measured f_known f_more f_sum a_left a_size a_right a_text a_ops a_constants a_heights a_many a_chosen a_firstEnd a_secondEnd a_values a_nodes a_far a_productive a_useful a_covers) → ∀ d j, j + d = gr_L g + 1 → i ≤ j → ∀ (f_more : Int32) (a_heights : Nat → Int32), yd_L g m (yd_dn i j 0) f_more a_heights → wY_derive_60 post J29 J50 (nI (m + 1)) (nI i) (d + 1) (nI j) (nI (gr_P g)) (nI (gr_L g)) f_goal f_extra f_measured f_known f_more f_sum a_left a_size a_right a_text a_ops a_constants a_heights a_many a_chosen a_firstEnd a_secondEnd a_values a_nodes a_far a_productive a_useful a_covers := by
    intro J29 J50 m i hm hi hJ d
    induction d with
    | zero =>
      intro j hj hij f_more a_heights l
      refine br_t (nI_lt (by omega) (by omega)) (nm_r (nI_1 i) (hJ _ _ (yd_L_dn l (fun n' i' j' hv q => ?_))))
      unfold pu_V at hv; unfold yd_dn at *; omega
    | succ d ih =>
      intro j hj hij f_more a_heights l
      refine br_f (nI_nlt (by omega) (by omega)) (ys_deriveSpan (g := g) W hm hij (by omega) tx mR mF mZ l (fun f_more a_heights l' => nm_r (nI_1 j) (ih (j + 1) (by omega) (by omega) _ _ (yd_L_dn l' (fun n' i' j' hv q => ?_)))))
      unfold pu_V at hv; unfold yd_dn at *; omega
  have K50 : ∀ {J29 : Int32 → Int32 → Int32 → Int32 → Int32 → Int32 → Int32 → Int32 → Int64 → (Nat → Int32) → (Nat → Int32) → (Nat → Int32) → (Nat → Int32) → (Nat → Int32) → (Nat → Int32) → (Nat → Int32) → (Nat → Int64) → (Nat → Int32) → (Nat → Int32) → (Nat → Int32) → (Nat → Int64) → (Nat → Int64) → (Nat → Int32) → (Nat → Int32) → (Nat → Int32) → (Nat → Int32) → Prop} (m : Nat), m ≤ 605 → (∀ (f_more : Int32) (a_heights : Nat → Int32), yd_L g m (fun _ _ _ => True) f_more a_heights → J29 (nI (m + 1 + 1)) (nI (gr_P g)) (nI (gr_L g)) f_goal f_extra f_measured f_known f_more f_sum a_left a_size a_right a_text a_ops a_constants a_heights a_many a_chosen a_firstEnd a_secondEnd a_values a_nodes a_far a_productive a_useful a_covers) → ∀ d i, i + d = gr_L g + 1 → ∀ (f_more : Int32) (a_heights : Nat → Int32), yd_L g m (yd_dn i i 0) f_more a_heights → wY_derive_50 post J29 (nI (m + 1)) (d + 1) (nI i) (nI (gr_P g)) (nI (gr_L g)) f_goal f_extra f_measured f_known f_more f_sum a_left a_size a_right a_text a_ops a_constants a_heights a_many a_chosen a_firstEnd a_secondEnd a_values a_nodes a_far a_productive a_useful a_covers := by
    intro J29 m hm hJ d
    induction d with
    | zero =>
      intro i hi f_more a_heights l
      refine br_t (nI_lt (by omega) (by omega)) (nm_r (nI_1 (m + 1)) (hJ _ _ (yd_L_dn l (fun n' i' j' hv q => ?_))))
      unfold pu_V at hv; unfold yd_dn at *; omega
    | succ d ih =>
      intro i hi f_more a_heights l
      exact br_f (nI_nlt (by omega) (by omega)) ⟨d + 1 + 1, K60 m i hm (by omega) (fun f_more a_heights l' => ih (i + 1) (by omega) _ _ l') (d + 1) i (by omega) (Nat.le_refl _) _ _ l⟩
  have K29 : ∀ d m, m + d = 606 → ∀ (f_more : Int32) (a_heights : Nat → Int32), (∃ H, ym_H g a_heights H ∧ ym_0 g a_heights ∧ (∀ n i j, pu_V g n i j → H n i j ≤ m) ∧ (∀ n i j, pu_V g n i j → ∀ k, H n i j = k + 1 → pu_HT g H n i j (k + 1) ∧ ¬ pu_HT g H n i j k) ∧ (∀ n i j, pu_V g n i j → H n i j = 0 → ¬ pu_HT g H n i j m) ∧ ((f_more = 0 ∧ pu_HS g H) ∨ (f_more = 1 ∧ m ≤ yc_H g H))) → wY_derive_29 post (d + 1) (nI (m + 1)) (nI (gr_P g)) (nI (gr_L g)) f_goal f_extra f_measured f_known f_more f_sum a_left a_size a_right a_text a_ops a_constants a_heights a_many a_chosen a_firstEnd a_secondEnd a_values a_nodes a_far a_productive a_useful a_covers := by
    intro d
    induction d with
    | zero =>
      intro m hm f_more a_heights l
      obtain ⟨H, mH, m0, I1, I2, I3, ⟨rfl, S⟩ | ⟨_, mu⟩⟩ := l
      · exact br_f (nI_ge (b := 981) (by omega) (by decide)) (br_t rfl (hpost _ _ ⟨pu_HH_s S, fun n i j hv => by rw [mH n i j hv, pu_HH_e W S hv], m0⟩))
      · have : yc_H g H ≤ 605 := pu_cnt_le _ _
        omega
    | succ d ih =>
      intro m hm f_more a_heights l
      obtain ⟨H, mH, m0, I1, I2, I3, ⟨rfl, S⟩ | ⟨rfl, mu⟩⟩ := l
      · exact br_f (nI_ge (b := 981) (by omega) (by decide)) (br_t rfl (hpost _ _ ⟨pu_HH_s S, fun n i j hv => by rw [mH n i j hv, pu_HH_e W S hv], m0⟩))
      · refine br_f (nI_ge (b := 981) (by omega) (by decide)) (br_f (by decide) ⟨gr_L g + 1 + 1, ?_⟩)
        refine K50 m (by omega) (fun f_more a_heights l' => ih (m + 1) (by omega) _ _ ?_) (gr_L g + 1) 0 (by omega) 0 _ ⟨H, mH, m0, ⟨fun n i j hv => by have := I1 n i j hv; omega, I2, I3, fun n i j hv q => by unfold yd_dn at q; omega⟩, mu, Or.inl ⟨rfl, I1⟩⟩
        obtain ⟨H', mH', m0', ⟨J1, J2, J3, J4⟩, b', c'⟩ := l'
        refine ⟨H', mH', m0', J1, J2, fun n i j hv e => J4 n i j hv trivial e, ?_⟩
        obtain ⟨rfl, le⟩ | ⟨rfl, mu'⟩ := c'
        · refine Or.inl ⟨rfl, fun n i j hv => ⟨fun e h z => J4 n i j hv trivial e (pu_HT_cut W le hv.2.2 z), J2 n i j hv, ?_⟩⟩
          have := le n i j hv; omega
        · exact Or.inr ⟨rfl, mu'⟩
  have K2 : ∀ d x, x + d = 980 → ∀ (a_heights : Nat → Int32), (∀ y, y < x → a_heights y = 0) → wY_derive_2 post (nI (gr_P g)) (nI (gr_L g)) f_goal f_extra f_measured f_known f_more f_sum (d + 1) (nI x) a_left a_size a_right a_text a_ops a_constants a_heights a_many a_chosen a_firstEnd a_secondEnd a_values a_nodes a_far a_productive a_useful a_covers := by
    intro d
    induction d with
    | zero =>
      intro x hx a_heights hz
      have e : x = 980 := by omega
      subst e
      exact br_t (nI_le (a := 980) (b := 980) (by decide) (by decide)) ⟨606 + 1, K29 606 0 (by decide) 1 _ ⟨fun _ _ _ => 0, fun n i j hv => hz _ (cy_lt W hv), fun x hx _ => hz x hx, fun _ _ _ _ => Nat.le_refl _, fun n i j hv k e => absurd e (Nat.succ_ne_zero k).symm, fun n i j hv e z => absurd z.1 (by decide), Or.inr ⟨rfl, Nat.zero_le _⟩⟩⟩
    | succ d ih =>
      intro x hx a_heights hz
      refine br_f (nI_ge (b := 980) (by omega) (by decide)) ⟨vp_in_nI (by omega) (by decide), nm_r (e' := upd a_heights x 0) (by rw [nI_clamp (by omega)]) (nm_r (nI_1 x) (ih (x + 1) (by omega) _ (fun y hy => ?_)))⟩
      by_cases c : y = x
      · rw [c, pk_us]
      · rw [pk_un c]; exact hz y (by omega)
  exact ⟨980 + 1, K2 980 0 rfl _ (fun y hy => absurd hy (by omega))⟩
end
