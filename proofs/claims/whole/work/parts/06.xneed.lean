/-! the chart of the component: the whole -/
def xm_Chart (g : gr_G) (hts ch fe se ord : Nat → Int32) (fl : Nat) : Prop := pu_HS g (pu_HH g) ∧ xm_K g (pu_HH g) hts ch fe se ord fl
def xm_N (g : gr_G) (m : Nat) (gr : Int32) (hts ch fe se ord : Nat → Int32) (fl : Nat) : Prop := ∃ H, xm_K g H hts ch fe se ord fl ∧ (∀ n i j, pu_V g n i j → H n i j ≤ m) ∧ (∀ n i j, pu_V g n i j → ∀ k, H n i j = k + 1 → pu_HT g H n i j (k + 1) ∧ ¬ pu_HT g H n i j k) ∧ (∀ n i j, pu_V g n i j → H n i j = 0 → ¬ pu_HT g H n i j m) ∧ ((gr = 1 ∧ m ≤ fl) ∨ (gr = 0 ∧ pu_HS g H))
theorem xm_K_eq {g : gr_G} {H H' : pu_C} {hts ch fe se ord : Nat → Int32} {fl : Nat} (W : gr_W g) (K : xm_K g H hts ch fe se ord fl) (e : ∀ n i j, pu_V g n i j → H n i j = H' n i j) : xm_K g H' hts ch fe se ord fl := by
  obtain ⟨mH, efl, ch1, O1, O2, O3⟩ := K
  refine ⟨fun n i j hv => by rw [mH n i j hv, e n i j hv], efl, fun n i j hv h0 => ?_, fun k hk => ?_, fun k k' n i j n' i' j' h1 h2 h3 h4 h5 h6 => ?_, fun n i j hv h0 => ?_⟩
  · obtain ⟨p, u, v, e1, e2, e3, c⟩ := ch1 n i j hv (by rw [e n i j hv]; exact h0)
    exact ⟨p, u, v, e1, e2, e3, pu_Ch_ag W hv.2.2 (e n i j hv) (pu_ag_eq e _) c⟩
  · obtain ⟨n, i, j, hv, e1, h0⟩ := O1 k hk
    exact ⟨n, i, j, hv, e1, by rw [← e n i j hv]; exact h0⟩
  · rw [← e n i j h3, ← e n' i' j' h4]; exact O2 k k' n i j n' i' j' h1 h2 h3 h4 h5 h6
  · exact O3 n i j hv (by rw [e n i j hv]; exact h0)
theorem xm_Chart_of {g : gr_G} {H : pu_C} {hts ch fe se ord : Nat → Int32} {fl : Nat} (W : gr_W g) (K : xm_K g H hts ch fe se ord fl) (S : pu_HS g H) : xm_Chart g hts ch fe se ord fl :=
  ⟨pu_HH_s S, xm_K_eq W K (fun _ _ _ hv => pu_HH_e W S hv)⟩
theorem pu_ps_cut {g : gr_G} {H : pu_C} {m s i j h : Nat} (b : ∀ n i j, pu_V g n i j → H n i j ≤ m) (ok : pu_ok s) (hij : i ≤ j) (hj : j ≤ gr_L g) (f : pu_ps g H s i j h) : pu_ps g H s i j (m + 1) := by
  by_cases c : 10 ≤ s ∧ s < 99
  · have := b _ _ _ (xb_ntV ok c hij hj)
    rw [pu_ps_n c] at *; omega
  · unfold pu_ps at *
    by_cases h99 : s = 99
    · rw [if_pos h99] at *; exact f
    · rw [if_neg h99] at *
      have h10 : s < 10 := by unfold pu_ok at ok; omega
      rw [if_pos h10] at *; exact f
theorem pu_HT_cut {g : gr_G} {H : pu_C} {m n i j h : Nat} (W : gr_W g) (b : ∀ n i j, pu_V g n i j → H n i j ≤ m) (hj : j ≤ gr_L g) (f : pu_HT g H n i j h) : pu_HT g H n i j (m + 1) := by
  obtain ⟨h0, p, u, v, hp, hn, a1, a2, a3, f1, f2, f3⟩ := f
  exact ⟨by omega, p, u, v, hp, hn, a1, a2, a3, pu_ps_cut b (pu_okR0 W hp) a1 (by omega) f1, pu_ps_cut b (pu_okR W hp (by decide)) a2 (by omega) f2, pu_ps_cut b (pu_okR W hp (by decide)) a3 hj f3⟩
theorem xm_N_of {g : gr_G} {m B fl : Nat} {hts ch fe se ord : Nat → Int32} (W : gr_W g) (hm : m < 605) (hB : m ≤ B) (l : xm_L g m B (xm_dn (gr_P g) 0 0) hts ch fe se ord fl) : (fl ≤ B → xm_N g (m + 1) 0 hts ch fe se ord fl) ∧ (B < fl → xm_N g (m + 1) 1 hts ch fe se ord fl) := by
  obtain ⟨H, K, ⟨I1, I2, I3, I4⟩, b, c⟩ := l
  have R : ∀ n i j, pu_V g n i j → H n i j = 0 → ¬ pu_HT g H n i j (m + 1) := by
    intro n i j hv e z
    obtain ⟨h0, p, u, v, hp, hn, a1, a2, a3, f⟩ := z
    exact I4 p i j hp hv.2.1 hv.2.2 (Or.inl hp) (by rw [hn]; exact e) u v a1 a2 a3 f
  refine ⟨fun q => ⟨H, K, I1, I2, R, Or.inr ⟨rfl, fun n i j hv => ⟨fun e h z => ?_, I2 n i j hv, ?_⟩⟩⟩, fun q => ⟨H, K, I1, I2, R, Or.inl ⟨rfl, by omega⟩⟩⟩
  · exact R n i j hv e (pu_HT_cut W (c q) hv.2.2 z)
  · have := I1 n i j hv; omega
section
variable {g : gr_G} {f_chartReady f_countsReady f_distancesReady f_followsReady f_filled : Int32} {a_lefts a_rights a_ops a_constants a_text a_heights a_chosen a_firstEnds a_secondEnds a_order a_counts a_distances a_follows a_sizes : Nat → Int32} {a_values a_operands : Nat → Int64} {a_productive a_used : Nat → Int32}
theorem xs_needChart {post : SX → Prop} (W : gr_W g) (tx : xm_T g a_text) (mR : xm_R g a_rights) (mF : xm_F g a_lefts) (hr : f_chartReady ≠ 0 → ∃ fl, f_filled = nI fl ∧ xm_Chart g a_heights a_chosen a_firstEnds a_secondEnds a_order fl)
    (hpost : ∀ (fl : Nat) (f_chartReady : Int32) (a_heights a_chosen a_firstEnds a_secondEnds a_order : Nat → Int32), f_chartReady ≠ 0 → xm_Chart g a_heights a_chosen a_firstEnds a_secondEnds a_order fl → post (nI (gr_P g), nI (gr_L g), f_chartReady, f_countsReady, f_distancesReady, f_followsReady, nI fl, a_lefts, a_rights, a_ops, a_constants, a_text, a_heights, a_chosen, a_firstEnds, a_secondEnds, a_order, a_counts, a_distances, a_follows, a_sizes, a_values, a_operands, a_productive, a_used)) : wpX_needChart post (nI (gr_P g), nI (gr_L g), f_chartReady, f_countsReady, f_distancesReady, f_followsReady, f_filled, a_lefts, a_rights, a_ops, a_constants, a_text, a_heights, a_chosen, a_firstEnds, a_secondEnds, a_order, a_counts, a_distances, a_follows, a_sizes, a_values, a_operands, a_productive, a_used) := by
  have K39 : ∀ d m, m + d = 605 → ∀ (gr : Int32) (fl : Nat) (a_heights a_chosen a_firstEnds a_secondEnds a_order : Nat → Int32), xm_N g m gr a_heights a_chosen a_firstEnds a_secondEnds a_order fl → wX_needChart_39 post (d + 1) gr (nI (m + 1)) (nI (gr_P g)) (nI (gr_L g)) f_chartReady f_countsReady f_distancesReady f_followsReady (nI fl) a_lefts a_rights a_ops a_constants a_text a_heights a_chosen a_firstEnds a_secondEnds a_order a_counts a_distances a_follows a_sizes a_values a_operands a_productive a_used := by
    intro d
    induction d with
    | zero =>
      intro m hm gr fl a_heights a_chosen a_firstEnds a_secondEnds a_order l
      have e : m = 605 := by omega
      subst e
      obtain ⟨H, K, I1, I2, I3, l⟩ := l
      refine br_t (nI_le (a := 606) (b := 606) (by decide) (by decide)) (hpost fl 1 _ _ _ _ _ (by decide) (xm_Chart_of W K ?_))
      obtain ⟨_, l⟩ | ⟨_, l⟩ := l
      · intro n i j hv
        refine ⟨fun e h => ?_, I2 n i j hv, I1 n i j hv⟩
        have := pu_cnt_full (by rw [← K.2.1]; exact l) (cx_lt W hv)
        rw [K.1 _ _ _ hv, e] at this
        exact absurd this (by decide)
      · exact l
    | succ d ih =>
      intro m hm gr fl a_heights a_chosen a_firstEnds a_secondEnds a_order l
      obtain ⟨H, K, I1, I2, I3, l⟩ := l
      refine br_f (nI_ge (b := 606) (by omega) (by decide)) ?_
      obtain ⟨rfl, l⟩ | ⟨rfl, l⟩ := l
      · refine br_f (by decide) ?_
        refine xs_fillHeight (g := g) (B := fl) W (by omega) tx mR mF ⟨H, K, ⟨fun n i j hv => by have := I1 n i j hv; omega, I2, I3, fun p i j _ _ _ h => by unfold xm_dn at h; omega⟩, Nat.le_refl _, fun _ => I1⟩ (fun fl' a1 a2 a3 a4 a5 l' => ?_)
        have z := xm_N_of W (by omega) l l'
        exact ⟨fun q => nm_r (nI_1 (m + 1)) (ih (m + 1) (by omega) 0 fl' _ _ _ _ _ (z.1 q)), fun q => nm_r (nI_1 (m + 1)) (ih (m + 1) (by omega) 1 fl' _ _ _ _ _ (z.2 q))⟩
      · exact br_t rfl (hpost fl 1 _ _ _ _ _ (by decide) (xm_Chart_of W K l))
  have K10 : ∀ d x, x + d = 605 → ∀ (a_heights : Nat → Int32), (∀ y, y < x → a_heights y = 0) → wX_needChart_10 post (nI (gr_P g)) (nI (gr_L g)) f_chartReady f_countsReady f_distancesReady f_followsReady f_filled (d + 1) (nI x) a_lefts a_rights a_ops a_constants a_text a_heights a_chosen a_firstEnds a_secondEnds a_order a_counts a_distances a_follows a_sizes a_values a_operands a_productive a_used := by
    intro d
    induction d with
    | zero =>
      intro x hx a_heights hz
      have e : x = 605 := by omega
      subst e
      refine br_t (nI_le (a := 605) (b := 605) (by decide) (by decide)) ⟨605 + 1, K39 605 0 rfl 1 0 _ _ _ _ _ ⟨fun _ _ _ => 0, ⟨fun n i j hv => hz _ (cx_lt W hv), ?_, fun n i j hv h => absurd h (Nat.lt_irrefl 0), fun k hk => absurd hk (by omega), fun k k' _ _ _ _ _ _ _ hk => absurd hk (by omega), fun n i j hv h => absurd h (Nat.lt_irrefl 0)⟩, fun _ _ _ _ => Nat.le_refl _, fun n i j hv k e => absurd e (Nat.succ_ne_zero k).symm, fun n i j hv e z => absurd z.1 (by decide), Or.inl ⟨rfl, by decide⟩⟩⟩
      have : ∀ n, n ≤ 605 → pu_cnt (fun x => decide (a_heights x ≠ 0)) n = 0 := by
        intro n
        induction n with
        | zero => intro _; rfl
        | succ n ih => intro hn; unfold pu_cnt; rw [ih (by omega), hz n (by omega)]; rfl
      exact (this 605 (by decide)).symm
    | succ d ih =>
      intro x hx a_heights hz
      refine br_f (nI_ge (b := 605) (by omega) (by decide)) ⟨pk_in x 605 (by omega), nm_r (e' := upd a_heights x 0) (by rw [nI_clamp (by omega)]) (nm_r (nI_1 x) (ih (x + 1) (by omega) _ (fun y hy => ?_)))⟩
      by_cases c : y = x
      · rw [c, pk_us]
      · rw [pk_un c]; exact hz y (by omega)
  refine br_c (fun _ => ⟨605 + 1, K10 605 0 rfl _ (fun y hy => absurd hy (by omega))⟩) (fun z => ?_)
  obtain ⟨fl, rfl, c⟩ := hr z
  exact hpost fl _ _ _ _ _ _ z c
end
