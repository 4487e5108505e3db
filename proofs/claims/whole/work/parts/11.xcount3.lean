/-! the component: how many trees, until nothing changes -/
def xm_Cts (g : gr_G) (cts : Nat → Int32) : Prop := pu_CS g (pu_CC g) ∧ xm_c g cts (pu_CC g)
def xc_mu (cts : Nat → Int32) : Nat := pu_cnt (fun x => decide (cts x = -3)) 605
theorem xm_c_up {g : gr_G} {cts : Nat → Int32} {f : pu_C} (W : gr_W g) (mc : xm_c g cts f) {n i j v : Nat} (hv : pu_V g n i j) (h0 : 0 < pu_HH g n i j) (hp : 0 < v) : xm_c g (upd cts (cx n i j) (nI v)) (up3 f n i j v) := by
  intro a b c hv'
  by_cases z : a = n ∧ b = i ∧ c = j
  · obtain ⟨rfl, rfl, rfl⟩ := z
    rw [pk_us, up3_s]; unfold xc_v; rw [if_neg (by omega), if_neg (by omega)]
  · rw [up3_n z, pk_un (fun e => z (cx_inj W hv' hv (congrArg nI e)))]
    exact mc a b c hv'
/-- the pass over the filled cells, at k -/
def xc_P (g : gr_G) (ord : Nat → Int32) (m0 k : Nat) (x1 : Int32) (cts : Nat → Int32) : Prop := ∃ f, pu_CI g f ∧ xm_c g cts f ∧ ((x1 = 0 ∧ xc_mu cts ≤ m0 ∧ ∀ k', k' < k → ∀ n i j, pu_V g n i j → ord k' = nI (cx n i j) → f n i j = 0 → ¬ pu_al g (pu_ps' f) n i j) ∨ (x1 = 1 ∧ xc_mu cts < m0))
section
variable {g : gr_G} {f_chartReady f_countsReady f_distancesReady f_followsReady f_filled : Int32} {a_lefts a_rights a_ops a_constants a_text a_heights a_chosen a_firstEnds a_secondEnds a_order a_counts a_distances a_follows a_sizes : Nat → Int32} {a_values a_operands : Nat → Int64} {a_productive a_used : Nat → Int32}
theorem xs_nc63 {post : SX → Prop} {J48 : Int32 → Int32 → (Nat → Int32) → (Nat → Int32) → (Nat → Int32) → (Nat → Int32) → (Nat → Int32) → (Nat → Int32) → (Nat → Int32) → (Nat → Int32) → (Nat → Int32) → (Nat → Int32) → (Nat → Int32) → (Nat → Int32) → (Nat → Int32) → (Nat → Int32) → (Nat → Int64) → (Nat → Int64) → (Nat → Int32) → (Nat → Int32) → Prop} {m0 r fl : Nat} (W : gr_W g) (tx : xm_T g a_text) (mR : xm_R g a_rights) (mF : xm_F g a_lefts) (C : xm_Chart g a_heights a_chosen a_firstEnds a_secondEnds a_order fl)
    (hJ : ∀ (x1 : Int32) (a_counts : Nat → Int32), xc_P g a_order m0 fl x1 a_counts → J48 x1 (nI (r + 1)) a_lefts a_rights a_ops a_constants a_text a_heights a_chosen a_firstEnds a_secondEnds a_order a_counts a_distances a_follows a_sizes a_values a_operands a_productive a_used) :
    ∀ d k, k + d = fl → ∀ (x1 : Int32) (a_counts : Nat → Int32), xc_P g a_order m0 k x1 a_counts → wX_needCounts_63 post J48 (nI r) (nI (gr_P g)) (nI (gr_L g)) f_chartReady f_countsReady f_distancesReady f_followsReady (nI fl) (d + 1) x1 (nI k) a_lefts a_rights a_ops a_constants a_text a_heights a_chosen a_firstEnds a_secondEnds a_order a_counts a_distances a_follows a_sizes a_values a_operands a_productive a_used := by
  have hL := W.2.1
  obtain ⟨S, K⟩ := C
  have hfl : fl ≤ 605 := by rw [K.2.1]; exact pu_cnt_le _ _
  intro d
  induction d with
  | zero =>
    intro k hk x1 a_counts I
    have e : k = fl := by omega
    subst e
    exact br_t (nI_le (Nat.le_refl _) (by omega)) (nm_r (nI_1 r) (hJ x1 a_counts I))
  | succ d ih =>
    intro k hk x1 a_counts I
    obtain ⟨n, i, j, hv, eo, h0⟩ := K.2.2.2.1 k (by omega)
    have hl := cx_lt W hv
    have hin : vp_in (nI (cx n i j)) 605 := vp_in_nI hl (by decide)
    have ec : (nI (cx n i j)).toNatClampNeg = cx n i j := nI_clamp (by omega)
    refine br_f (nI_ge (by omega) (by omega)) ⟨vp_in_nI (by omega) (by decide), nm_r (e' := nI (cx n i j)) (by rw [nI_clamp (by omega)]; exact eo) ⟨hin, ?_⟩⟩
    obtain ⟨f, CI, mc, fl1⟩ := I
    have cv := mc n i j hv
    by_cases f0 : f n i j = 0
    · have cv3 : a_counts (cx n i j) = -3 := by rw [cv]; unfold xc_v; rw [if_neg (by omega), if_pos f0]
      refine br_t (by rw [ec]; exact cv3) ?_
      refine xs_countCell (g := g) (f := f) W hv tx mR mF S mc (fun _ _ _ h => pu_CI_le CI h) (fun na => ⟨hin, nm_r (e' := a_counts) (by rw [ec]; exact xb_up cv3) ?_⟩) (fun al => ?_)
      · obtain ⟨rfl, mu, hi⟩ | ⟨rfl, mu⟩ := fl1
        · refine br_t rfl ⟨hin, br_t (by rw [ec]; exact cv3) (nm_r (nI_1 k) (ih (k + 1) (by omega) 0 a_counts ⟨f, CI, mc, Or.inl ⟨rfl, mu, fun k' hk' n' i' j' hv' e' => ?_⟩⟩))⟩
          by_cases c : k' = k
          · rw [c, eo] at e'
            obtain ⟨rfl, rfl, rfl⟩ := cx_inj W hv hv' e'
            exact fun _ => na
          · exact hi k' (by omega) n' i' j' hv' e'
        · exact br_f (by decide) (nm_r (nI_1 k) (ih (k + 1) (by omega) 1 a_counts ⟨f, CI, mc, Or.inr ⟨rfl, mu⟩⟩))
      · obtain ⟨p, u, v, hp, hn, h1, h2, h3, G⟩ := pu_tree W S hv h0
        have pos : 0 < pu_cap (pu_s3 g f n i j (gr_P g)) := pu_cap_pos (pu_s3_pos hp hn h1 h2 h3 G (al p u v hp hn h1 h2 h3 G))
        have cl := pu_cap_le (pu_s3 g f n i j (gr_P g))
        have n3 := xb_neg3 (pu_cap (pu_s3 g f n i j (gr_P g))) (by omega)
        have CI' := (pu_CI_up W CI hv h0 f0 al).1
        have mc' := xm_c_up W mc hv h0 pos
        have mu' : xc_mu (upd a_counts (cx n i j) (nI (pu_cap (pu_s3 g f n i j (gr_P g))))) < xc_mu a_counts := by
          refine pu_cnt_lt (x0 := cx n i j) (by rw [pk_us]; exact decide_eq_false n3) (by rw [cv3]; rfl) (fun x _ hx => ?_) hl
          by_cases c : x = cx n i j
          · rw [c, cv3]; rfl
          · rw [pk_un c] at hx; exact hx
        have st : wX_needCounts_63 post J48 (nI r) (nI (gr_P g)) (nI (gr_L g)) f_chartReady f_countsReady f_distancesReady f_followsReady (nI fl) (d + 1) 1 (nI (k + 1)) a_lefts a_rights a_ops a_constants a_text a_heights a_chosen a_firstEnds a_secondEnds a_order (upd a_counts (cx n i j) (nI (pu_cap (pu_s3 g f n i j (gr_P g))))) a_distances a_follows a_sizes a_values a_operands a_productive a_used := ih (k + 1) (by omega) 1 _ ⟨_, CI', mc', Or.inr ⟨rfl, by obtain ⟨_, mu, _⟩ | ⟨_, mu⟩ := fl1 <;> omega⟩⟩
        refine ⟨hin, nm_r (e' := upd a_counts (cx n i j) (nI (pu_cap (pu_s3 g f n i j (gr_P g))))) (by rw [ec]) (br_c (fun _ => ⟨hin, br_f (by rw [ec, pk_us]; exact n3) (nm_r (nI_1 k) st)⟩) (fun _ => nm_r (nI_1 k) st))⟩
    · have cvn : a_counts (cx n i j) = nI (f n i j) := by rw [cv]; unfold xc_v; rw [if_neg (by omega), if_neg f0]
      refine br_f (by rw [ec, cvn]; exact xb_neg3 _ (by have := pu_CI_le CI hv; omega)) (nm_r (nI_1 k) (ih (k + 1) (by omega) x1 a_counts ⟨f, CI, mc, ?_⟩))
      obtain ⟨rfl, mu, hi⟩ | q := fl1
      · refine Or.inl ⟨rfl, mu, fun k' hk' n' i' j' hv' e' => ?_⟩
        by_cases c : k' = k
        · rw [c, eo] at e'
          obtain ⟨rfl, rfl, rfl⟩ := cx_inj W hv hv' e'
          exact fun z => absurd z f0
        · exact hi k' (by omega) n' i' j' hv' e'
      · exact Or.inr q
theorem xs_needCounts {post : SX → Prop} {fl : Nat} (W : gr_W g) (tx : xm_T g a_text) (mR : xm_R g a_rights) (mF : xm_F g a_lefts) (C : xm_Chart g a_heights a_chosen a_firstEnds a_secondEnds a_order fl) (hr : f_countsReady ≠ 0 → xm_Cts g a_counts)
    (hpost : ∀ (f_countsReady : Int32) (a_counts : Nat → Int32), f_countsReady ≠ 0 → xm_Cts g a_counts → post (nI (gr_P g), nI (gr_L g), f_chartReady, f_countsReady, f_distancesReady, f_followsReady, nI fl, a_lefts, a_rights, a_ops, a_constants, a_text, a_heights, a_chosen, a_firstEnds, a_secondEnds, a_order, a_counts, a_distances, a_follows, a_sizes, a_values, a_operands, a_productive, a_used)) : wpX_needCounts post (nI (gr_P g), nI (gr_L g), f_chartReady, f_countsReady, f_distancesReady, f_followsReady, nI fl, a_lefts, a_rights, a_ops, a_constants, a_text, a_heights, a_chosen, a_firstEnds, a_secondEnds, a_order, a_counts, a_distances, a_follows, a_sizes, a_values, a_operands, a_productive, a_used) := by
  have S := C.1
  have K48 : ∀ d r, r + d = 606 → ∀ (x1 : Int32) (a_counts : Nat → Int32), (∃ f, pu_CI g f ∧ xm_c g a_counts f ∧ ((x1 = 0 ∧ pu_ccl g (pu_ps' f)) ∨ (x1 = 1 ∧ xc_mu a_counts + r ≤ 605))) → wX_needCounts_48 post (nI (gr_P g)) (nI (gr_L g)) f_chartReady f_countsReady f_distancesReady f_followsReady (nI fl) (d + 1) x1 (nI r) a_lefts a_rights a_ops a_constants a_text a_heights a_chosen a_firstEnds a_secondEnds a_order a_counts a_distances a_follows a_sizes a_values a_operands a_productive a_used := by
    have fin : ∀ (a_counts : Nat → Int32) f, pu_CI g f → xm_c g a_counts f → pu_ccl g (pu_ps' f) → post (nI (gr_P g), nI (gr_L g), f_chartReady, 1, f_distancesReady, f_followsReady, nI fl, a_lefts, a_rights, a_ops, a_constants, a_text, a_heights, a_chosen, a_firstEnds, a_secondEnds, a_order, a_counts, a_distances, a_follows, a_sizes, a_values, a_operands, a_productive, a_used) := by
      intro a_counts f CI mc cl
      refine hpost 1 a_counts (by decide) ⟨pu_CC_s ⟨CI, cl⟩, fun n i j hv => ?_⟩
      rw [mc n i j hv, pu_CC_e W ⟨CI, cl⟩ hv]
    intro d
    induction d with
    | zero =>
      intro r hr x1 a_counts I
      have e : r = 606 := by omega
      subst e
      obtain ⟨f, CI, mc, ⟨rfl, cl⟩ | ⟨rfl, mu⟩⟩ := I
      · exact br_t (nI_lt (a := 605) (by decide) (by decide)) (fin a_counts f CI mc cl)
      · omega
    | succ d ih =>
      intro r hr x1 a_counts I
      refine br_f (nI_nlt (a := 605) (by omega) (by omega)) ?_
      obtain ⟨f, CI, mc, ⟨rfl, cl⟩ | ⟨rfl, mu⟩⟩ := I
      · exact br_t rfl (fin a_counts f CI mc cl)
      · refine br_f (by decide) ⟨fl + 1, ?_⟩
        refine xs_nc63 (g := g) (m0 := xc_mu a_counts) W tx mR mF C (fun x1 a_counts' I => ih (r + 1) (by omega) x1 a_counts' ?_) fl 0 (by omega) 0 a_counts ⟨f, CI, mc, Or.inl ⟨rfl, Nat.le_refl _, fun k' hk' => by omega⟩⟩
        obtain ⟨f', CI', mc', ⟨rfl, mu', hi⟩ | ⟨rfl, mu'⟩⟩ := I
        · refine ⟨f', CI', mc', Or.inl ⟨rfl, fun n i j hv h0 al => ?_⟩⟩
          obtain ⟨k, hk, e⟩ := C.2.2.2.2.2.2 n i j hv h0
          by_cases c : f' n i j = 0
          · exact absurd al (hi k hk n i j hv e c)
          · show 0 < f' n i j
            omega
        · exact ⟨f', CI', mc', Or.inr ⟨rfl, by omega⟩⟩
  have K10 : ∀ d x, x + d = 605 → ∀ (a_counts : Nat → Int32), (∀ y, y < x → a_counts y = if a_heights y ≤ 0 then 0 else -3) → wX_needCounts_10 post (nI (gr_P g)) (nI (gr_L g)) f_chartReady f_countsReady f_distancesReady f_followsReady (nI fl) (d + 1) (nI x) a_lefts a_rights a_ops a_constants a_text a_heights a_chosen a_firstEnds a_secondEnds a_order a_counts a_distances a_follows a_sizes a_values a_operands a_productive a_used := by
    intro d
    induction d with
    | zero =>
      intro x hx a_counts hz
      have e : x = 605 := by omega
      subst e
      refine br_t (nI_le (a := 605) (b := 605) (by decide) (by decide)) ⟨606 + 1, K48 606 0 (by decide) 1 a_counts ⟨fun _ _ _ => 0, ⟨fun _ _ _ _ _ => rfl, fun n i j hv h => absurd h (Nat.lt_irrefl 0), fun Q cl n i j hv h => absurd h (Nat.lt_irrefl 0)⟩, fun n i j hv => ?_, Or.inr ⟨rfl, pu_cnt_le _ _⟩⟩⟩
      have hb := (S n i j hv).2.2
      rw [hz _ (cx_lt W hv), C.2.1 n i j hv]
      unfold xc_v
      by_cases c : pu_HH g n i j = 0
      · rw [if_pos c, c]; rfl
      · rw [if_neg c, if_pos rfl, if_neg (nI_nle (by omega) (by omega))]
    | succ d ih =>
      intro x hx a_counts hz
      have hin : vp_in (nI x) 605 := vp_in_nI (by omega) (by decide)
      have ec : (nI x).toNatClampNeg = x := nI_clamp (by omega)
      refine br_f (nI_ge (b := 605) (by omega) (by decide)) ⟨hin, br_c (fun c => ⟨hin, nm_r (e' := upd a_counts x 0) (by rw [ec]) (nm_r (nI_1 x) (ih (x + 1) (by omega) _ (fun y hy => ?_)))⟩) (fun c => ⟨hin, nm_r (e' := upd a_counts x (-3)) (by rw [ec]) (nm_r (nI_1 x) (ih (x + 1) (by omega) _ (fun y hy => ?_)))⟩)⟩
      · by_cases q : y = x
        · rw [q, pk_us]; rw [ec] at c; rw [if_pos c]
        · rw [pk_un q]; exact hz y (by omega)
      · by_cases q : y = x
        · rw [q, pk_us]; rw [ec] at c; rw [if_neg c]
        · rw [pk_un q]; exact hz y (by omega)
  exact br_c (fun _ => ⟨605 + 1, K10 605 0 rfl _ (fun y hy => absurd hy (by omega))⟩) (fun z => hpost _ _ z (hr z))
end
