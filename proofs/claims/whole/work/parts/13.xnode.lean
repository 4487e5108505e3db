/-! the component: sizes, nodes -/
def xm_ch (g : gr_G) (ch fe se : Nat → Int32) : Prop := ∀ n i j, pu_V g n i j → 0 < pu_HH g n i j → ch (cx n i j) = nI (pu_ch g n i j).1 ∧ fe (cx n i j) = nI (pu_ch g n i j).2.1 ∧ se (cx n i j) = nI (pu_ch g n i j).2.2
theorem xm_chs {g : gr_G} {hts ch fe se ord : Nat → Int32} {fl : Nat} (C : xm_Chart g hts ch fe se ord fl) : pu_CHX g ∧ xm_ch g ch fe se := by
  refine ⟨fun n i j hv h0 => ?_, fun n i j hv h0 => ?_⟩
  · obtain ⟨p, u, v, e1, e2, e3, c⟩ := C.2.2.2.1 n i j hv h0
    rw [pu_ch_s c]; exact c
  · obtain ⟨p, u, v, e1, e2, e3, c⟩ := C.2.2.2.1 n i j hv h0
    rw [pu_ch_s c]; exact ⟨e1, e2, e3⟩
def pu_cz (x : Nat) : Nat := if x ≤ 1000000000 then x else 1000000001
theorem pu_cz_le (x : Nat) : pu_cz x ≤ 1000000001 := by unfold pu_cz; split <;> omega
theorem pu_cz_3 (a b c : Nat) : pu_cz (1 + pu_cz a + pu_cz b + pu_cz c) = pu_cz (1 + a + b + c) := by unfold pu_cz; (repeat' split) <;> omega
def xm_Sz (g : gr_G) (szs : Nat → Int32) : Prop := ∀ n i j, pu_V g n i j → szs (cx n i j) = nI (pu_cz (pu_SZ g n i j))
def xz_P (g : gr_G) (ord : Nat → Int32) (k : Nat) (szs : Nat → Int32) : Prop := (∀ n i j, pu_V g n i j → pu_HH g n i j = 0 → szs (cx n i j) = 0) ∧ (∀ k', k' < k → ∀ n i j, pu_V g n i j → ord k' = nI (cx n i j) → szs (cx n i j) = nI (pu_cz (pu_SZ g n i j)))
theorem pu_SZ_0 {g : gr_G} {n i j : Nat} (h : pu_HH g n i j = 0) : pu_SZ g n i j = 0 := by unfold pu_SZ; rw [h]; rfl
noncomputable def pu_Zc (g : gr_G) : pu_C := fun n i j => pu_cz (pu_SZ g n i j)
theorem pu_Zc_pz {g : gr_G} {n i j m : Nat} : pu_pz g (pu_Zc g) n i j m = pu_cz (pu_pz g (pu_SZ g) n i j m) := by
  by_cases c : pu_nt (pu_s g n i j m)
  · rw [pu_pz_t c, pu_pz_t c]; rfl
  · rw [pu_pz_f c, pu_pz_f c]; rfl
/-- a part of the cell at k stands before k -/
theorem xm_before {g : gr_G} {hts ch fe se ord : Nat → Int32} {fl : Nat} (C : xm_Chart g hts ch fe se ord fl) {k n i j n' i' j' : Nat} (hk : k < fl) (hv : pu_V g n i j) (eo : ord k = nI (cx n i j)) (hv' : pu_V g n' i' j') (h0 : 0 < pu_HH g n' i' j') (l : pu_HH g n' i' j' < pu_HH g n i j) : ∃ k', k' < k ∧ ord k' = nI (cx n' i' j') := by
  obtain ⟨k', hk', e'⟩ := C.2.2.2.2.2.2 n' i' j' hv' h0
  by_cases c : k' < k
  · exact ⟨k', c, e'⟩
  · have := C.2.2.2.2.2.1 k k' n i j n' i' j' (by omega) hk' hv hv' eo e'
    omega
section
variable {g : gr_G} {f_chartReady f_countsReady f_distancesReady f_followsReady f_filled : Int32} {a_lefts a_rights a_ops a_constants a_text a_heights a_chosen a_firstEnds a_secondEnds a_order a_counts a_distances a_follows a_sizes : Nat → Int32} {a_values a_operands : Nat → Int64} {a_productive a_used : Nat → Int32}
theorem xs_inner {post : Int32 → Prop} {n i j m : Nat} {m' : Int32} (W : gr_W g) (X : pu_CHX g) (mR : xm_R g a_rights) (mC : xm_ch g a_chosen a_firstEnds a_secondEnds) (hv : pu_V g n i j) (h0 : 0 < pu_HH g n i j) (hm : m < 3) (em : m' = nI m) (hA : ¬ pu_nt (pu_s g n i j m) → post (-1)) (hN : pu_nt (pu_s g n i j m) → post (nI (cx (pu_s g n i j m - 10) (pu_b g n i j m) (pu_e g n i j m)))) : wpX_inner post (nI (gr_P g), nI (gr_L g), f_chartReady, f_countsReady, f_distancesReady, f_followsReady, f_filled, a_lefts, a_rights, a_ops, a_constants, a_text, a_heights, a_chosen, a_firstEnds, a_secondEnds, a_order, a_counts, a_distances, a_follows, a_sizes, a_values, a_operands, a_productive, a_used) (nI (cx n i j)) m' := by
  subst em
  have hl := cx_lt W hv
  have hin : vp_in (nI (cx n i j)) 605 := vp_in_nI hl (by decide)
  have ec : (nI (cx n i j)).toNatClampNeg = cx n i j := nI_clamp (by omega)
  have hL := W.2.1
  have hP := W.1
  obtain ⟨e1, e2, e3⟩ := mC n i j hv h0
  obtain ⟨hp, ok, hbe, heL, hpt⟩ := pu_part W X hv h0 hm
  have hp' : (pu_ch g n i j).1 < gr_P g := hp
  have hvv := hv
  obtain ⟨hn, hij, hj⟩ := hv
  refine ⟨hin, ?_, nm_r (e' := sy_m (pu_s g n i j m)) ?_ ?_⟩
  · rw [ec, e1]; exact xb_i (by omega) hm
  · rw [ec, e1]; exact xm_Rm W mR hp' hm
  · refine ek_if (sy_ge ok) (fun c => ?_) (fun c => hA c)
    have fin := hN c
    have hmm : m = 0 ∨ m = 1 ∨ m = 2 := by omega
    obtain rfl | rfl | rfl := hmm
    · refine br_t rfl (xs_beginOf hn (by omega) (by omega) (br_t rfl ⟨hin, ?_⟩))
      exact xb_cell (post := post) (pu_s g n i j 0 - 10) i (pu_ch g n i j).2.1 (sy_nt c) rfl (by rw [ec]; exact e2) fin
    · refine br_f (by decide) (br_t rfl ⟨hin, br_f (by decide) (br_t rfl ⟨hin, ?_⟩)⟩)
      exact xb_cell (post := post) (pu_s g n i j 1 - 10) (pu_ch g n i j).2.1 (pu_ch g n i j).2.2 (sy_nt c) (by rw [ec]; exact e2) (by rw [ec]; exact e3) fin
    · refine br_f (by decide) (br_f (by decide) ⟨hin, br_f (by decide) (br_f (by decide) (xs_endOf hn (by omega) (by omega) ?_))⟩)
      exact xb_cell (post := post) (pu_s g n i j 2 - 10) (pu_ch g n i j).2.2 j (sy_nt c) (by rw [ec]; exact e3) rfl fin
theorem xs_fz44 {post : SX → Prop} {J24 : Int32 → (Nat → Int32) → (Nat → Int32) → (Nat → Int32) → (Nat → Int32) → (Nat → Int32) → (Nat → Int32) → (Nat → Int32) → (Nat → Int32) → (Nat → Int32) → (Nat → Int32) → (Nat → Int32) → (Nat → Int32) → (Nat → Int32) → (Nat → Int32) → (Nat → Int64) → (Nat → Int64) → (Nat → Int32) → (Nat → Int32) → Prop} {k n i j fl : Nat} (W : gr_W g) (mR : xm_R g a_rights) (C : xm_Chart g a_heights a_chosen a_firstEnds a_secondEnds a_order fl) (hk : k < fl) (hv : pu_V g n i j) (eo : a_order k = nI (cx n i j)) (I : xz_P g a_order k a_sizes)
    (hJ : J24 (nI (k + 1)) a_lefts a_rights a_ops a_constants a_text a_heights a_chosen a_firstEnds a_secondEnds a_order a_counts a_distances a_follows (upd a_sizes (cx n i j) (nI (pu_cz (pu_SZ g n i j)))) a_values a_operands a_productive a_used) :
    ∀ d m, m + d = 3 → wX_fillSizes_44 post J24 (nI k) (nI (cx n i j)) (nI (gr_P g)) (nI (gr_L g)) f_chartReady f_countsReady f_distancesReady f_followsReady (nI fl) a_lefts a_rights a_ops a_constants a_text a_heights a_chosen a_firstEnds a_secondEnds a_order a_counts a_distances a_follows a_sizes a_values a_operands a_productive a_used (d + 1) (lN (1 + pu_sum (pu_pz g (pu_Zc g) n i j) m)) (nI m) := by
  have hl := cx_lt W hv
  have hin : vp_in (nI (cx n i j)) 605 := vp_in_nI hl (by decide)
  have ec : (nI (cx n i j)).toNatClampNeg = cx n i j := nI_clamp (by omega)
  obtain ⟨X, mC⟩ := xm_chs C
  have h0 := xm_Oc W C.2.2.2.2 hk hv eo
  have pb : ∀ m, pu_pz g (pu_Zc g) n i j m ≤ 1000000001 := fun m => by rw [pu_Zc_pz]; exact pu_cz_le _
  have sb : ∀ m, pu_sum (pu_pz g (pu_Zc g) n i j) m ≤ m * 1000000001 := by
    intro m
    induction m with
    | zero => exact Nat.le_refl _
    | succ m ih => have := pb m; unfold pu_sum; omega
  intro d
  induction d with
  | zero =>
    intro m hm
    have e : m = 3 := by omega
    subst e
    refine br_t (nI_le (a := 3) (b := 3) (by decide) (by decide)) ?_
    have s3 := sb 3
    have ev : pu_cz (1 + pu_sum (pu_pz g (pu_Zc g) n i j) 3) = pu_cz (pu_SZ g n i j) := by
      rw [pu_SZ_eq W X hv h0]
      show pu_cz (1 + (0 + pu_pz g (pu_Zc g) n i j 0 + pu_pz g (pu_Zc g) n i j 1 + pu_pz g (pu_Zc g) n i j 2)) = _
      rw [pu_Zc_pz, pu_Zc_pz, pu_Zc_pz, ← pu_cz_3]
      exact congrArg pu_cz (by omega)
    refine ek_if (d := 1 + pu_sum (pu_pz g (pu_Zc g) n i j) 3 ≤ 1000000000) (pk_lLE (b := 1000000000) (by omega) (by decide)) (fun c => ⟨hin, nm_r (e' := upd a_sizes (cx n i j) (nI (pu_cz (pu_SZ g n i j)))) ?_ (nm_r (nI_1 k) hJ)⟩) (fun c => ⟨hin, nm_r (e' := upd a_sizes (cx n i j) (nI (pu_cz (pu_SZ g n i j)))) ?_ (nm_r (nI_1 k) hJ)⟩)
    · rw [ec, lN_i, ← ev]; unfold pu_cz; rw [if_pos c]
    · rw [ec, ← ev]; unfold pu_cz; rw [if_neg c]; rfl
  | succ d ih =>
    intro m hm
    have nx := ih (m + 1) (by omega)
    refine br_f (nI_ge (b := 3) (by omega) (by decide)) ?_
    refine xs_inner (g := g) W X mR mC hv h0 (m := m) (by omega) rfl (fun c => br_t rfl (nm_r (e' := lN (1 + pu_sum (pu_pz g (pu_Zc g) n i j) (m + 1))) ?_ (nm_r (nI_1 m) nx))) (fun c => ?_)
    · rw [Int64.add_zero]
      show _ = lN (1 + (pu_sum (pu_pz g (pu_Zc g) n i j) m + pu_pz g (pu_Zc g) n i j m))
      rw [pu_pz_f c]; rfl
    · obtain ⟨v', h0', hlt⟩ := (pu_part W X hv h0 (m := m) (by omega)).2.2.2.2 c
      have hl' := cx_lt W v'
      obtain ⟨k', hk', e'⟩ := xm_before C hk hv eo v' h0' hlt
      refine br_f (xb_neg1 _ (by omega)) ⟨vp_in_nI hl' (by decide), nm_r (e' := lN (1 + pu_sum (pu_pz g (pu_Zc g) n i j) (m + 1))) ?_ (nm_r (nI_1 m) nx)⟩
      rw [nI_clamp (by omega), I.2 k' hk' _ _ _ v' e', nI_l (by have := pu_cz_le (pu_SZ g (pu_s g n i j m - 10) (pu_b g n i j m) (pu_e g n i j m)); omega), lN_add]
      show _ = lN (1 + (pu_sum (pu_pz g (pu_Zc g) n i j) m + pu_pz g (pu_Zc g) n i j m))
      rw [pu_pz_t c, Nat.add_assoc]; rfl
theorem xs_fillSizes {post : SX → Prop} {fl : Nat} (W : gr_W g) (mR : xm_R g a_rights) (C : xm_Chart g a_heights a_chosen a_firstEnds a_secondEnds a_order fl)
    (hpost : ∀ (a_sizes : Nat → Int32), xm_Sz g a_sizes → post (nI (gr_P g), nI (gr_L g), f_chartReady, f_countsReady, f_distancesReady, f_followsReady, nI fl, a_lefts, a_rights, a_ops, a_constants, a_text, a_heights, a_chosen, a_firstEnds, a_secondEnds, a_order, a_counts, a_distances, a_follows, a_sizes, a_values, a_operands, a_productive, a_used)) : wpX_fillSizes post (nI (gr_P g), nI (gr_L g), f_chartReady, f_countsReady, f_distancesReady, f_followsReady, nI fl, a_lefts, a_rights, a_ops, a_constants, a_text, a_heights, a_chosen, a_firstEnds, a_secondEnds, a_order, a_counts, a_distances, a_follows, a_sizes, a_values, a_operands, a_productive, a_used) := by
  have hfl : fl ≤ 605 := by rw [C.2.2.1]; exact pu_cnt_le _ _
  have K24 : ∀ d k, k + d = fl → ∀ (a_sizes : Nat → Int32), xz_P g a_order k a_sizes → wX_fillSizes_24 post (nI (gr_P g)) (nI (gr_L g)) f_chartReady f_countsReady f_distancesReady f_followsReady (nI fl) (d + 1) (nI k) a_lefts a_rights a_ops a_constants a_text a_heights a_chosen a_firstEnds a_secondEnds a_order a_counts a_distances a_follows a_sizes a_values a_operands a_productive a_used := by
    intro d
    induction d with
    | zero =>
      intro k hk a_sizes I
      have e : k = fl := by omega
      subst e
      refine br_t (nI_le (Nat.le_refl _) (by omega)) (hpost a_sizes (fun n i j hv => ?_))
      by_cases c : pu_HH g n i j = 0
      · rw [I.1 n i j hv c, pu_SZ_0 c]; rfl
      · obtain ⟨k', hk', e⟩ := C.2.2.2.2.2.2 n i j hv (by omega)
        exact I.2 k' hk' n i j hv e
    | succ d ih =>
      intro k hk a_sizes I
      obtain ⟨n, i, j, hv, eo, h0⟩ := C.2.2.2.2.1 k (by omega)
      refine br_f (nI_ge (by omega) (by omega)) ⟨vp_in_nI (by omega) (by decide), nm_r (e' := nI (cx n i j)) (by rw [nI_clamp (by omega)]; exact eo) ⟨3 + 1, ?_⟩⟩
      refine xs_fz44 (g := g) W mR C (by omega) hv eo I (ih (k + 1) (by omega) _ ⟨fun n' i' j' hv' c => ?_, fun k' hk' n' i' j' hv' e' => ?_⟩) 3 0 rfl
      · rw [pk_un (fun e => by obtain ⟨rfl, rfl, rfl⟩ := cx_inj W hv' hv (congrArg nI e); omega)]; exact I.1 n' i' j' hv' c
      · by_cases z : cx n' i' j' = cx n i j
        · obtain ⟨rfl, rfl, rfl⟩ := cx_inj W hv' hv (congrArg nI z)
          exact pk_us
        · rw [pk_un z]
          by_cases q : k' = k
          · rw [q, eo] at e'
            exact absurd (by obtain ⟨rfl, rfl, rfl⟩ := cx_inj W hv hv' e'; rfl) z
          · exact I.2 k' (by omega) n' i' j' hv' e'
  have K2 : ∀ d x, x + d = 605 → ∀ (a_sizes : Nat → Int32), (∀ y, y < x → a_sizes y = 0) → wX_fillSizes_2 post (nI (gr_P g)) (nI (gr_L g)) f_chartReady f_countsReady f_distancesReady f_followsReady (nI fl) (d + 1) (nI x) a_lefts a_rights a_ops a_constants a_text a_heights a_chosen a_firstEnds a_secondEnds a_order a_counts a_distances a_follows a_sizes a_values a_operands a_productive a_used := by
    intro d
    induction d with
    | zero =>
      intro x hx a_sizes hz
      have e : x = 605 := by omega
      subst e
      exact br_t (nI_le (a := 605) (b := 605) (by decide) (by decide)) ⟨fl + 1, K24 fl 0 (by omega) a_sizes ⟨fun n i j hv _ => hz _ (cx_lt W hv), fun k' hk' => by omega⟩⟩
    | succ d ih =>
      intro x hx a_sizes hz
      refine br_f (nI_ge (b := 605) (by omega) (by decide)) ⟨vp_in_nI (by omega) (by decide), nm_r (e' := upd a_sizes x 0) (by rw [nI_clamp (by omega)]) (nm_r (nI_1 x) (ih (x + 1) (by omega) _ (fun y hy => ?_)))⟩
      by_cases c : y = x
      · rw [c, pk_us]
      · rw [pk_un c]; exact hz y (by omega)
  exact ⟨605 + 1, K2 605 0 rfl _ (fun y hy => absurd hy (by omega))⟩
theorem xs_fn30 {post : Int32 → Prop} {J8 : Int32 → Int32 → Int32 → Prop} {n i j dep : Nat} (W : gr_W g) (X : pu_CHX g) (mR : xm_R g a_rights) (mC : xm_ch g a_chosen a_firstEnds a_secondEnds) (mZ : xm_Sz g a_sizes) (hv : pu_V g n i j) (h0 : 0 < pu_HH g n i j) (hz : pu_SZ g n i j ≤ 1000000000) :
    ∀ d m, m + d = 3 → ∀ k, k < 1000000000 → k < pu_lft (pu_pz g (pu_SZ g) n i j) d → (∀ a b c k', pu_sl g n i j d k = (a, b, c, k') → J8 (nI (cx a b c)) (nI k') (nI (dep + 1))) → wX_findNode_30 post J8 (nI (cx n i j)) (nI dep) (nI (cx n i j)) (nI (gr_P g)) (nI (gr_L g)) f_chartReady f_countsReady f_distancesReady f_followsReady f_filled a_lefts a_rights a_ops a_constants a_text a_heights a_chosen a_firstEnds a_secondEnds a_order a_counts a_distances a_follows a_sizes a_values a_operands a_productive a_used (d + 1) (nI k) (nI m) := by
  intro d
  induction d with
  | zero => intro m hm k hk1 hk; exact absurd hk (Nat.not_lt_zero _)
  | succ d ih =>
    intro m hm k hk1 hk hJ
    have em : m = 2 - d := by omega
    subst em
    have hk' : k < pu_pz g (pu_SZ g) n i j (2 - d) + pu_lft (pu_pz g (pu_SZ g) n i j) d := hk
    refine br_f (nI_ge (b := 3) (by omega) (by decide)) ?_
    refine xs_inner (g := g) W X mR mC hv h0 (m := 2 - d) (by omega) rfl (fun c => br_t rfl (nm_r (nI_1 (2 - d)) (ih (2 - d + 1) (by omega) k hk1 ?_ (fun a b e k' z => hJ a b e k' ((pu_sl_f c).trans z))))) (fun c => ?_)
    · rw [pu_pz_f c] at hk'; omega
    · obtain ⟨v', h0', hlt⟩ := (pu_part W X hv h0 (m := 2 - d) (by omega)).2.2.2.2 c
      have hl' := cx_lt W v'
      have sl := pu_SZ_pt W X hv h0 (m := 2 - d) (by omega)
      rw [pu_pz_t c] at sl hk'
      have ez : a_sizes (nI (cx (pu_s g n i j (2 - d) - 10) (pu_b g n i j (2 - d)) (pu_e g n i j (2 - d)))).toNatClampNeg = nI (pu_SZ g (pu_s g n i j (2 - d) - 10) (pu_b g n i j (2 - d)) (pu_e g n i j (2 - d))) := by
        rw [nI_clamp (by omega), mZ _ _ _ v']
        unfold pu_cz; rw [if_pos (by omega)]
      refine br_f (xb_neg1 _ (by omega)) ⟨vp_in_nI hl' (by decide), ?_⟩
      refine pk_le (pu_SZ g (pu_s g n i j (2 - d) - 10) (pu_b g n i j (2 - d)) (pu_e g n i j (2 - d))) k (fun l => ⟨vp_in_nI hl' (by decide), nm_r (e' := nI (k - pu_SZ g (pu_s g n i j (2 - d) - 10) (pu_b g n i j (2 - d)) (pu_e g n i j (2 - d)))) (by rw [ez]; exact pk_sub l) (nm_r (nI_1 (2 - d)) (ih (2 - d + 1) (by omega) _ (by omega) (by omega) (fun a b e k' z => hJ a b e k' ((pu_sl_m c (by omega)).trans z))))⟩) (fun l => nm_r (nI_1 dep) (hJ _ _ _ _ (pu_sl_t c l))) ez rfl
theorem xs_findNode {post : Int32 → Prop} {n i j k : Nat} (W : gr_W g) (S : pu_HS g (pu_HH g)) (X : pu_CHX g) (mR : xm_R g a_rights) (mC : xm_ch g a_chosen a_firstEnds a_secondEnds) (mZ : xm_Sz g a_sizes) (hv : pu_V g n i j) (h0 : 0 < pu_HH g n i j) (hz : pu_SZ g n i j ≤ 1000000000) (hk : k < pu_SZ g n i j) (hp : post (nI (cx (pu_ND g n i j k).1 (pu_ND g n i j k).2.1 (pu_ND g n i j k).2.2))) : wpX_findNode post (nI (gr_P g), nI (gr_L g), f_chartReady, f_countsReady, f_distancesReady, f_followsReady, f_filled, a_lefts, a_rights, a_ops, a_constants, a_text, a_heights, a_chosen, a_firstEnds, a_secondEnds, a_order, a_counts, a_distances, a_follows, a_sizes, a_values, a_operands, a_productive, a_used) (nI (cx n i j)) (nI k) := by
  have K8 : ∀ d dep, dep + d = 605 → ∀ n i j k, pu_V g n i j → 0 < pu_HH g n i j → pu_HH g n i j ≤ d → pu_SZ g n i j ≤ 1000000000 → k < pu_SZ g n i j → post (nI (cx (pu_ND g n i j k).1 (pu_ND g n i j k).2.1 (pu_ND g n i j k).2.2)) → wX_findNode_8 post (nI (gr_P g)) (nI (gr_L g)) f_chartReady f_countsReady f_distancesReady f_followsReady f_filled a_lefts a_rights a_ops a_constants a_text a_heights a_chosen a_firstEnds a_secondEnds a_order a_counts a_distances a_follows a_sizes a_values a_operands a_productive a_used (d + 1) (nI (cx n i j)) (nI k) (nI dep) := by
    intro d
    induction d with
    | zero => intro dep hd n i j k hv h0 hh; omega
    | succ d ih =>
      intro dep hd n i j k hv h0 hh hz hk hp
      refine br_f (nI_ge (b := 605) (by omega) (by decide)) (pk_le k 0 (fun l => ?_) (fun l => nm_r (e' := nI (k - 1)) (sb_m1 l) ⟨3 + 1, ?_⟩))
      · have : k = 0 := by omega
        subst this
        rw [pu_ND_0] at hp; exact hp
      · obtain ⟨m, hm, c, k', hk', l', e, eN⟩ := pu_ND_s W X hv h0 l hk
        obtain ⟨v', h0', hlt⟩ := (pu_part W X hv h0 hm).2.2.2.2 c
        have sl := pu_SZ_pt W X hv h0 hm
        rw [pu_pz_t c] at sl
        refine xs_fn30 (g := g) W X mR mC mZ hv h0 hz 3 0 rfl (k - 1) (by omega) (pu_lft3 W X hv h0 l hk) (fun a b cc k2 z => ?_)
        rw [e] at z
        cases z
        exact ih (dep + 1) (by omega) _ _ _ _ v' h0' (by omega) (by omega) l' (by rw [← eN]; exact hp)
  exact ⟨605 + 1, K8 605 0 rfl n i j k hv h0 (S n i j hv).2.2 hz hk hp⟩
end
