/-! the component: what follows, the rounds -/
def fb_mu (f : pu_C) : Nat := pu_cnt (fun x => ! (f (x / 6 / 121) (x / 6 / 11 % 11) (x / 6 % 11)).testBit (x % 6)) 3630
theorem fb_mu_lt {g : gr_G} {f : pu_C} {n i k m : Nat} (W : gr_W g) (hv : pu_V g n i k) (h : ∀ t, t < 6 → (f n i k).testBit t = true → m.testBit t = true) (hf : f n i k < 64) (hm : m < 64) (ne : m ≠ f n i k) : fb_mu (up3 f n i k m) < fb_mu f := by
  have hl := cx_lt W hv
  obtain ⟨c1, c2, c3⟩ := pd_cell W hv
  have ex : ∃ t, t < 6 ∧ m.testBit t = true ∧ (f n i k).testBit t = false := by
    apply Classical.byContradiction
    intro z
    apply ne
    refine fb_ext hm hf (fun t ht => ?_)
    cases e : (f n i k).testBit t with
    | true => exact h t ht e
    | false =>
      cases e2 : m.testBit t with
      | true => exact absurd ⟨t, ht, e2, e⟩ z
      | false => rfl
  obtain ⟨t, ht, e1, e2⟩ := ex
  have d6 : (6 * cx n i k + t) / 6 = cx n i k := by omega
  have r6 : (6 * cx n i k + t) % 6 = t := by omega
  refine pu_cnt_lt (x0 := 6 * cx n i k + t) ?_ ?_ (fun x hx q => ?_) (by omega)
  · rw [d6, r6, c1, c2, c3, up3_s, e1]; rfl
  · rw [d6, r6, c1, c2, c3, e2]; rfl
  · by_cases z : x / 6 / 121 = n ∧ x / 6 / 11 % 11 = i ∧ x / 6 % 11 = k
    · rw [z.1, z.2.1, z.2.2, up3_s] at q
      rw [z.1, z.2.1, z.2.2]
      cases e : (f n i k).testBit (x % 6) with
      | false => rfl
      | true => rw [h _ (by omega) e] at q; exact absurd q (by decide)
    · rw [up3_n z] at q; exact q
def xf_P (g : gr_G) (m0 : Nat) (dn : Nat → Nat → Nat → Prop) (x1 : Int32) (a : Nat → Int32) : Prop := ∃ f, xm_D g a f ∧ (∀ n i k, pu_V g n i k → f n i k < 64 ∧ ∀ t, t < 6 → (f n i k).testBit t = true → pf_FO g k t n i) ∧ ((x1 = 0 ∧ fb_mu f ≤ m0 ∧ ∀ p i k, p < gr_P g → i ≤ k → k ≤ gr_L g → dn p i k → pf_ap g (pf_PR g) p → ∀ t, t < 6 → pf_co g k t (fb_S f k t) p i → (f (gr_F g p) i k).testBit t = true) ∨ (x1 = 1 ∧ fb_mu f < m0))
theorem xf_P_dn {g : gr_G} {m0 : Nat} {dn dn' : Nat → Nat → Nat → Prop} {x1 : Int32} {a : Nat → Int32} (h : xf_P g m0 dn x1 a) (l : ∀ p i j, p < gr_P g → i ≤ j → j ≤ gr_L g → dn' p i j → pf_ap g (pf_PR g) p → dn p i j) : xf_P g m0 dn' x1 a := by
  obtain ⟨f, h1, h2, ⟨e, mu, h3⟩ | h3⟩ := h
  · exact ⟨f, h1, h2, Or.inl ⟨e, mu, fun p i k a b c d ap => h3 p i k a b c (l p i k a b c d ap) ap⟩⟩
  · exact ⟨f, h1, h2, Or.inr h3⟩
theorem fb_fp_co {g : gr_G} {f : pu_C} {k t p i : Nat} (W : gr_W g) (hp : p < gr_P g) (hik : i ≤ k) (hk : k ≤ gr_L g) (ht : t < 6) (s : ∀ n i k, pu_V g n i k → f n i k < 64 ∧ ∀ t, t < 6 → (f n i k).testBit t = true → pf_FO g k t n i) (c : pf_co g k t (fb_S f k t) p i) : pf_co g k t (pf_FO g k t) p i := by
  have Q : ∀ {s x : Nat}, pu_ok s → x ≤ k → pf_fp k t (fb_S f k t) s x → pf_fp k t (pf_FO g k t) s x := by
    intro s' x ok hx q
    obtain q | ⟨nt, q⟩ := q
    · exact Or.inl q
    · exact Or.inr ⟨nt, (s _ _ _ (xb_ntV ok nt hx hk)).2 t ht q⟩
  obtain c | ⟨u, h1, h2, h3, c⟩ | ⟨u, v, h1, h2, h3, h4, h5, c⟩ := c
  · exact Or.inl (Q (pu_okR0 W hp) hik c)
  · exact Or.inr (Or.inl ⟨u, h1, h2, h3, Q (pu_okR W hp (by decide)) h2 c⟩)
  · exact Or.inr (Or.inr ⟨u, v, h1, h2, h3, h4, h5, Q (pu_okR W hp (by decide)) h3 c⟩)
section
variable {g : gr_G} {f_chartReady f_countsReady f_distancesReady f_followsReady f_filled : Int32} {a_lefts a_rights a_ops a_constants a_text a_heights a_chosen a_firstEnds a_secondEnds a_order a_counts a_distances a_follows a_sizes : Nat → Int32} {a_values a_operands : Nat → Int64} {a_productive a_used : Nat → Int32}
theorem xs_fm36 {post : Int32 → SX → Prop} {J4 J25 : Int32 → Int32 → (Nat → Int32) → (Nat → Int32) → (Nat → Int32) → (Nat → Int32) → (Nat → Int32) → (Nat → Int32) → (Nat → Int32) → (Nat → Int32) → (Nat → Int32) → (Nat → Int32) → (Nat → Int32) → (Nat → Int32) → (Nat → Int32) → (Nat → Int32) → (Nat → Int64) → (Nat → Int64) → (Nat → Int32) → (Nat → Int32) → Prop} {m0 p i : Nat} (W : gr_W g) (hp : p < gr_P g) (ap : pf_ap g (pf_PR g) p) (tx : xm_T g a_text) (mR : xm_R g a_rights) (mF : xm_F g a_lefts) (S : pu_HS g (pu_HH g)) (mH : xm_H g a_heights (pu_HH g))
    (hJ : ∀ (x1 : Int32) (a_follows : Nat → Int32), xf_P g m0 (xm_dn p (i + 1) (i + 1)) x1 a_follows → J25 x1 (nI (i + 1)) a_lefts a_rights a_ops a_constants a_text a_heights a_chosen a_firstEnds a_secondEnds a_order a_counts a_distances a_follows a_sizes a_values a_operands a_productive a_used) :
    ∀ d k, k + d = gr_L g + 1 → i ≤ k → ∀ (x1 : Int32) (a_follows : Nat → Int32), xf_P g m0 (xm_dn p i k) x1 a_follows → wX_followMore_36 post J4 J25 (nI p) (nI i) (nI (gr_P g)) (nI (gr_L g)) f_chartReady f_countsReady f_distancesReady f_followsReady f_filled (d + 1) x1 (nI k) a_lefts a_rights a_ops a_constants a_text a_heights a_chosen a_firstEnds a_secondEnds a_order a_counts a_distances a_follows a_sizes a_values a_operands a_productive a_used := by
  have hL := W.2.1
  have hP := W.1
  intro d
  induction d with
  | zero =>
    intro k hk hik x1 a_follows I
    refine br_t (nI_lt (by omega) (by omega)) (nm_r (nI_1 i) (hJ x1 _ (xf_P_dn I (fun p' i' j' _ h1 h2 h3 _ => ?_))))
    unfold xm_dn at *; omega
  | succ d ih =>
    intro k hk hik x1 a_follows I
    have hv : pu_V g (gr_F g p) i k := ⟨W.2.2.1 p hp, hik, by omega⟩
    have hl := cx_lt W hv
    have hin : vp_in (nI (cx (gr_F g p) i k)) 605 := vp_in_nI hl (by decide)
    have ec : (nI (cx (gr_F g p) i k)).toNatClampNeg = cx (gr_F g p) i k := nI_clamp (by omega)
    obtain ⟨f, mf, sd, fl⟩ := I
    have f64 := (sd _ _ _ hv).1
    refine br_f (nI_nlt (by omega) (by omega)) ⟨vp_in_nI (by omega) (by decide), xb_cell (gr_F g p) i k (xm_Fp W mF hp) rfl rfl ⟨hin, ?_⟩⟩
    refine xs_fod (g := g) (f := f) W hp hik (by omega) tx mR S mH mf (fun n i j h => (sd n i j h).1) (fun m hm hco => nm_r (e' := nI (f (gr_F g p) i k ||| m)) (by rw [ec, mf _ _ _ hv]; exact (fb_or f64 hm).1) ?_)
    have m64 := (fb_or f64 hm).2
    have ef : a_follows (nI (cx (gr_F g p) i k)).toNatClampNeg = nI (f (gr_F g p) i k) := by rw [ec, mf _ _ _ hv]
    by_cases same : f (gr_F g p) i k ||| m = f (gr_F g p) i k
    · -- nothing new
      have up : upd a_follows (cx (gr_F g p) i k) (nI (f (gr_F g p) i k ||| m)) = a_follows := xb_up (by rw [same]; exact mf _ _ _ hv)
      have st : xf_P g m0 (xm_dn p i (k + 1)) x1 a_follows := by
        refine ⟨f, mf, sd, ?_⟩
        obtain ⟨e, mu, h3⟩ | h3 := fl
        · refine Or.inl ⟨e, mu, fun p' i' k' q1 q2 q3 q4 ap' t ht co => ?_⟩
          by_cases z : p' = p ∧ i' = i ∧ k' = k
          · obtain ⟨rfl, rfl, rfl⟩ := z
            have b : (f (gr_F g p') i' k' ||| m).testBit t = true := by rw [Nat.testBit_or, (hco t ht).mpr co, Bool.or_true]
            rw [same] at b; exact b
          · exact h3 p' i' k' q1 q2 q3 (by unfold xm_dn at *; omega) ap' t ht co
        · exact Or.inr h3
      have go : ∀ z : Int32, z = x1 → wX_followMore_98 post J4 J25 (wX_followMore_36 post J4 J25 (nI p) (nI i) (nI (gr_P g)) (nI (gr_L g)) f_chartReady f_countsReady f_distancesReady f_followsReady f_filled (d + 1)) (nI p) (nI i) (nI k) (nI (cx (gr_F g p) i k)) (nI (f (gr_F g p) i k ||| m)) z (nI (gr_P g)) (nI (gr_L g)) f_chartReady f_countsReady f_distancesReady f_followsReady f_filled a_lefts a_rights a_ops a_constants a_text a_heights a_chosen a_firstEnds a_secondEnds a_order a_counts a_distances a_follows a_sizes a_values a_operands a_productive a_used := by
        intro z ez
        subst ez
        exact ⟨hin, nm_r (e' := a_follows) (by rw [ec]; exact up) (nm_r (nI_1 k) (ih (k + 1) (by omega) (by omega) z _ st))⟩
      obtain ⟨e, _⟩ | ⟨e, _⟩ := fl
      · exact br_t e ⟨hin, br_t (by rw [ef, same]) (go 0 e.symm)⟩
      · exact br_f (by rw [e]; decide) (go 1 e.symm)
    · have st : xf_P g m0 (xm_dn p i (k + 1)) 1 (upd a_follows (cx (gr_F g p) i k) (nI (f (gr_F g p) i k ||| m))) := by
        have mlt := fb_mu_lt W hv (m := f (gr_F g p) i k ||| m) (fun t _ h => by rw [Nat.testBit_or, h, Bool.true_or]) f64 m64 same
        refine ⟨up3 f (gr_F g p) i k (f (gr_F g p) i k ||| m), xm_H_up W mf hv _, fun n' i' k' hv' => ?_, Or.inr ⟨rfl, by obtain ⟨_, mu, _⟩ | ⟨_, mu⟩ := fl <;> omega⟩⟩
        by_cases z : n' = gr_F g p ∧ i' = i ∧ k' = k
        · obtain ⟨rfl, rfl, rfl⟩ := z
          rw [up3_s]
          refine ⟨m64, fun t ht b => ?_⟩
          rw [Nat.testBit_or, Bool.or_eq_true] at b
          obtain b | b := b
          · exact (sd _ _ _ hv).2 t ht b
          · exact pf_FO_cl g k' t p i' hp hik ap (fb_fp_co W hp hik (by omega) ht sd ((hco t ht).mp b))
        · rw [up3_n z]; exact sd _ _ _ hv'
      have go : wX_followMore_93 post J4 J25 (wX_followMore_36 post J4 J25 (nI p) (nI i) (nI (gr_P g)) (nI (gr_L g)) f_chartReady f_countsReady f_distancesReady f_followsReady f_filled (d + 1)) (nI p) (nI i) (nI k) (nI (cx (gr_F g p) i k)) (nI (f (gr_F g p) i k ||| m)) (nI (gr_P g)) (nI (gr_L g)) f_chartReady f_countsReady f_distancesReady f_followsReady f_filled a_lefts a_rights a_ops a_constants a_text a_heights a_chosen a_firstEnds a_secondEnds a_order a_counts a_distances a_follows a_sizes a_values a_operands a_productive a_used :=
        ⟨hin, nm_r (e' := upd a_follows (cx (gr_F g p) i k) (nI (f (gr_F g p) i k ||| m))) (by rw [ec]) (nm_r (nI_1 k) (ih (k + 1) (by omega) (by omega) 1 _ st))⟩
      refine br_c (fun _ => ⟨hin, br_f (fun z => same ?_) go⟩) (fun _ => go)
      rw [ef, nI_eq (by omega) (by omega)] at z; exact z
theorem xs_followMore {post : Int32 → SX → Prop} {m0 : Nat} (W : gr_W g) (tx : xm_T g a_text) (mR : xm_R g a_rights) (mF : xm_F g a_lefts) (S : pu_HS g (pu_HH g)) (mH : xm_H g a_heights (pu_HH g)) (Pr : xm_Pr g a_productive) (I0 : xf_P g m0 (xm_dn 0 0 0) 0 a_follows)
    (hpost : ∀ (x1 : Int32) (a_follows : Nat → Int32), xf_P g m0 (xm_dn (gr_P g) 0 0) x1 a_follows → post x1 (nI (gr_P g), nI (gr_L g), f_chartReady, f_countsReady, f_distancesReady, f_followsReady, f_filled, a_lefts, a_rights, a_ops, a_constants, a_text, a_heights, a_chosen, a_firstEnds, a_secondEnds, a_order, a_counts, a_distances, a_follows, a_sizes, a_values, a_operands, a_productive, a_used)) : wpX_followMore post (nI (gr_P g), nI (gr_L g), f_chartReady, f_countsReady, f_distancesReady, f_followsReady, f_filled, a_lefts, a_rights, a_ops, a_constants, a_text, a_heights, a_chosen, a_firstEnds, a_secondEnds, a_order, a_counts, a_distances, a_follows, a_sizes, a_values, a_operands, a_productive, a_used) := by
  have hL := W.2.1
  have hP := W.1
  have K25 : ∀ (n4 p : Nat), p < gr_P g → pf_ap g (pf_PR g) p → (∀ (x1 : Int32) (a_follows : Nat → Int32), xf_P g m0 (xm_dn (p + 1) 0 0) x1 a_follows → wX_followMore_4 post (nI (gr_P g)) (nI (gr_L g)) f_chartReady f_countsReady f_distancesReady f_followsReady f_filled n4 x1 (nI (p + 1)) a_lefts a_rights a_ops a_constants a_text a_heights a_chosen a_firstEnds a_secondEnds a_order a_counts a_distances a_follows a_sizes a_values a_operands a_productive a_used) → ∀ d i, i + d = gr_L g + 1 → ∀ (x1 : Int32) (a_follows : Nat → Int32), xf_P g m0 (xm_dn p i i) x1 a_follows → wX_followMore_25 post (wX_followMore_4 post (nI (gr_P g)) (nI (gr_L g)) f_chartReady f_countsReady f_distancesReady f_followsReady f_filled n4) (nI p) (nI (gr_P g)) (nI (gr_L g)) f_chartReady f_countsReady f_distancesReady f_followsReady f_filled (d + 1) x1 (nI i) a_lefts a_rights a_ops a_constants a_text a_heights a_chosen a_firstEnds a_secondEnds a_order a_counts a_distances a_follows a_sizes a_values a_operands a_productive a_used := by
    intro n4 p hp ap hJ d
    induction d with
    | zero =>
      intro i hi x1 a_follows I
      refine br_t (nI_lt (by omega) (by omega)) (nm_r (nI_1 p) (hJ x1 _ (xf_P_dn I (fun p' i' j' _ h1 h2 h3 _ => ?_))))
      unfold xm_dn at *; omega
    | succ d ih =>
      intro i hi x1 a_follows I
      refine br_f (nI_nlt (by omega) (by omega)) ⟨d + 1 + 1, ?_⟩
      exact xs_fm36 (g := g) W hp ap tx mR mF S mH (fun x1 a l => ih (i + 1) (by omega) x1 a l) (d + 1) i (by omega) (by omega) x1 _ I
  have K4 : ∀ d p, p + d = gr_P g → ∀ (x1 : Int32) (a_follows : Nat → Int32), xf_P g m0 (xm_dn p 0 0) x1 a_follows → wX_followMore_4 post (nI (gr_P g)) (nI (gr_L g)) f_chartReady f_countsReady f_distancesReady f_followsReady f_filled (d + 1) x1 (nI p) a_lefts a_rights a_ops a_constants a_text a_heights a_chosen a_firstEnds a_secondEnds a_order a_counts a_distances a_follows a_sizes a_values a_operands a_productive a_used := by
    intro d
    induction d with
    | zero =>
      intro p hp x1 a_follows I
      have e : p = gr_P g := by omega
      subst e
      have nr : narrow .boolean (.int x1) = .int x1 := by
        obtain ⟨f, _, _, ⟨h, _⟩ | ⟨h, _⟩⟩ := I
        · rw [h]; rfl
        · rw [h]; rfl
      exact br_t (nI_le (Nat.le_refl _) (by omega)) ⟨nr, hpost x1 _ I⟩
    | succ d ih =>
      intro p hp x1 a_follows I
      have hp' : p < gr_P g := by omega
      refine br_f (nI_ge (by omega) (by omega)) (xs_isProd (g := g) W hp' mR (fun ap => br_f (by decide) ⟨gr_L g + 1 + 1, ?_⟩) (fun ap => br_t rfl (nm_r (nI_1 p) (ih (p + 1) (by omega) x1 _ (xf_P_dn I (fun p' i' j' _ h1 h2 h3 ap' => ?_))))))
      · exact K25 (d + 1) p hp' ((xm_Pr_ap W hp' Pr).mp ap) (fun x1 a l => ih (p + 1) (by omega) x1 a l) (gr_L g + 1) 0 (by omega) x1 _ I
      · by_cases c : p' = p
        · rw [c] at ap'; exact absurd ((xm_Pr_ap W hp' Pr).mpr ap') ap
        · unfold xm_dn at *; omega
  exact ⟨gr_P g + 1, K4 (gr_P g) 0 (by omega) 0 _ I0⟩
def xm_Fo (g : gr_G) (a : Nat → Int32) : Prop := ∃ f, xm_D g a f ∧ (∀ n i k, pu_V g n i k → f n i k < 64 ∧ ∀ t, t < 6 → ((f n i k).testBit t = true ↔ pf_FO g k t n i))
theorem xs_needFollows {post : SX → Prop} (W : gr_W g) (tx : xm_T g a_text) (mR : xm_R g a_rights) (mF : xm_F g a_lefts) (S : pu_HS g (pu_HH g)) (mH : xm_H g a_heights (pu_HH g)) (hr : f_followsReady ≠ 0 → xm_Fo g a_follows)
    (hpost : ∀ (f_followsReady : Int32) (a_follows a_productive : Nat → Int32), f_followsReady ≠ 0 → xm_Fo g a_follows → post (nI (gr_P g), nI (gr_L g), f_chartReady, f_countsReady, f_distancesReady, f_followsReady, f_filled, a_lefts, a_rights, a_ops, a_constants, a_text, a_heights, a_chosen, a_firstEnds, a_secondEnds, a_order, a_counts, a_distances, a_follows, a_sizes, a_values, a_operands, a_productive, a_used)) : wpX_needFollows post (nI (gr_P g), nI (gr_L g), f_chartReady, f_countsReady, f_distancesReady, f_followsReady, f_filled, a_lefts, a_rights, a_ops, a_constants, a_text, a_heights, a_chosen, a_firstEnds, a_secondEnds, a_order, a_counts, a_distances, a_follows, a_sizes, a_values, a_operands, a_productive, a_used) := by
  have K38 : ∀ (a_productive : Nat → Int32), xm_Pr g a_productive → ∀ d r, r + d = 3631 → ∀ (x1 : Int32) (a_follows : Nat → Int32), (∃ f, xm_D g a_follows f ∧ (∀ n i k, pu_V g n i k → f n i k < 64 ∧ ∀ t, t < 6 → (f n i k).testBit t = true → pf_FO g k t n i) ∧ ((x1 = 0 ∧ ∀ k t, k ≤ gr_L g → t < 6 → pf_fc g k t (fb_S f k t)) ∨ (x1 = 1 ∧ fb_mu f + r ≤ 3630))) → wX_needFollows_38 post (d + 1) x1 (nI r) (nI (gr_P g)) (nI (gr_L g)) f_chartReady f_countsReady f_distancesReady f_followsReady f_filled a_lefts a_rights a_ops a_constants a_text a_heights a_chosen a_firstEnds a_secondEnds a_order a_counts a_distances a_follows a_sizes a_values a_operands a_productive a_used := by
    intro a_productive Pr d
    induction d with
    | zero =>
      intro r hr x1 a_follows I
      have e : r = 3631 := by omega
      subst e
      obtain ⟨f, mf, sd, ⟨_, cl⟩ | ⟨_, mu⟩⟩ := I
      · exact br_t (nI_lt (a := 3630) (by decide) (by decide)) (hpost 1 _ _ (by decide) ⟨f, mf, fun n i k hv => ⟨(sd n i k hv).1, fun t ht => ⟨(sd n i k hv).2 t ht, fun q => q _ (cl k t hv.2.2 ht)⟩⟩⟩)
      · omega
    | succ d ih =>
      intro r hr x1 a_follows I
      obtain ⟨f, mf, sd, ⟨rfl, cl⟩ | ⟨rfl, mu⟩⟩ := I
      · exact br_f (nI_nlt (a := 3630) (by omega) (by decide)) (br_t rfl (hpost 1 _ _ (by decide) ⟨f, mf, fun n i k hv => ⟨(sd n i k hv).1, fun t ht => ⟨(sd n i k hv).2 t ht, fun q => q _ (cl k t hv.2.2 ht)⟩⟩⟩))
      · refine br_f (nI_nlt (a := 3630) (by omega) (by decide)) (br_f (by decide) ?_)
        refine xs_followMore (g := g) (m0 := fb_mu f) W tx mR mF S mH Pr ⟨f, mf, sd, Or.inl ⟨rfl, Nat.le_refl _, fun p i j _ _ _ h => by unfold xm_dn at h; omega⟩⟩ (fun x1 a I' => nm_r (nI_1 r) (ih (r + 1) (by omega) x1 a ?_))
        obtain ⟨f1, mf1, sd1, ⟨e1, mu1, h1⟩ | ⟨e1, mu1⟩⟩ := I'
        · exact ⟨f1, mf1, sd1, Or.inl ⟨e1, fun k t hk ht p i hp hi ap co => h1 p i k hp hi hk (Or.inl hp) ap t ht co⟩⟩
        · exact ⟨f1, mf1, sd1, Or.inr ⟨e1, by omega⟩⟩
  have K14 : ∀ (a_productive : Nat → Int32), xm_Pr g a_productive → ∀ d x, x + d = 605 → ∀ (a_follows : Nat → Int32), (∀ y, y < x → a_follows y = 0) → wX_needFollows_14 post (nI (gr_P g)) (nI (gr_L g)) f_chartReady f_countsReady f_distancesReady f_followsReady f_filled (d + 1) (nI x) a_lefts a_rights a_ops a_constants a_text a_heights a_chosen a_firstEnds a_secondEnds a_order a_counts a_distances a_follows a_sizes a_values a_operands a_productive a_used := by
    intro a_productive Pr d
    induction d with
    | zero =>
      intro x hx a_follows hz
      have e : x = 605 := by omega
      subst e
      exact br_t (nI_le (a := 605) (b := 605) (by decide) (by decide)) ⟨3631 + 1, K38 a_productive Pr 3631 0 (by decide) 1 _ ⟨fun _ _ _ => 0, fun n i j hv => hz _ (cx_lt W hv), fun n i k hv => ⟨Nat.zero_lt_succ _, fun t ht q => by rw [Nat.zero_testBit] at q; exact absurd q (by decide)⟩, Or.inr ⟨rfl, pu_cnt_le _ _⟩⟩⟩
    | succ d ih =>
      intro x hx a_follows hz
      refine br_f (nI_ge (b := 605) (by omega) (by decide)) ⟨vp_in_nI (by omega) (by decide), nm_r (e' := upd a_follows x 0) (by rw [nI_clamp (by omega)]) (nm_r (nI_1 x) (ih (x + 1) (by omega) _ (fun y hy => ?_)))⟩
      by_cases c : y = x
      · rw [c, pk_us]
      · rw [pk_un c]; exact hz y (by omega)
  exact br_c (fun _ => xs_markProd (g := g) W mR mF (fun a_productive Pr => ⟨605 + 1, K14 a_productive Pr 605 0 rfl _ (fun y hy => absurd hy (by omega))⟩)) (fun z => hpost _ _ _ z (hr z))
end
