/-! productive and used: arrays of five -/
def xm_B (a : Nat → Int32) : Prop := ∀ n, n < 5 → a n = 0 ∨ a n = 1
def mk_c (a : Nat → Int32) : Nat := pu_cnt (fun n => decide (a n ≠ 0)) 5
def mk_q (a : Nat → Int32) : Nat → Prop := fun n => a n ≠ 0
def xm_Pr (g : gr_G) (a : Nat → Int32) : Prop := ∀ n, n < 5 → (a n = 1 ∧ pf_PR g n) ∨ (a n = 0 ∧ ¬ pf_PR g n)
def xm_Us (g : gr_G) (a : Nat → Int32) : Prop := ∀ n, n < 5 → (a n = 1 ∧ pf_US g n) ∨ (a n = 0 ∧ ¬ pf_US g n)
theorem mk_lt {a0 a : Nat → Int32} (M : ∀ n, n < 5 → a0 n ≠ 0 → a n ≠ 0) (h : ¬ ∀ n, n < 5 → a n ≠ 0 → a0 n ≠ 0) : mk_c a0 < mk_c a := by
  have : ∃ n, n < 5 ∧ a n ≠ 0 ∧ a0 n = 0 := by
    apply Classical.byContradiction
    intro z
    exact h (fun n hn h1 h2 => z ⟨n, hn, h1, h2⟩)
  obtain ⟨n, hn, h1, h2⟩ := this
  exact pu_cnt_lt (x0 := n) (by rw [h2]; rfl) (decide_eq_true h1) (fun x hx hh => decide_eq_true (M x hx (of_decide_eq_true hh))) hn
theorem xm_B_up {a : Nat → Int32} (B : xm_B a) (n : Nat) : xm_B (upd a n 1) := by
  intro x hx
  by_cases c : x = n
  · rw [c, pk_us]; exact Or.inr rfl
  · rw [pk_un c]; exact B x hx
theorem mk_up {a : Nat → Int32} {n x : Nat} (h : a x ≠ 0) : upd a n 1 x ≠ 0 := by
  by_cases c : x = n
  · rw [c, pk_us]; decide
  · rw [pk_un c]; exact h
theorem mk_ap {g : gr_G} {Q Q' : Nat → Prop} {p : Nat} (W : gr_W g) (hp : p < gr_P g) (h : ∀ n, n < 5 → Q n → Q' n) (a : pf_ap g Q p) : pf_ap g Q' p := by
  intro m hm nt
  refine h _ ?_ (a m hm nt)
  have ok := pu_okR W hp hm
  unfold pu_nt at nt
  unfold pu_ok at ok
  omega
def pr_I (g : gr_G) (a0 : Nat → Int32) (p : Nat) (a : Nat → Int32) : Prop := xm_B a ∧ (∀ n, n < 5 → a n ≠ 0 → pf_PR g n) ∧ (∀ n, n < 5 → a0 n ≠ 0 → a n ≠ 0) ∧ (∀ p', p' < p → p' < gr_P g → pf_ap g (mk_q a0) p' → a (gr_F g p') ≠ 0)
def pr_O (g : gr_G) (r : Nat) (a : Nat → Int32) : Prop := xm_B a ∧ (∀ n, n < 5 → a n ≠ 0 → pf_PR g n) ∧ (r ≤ mk_c a ∨ ∀ n, n < 5 → pf_PR g n → a n ≠ 0)
theorem pr_step {g : gr_G} {r : Nat} {a0 a : Nat → Int32} (W : gr_W g) (h0 : pr_O g r a0) (h : pr_I g a0 (gr_P g) a) : pr_O g (r + 1) a := by
  refine ⟨h.1, h.2.1, ?_⟩
  by_cases e : ∀ n, n < 5 → a n ≠ 0 → a0 n ≠ 0
  · refine Or.inr (fun n hn pr => ?_)
    refine h.2.2.1 n hn (pr (fun n => n < 5 → a0 n ≠ 0) (fun p hp ap hF => ?_) hn)
    exact e _ hF (h.2.2.2 p hp hp (mk_ap W hp (fun n hn q => q hn) ap))
  · obtain c | c := h0.2.2
    · have := mk_lt h.2.2.1 e
      exact Or.inl (by omega)
    · exact Or.inr (fun n hn pr => h.2.2.1 n hn (c n hn pr))
theorem pr_end {g : gr_G} {a : Nat → Int32} (h : pr_O g 5 a) : xm_Pr g a := by
  have full : ∀ n, n < 5 → pf_PR g n → a n ≠ 0 := by
    obtain c | c := h.2.2
    · exact fun n hn _ => of_decide_eq_true (pu_cnt_full c hn)
    · exact c
  intro n hn
  obtain e | e := h.1 n hn
  · exact Or.inr ⟨e, fun z => full n hn z e⟩
  · exact Or.inl ⟨e, h.2.1 n hn (by rw [e]; decide)⟩
theorem pr_in {g : gr_G} {a0 a : Nat → Int32} {p : Nat} (W : gr_W g) (hp : p < gr_P g) (h : pr_I g a0 p a) : (pf_ap g (mk_q a) p → pr_I g a0 (p + 1) (upd a (gr_F g p) 1)) ∧ (¬ pf_ap g (mk_q a) p → pr_I g a0 (p + 1) a) := by
  obtain ⟨h1, h2, h3, h4⟩ := h
  refine ⟨fun ap => ⟨xm_B_up h1 _, fun n hn z => ?_, fun n hn z => mk_up (h3 n hn z), fun p' hp' hP' z => ?_⟩, fun ap => ⟨h1, h2, h3, fun p' hp' hP' z => ?_⟩⟩
  · by_cases c : n = gr_F g p
    · rw [c]; exact pf_PR_cl g p hp (mk_ap W hp h2 ap)
    · rw [pk_un c] at z; exact h2 n hn z
  · by_cases c : p' = p
    · rw [c, pk_us]; decide
    · exact mk_up (h4 p' (by omega) hP' z)
  · by_cases c : p' = p
    · rw [c] at z; exact absurd (mk_ap W hp h3 z) ap
    · exact h4 p' (by omega) hP' z
/-- used -/
def us_I (g : gr_G) (a0 : Nat → Int32) (p : Nat) (a : Nat → Int32) : Prop := xm_B a ∧ (∀ n, n < 5 → a n ≠ 0 → pf_US g n) ∧ (∀ n, n < 5 → a0 n ≠ 0 → a n ≠ 0) ∧ (∀ p' m, p' < p → p' < gr_P g → m < 3 → a0 (gr_F g p') ≠ 0 → pf_ap g (pf_PR g) p' → pu_nt (gr_R g (3 * p' + m)) → a (gr_R g (3 * p' + m) - 10) ≠ 0)
def us_O (g : gr_G) (r : Nat) (a : Nat → Int32) : Prop := xm_B a ∧ (∀ n, n < 5 → a n ≠ 0 → pf_US g n) ∧ (pf_PR g 0 → a 0 ≠ 0) ∧ (r ≤ mk_c a ∨ ∀ n, n < 5 → pf_US g n → a n ≠ 0)
theorem us_step {g : gr_G} {r : Nat} {a0 a : Nat → Int32} (W : gr_W g) (h0 : us_O g r a0) (h : us_I g a0 (gr_P g) a) : us_O g (r + 1) a := by
  refine ⟨h.1, h.2.1, fun z => h.2.2.1 0 (by decide) (h0.2.2.1 z), ?_⟩
  by_cases e : ∀ n, n < 5 → a n ≠ 0 → a0 n ≠ 0
  · refine Or.inr (fun n hn us => ?_)
    refine h.2.2.1 n hn (us (fun n => n < 5 → a0 n ≠ 0) ⟨fun z _ => h0.2.2.1 z, fun p m hp hm q ap nt hF => ?_⟩ hn)
    exact e _ hF (h.2.2.2 p m hp hp hm (q (W.2.2.1 p hp)) ap nt)
  · obtain c | c := h0.2.2.2
    · have := mk_lt h.2.2.1 e
      exact Or.inl (by omega)
    · exact Or.inr (fun n hn us => h.2.2.1 n hn (c n hn us))
theorem us_end {g : gr_G} {a : Nat → Int32} (h : us_O g 5 a) : xm_Us g a := by
  have full : ∀ n, n < 5 → pf_US g n → a n ≠ 0 := by
    obtain c | c := h.2.2.2
    · exact fun n hn _ => of_decide_eq_true (pu_cnt_full c hn)
    · exact c
  intro n hn
  obtain e | e := h.1 n hn
  · exact Or.inr ⟨e, fun z => full n hn z e⟩
  · exact Or.inl ⟨e, h.2.1 n hn (by rw [e]; decide)⟩
/-- the right side of a used production, its first m symbols being used -/
def us_R (g : gr_G) (b : Nat → Int32) (p m : Nat) (a : Nat → Int32) : Prop := xm_B a ∧ (∀ n, n < 5 → a n ≠ 0 → pf_US g n) ∧ (∀ n, n < 5 → b n ≠ 0 → a n ≠ 0) ∧ (∀ m', m' < m → pu_nt (gr_R g (3 * p + m')) → a (gr_R g (3 * p + m') - 10) ≠ 0)
theorem us_Rs {g : gr_G} {b a : Nat → Int32} {p m : Nat} (W : gr_W g) (hp : p < gr_P g) (hm : m < 3) (u : pf_US g (gr_F g p)) (ap : pf_ap g (pf_PR g) p) (h : us_R g b p m a) : (pu_nt (gr_R g (3 * p + m)) → us_R g b p (m + 1) (upd a (gr_R g (3 * p + m) - 10) 1)) ∧ (¬ pu_nt (gr_R g (3 * p + m)) → us_R g b p (m + 1) a) := by
  obtain ⟨h1, h2, h3, h4⟩ := h
  refine ⟨fun nt => ⟨xm_B_up h1 _, fun n hn z => ?_, fun n hn z => mk_up (h3 n hn z), fun m' hm' z => ?_⟩, fun nt => ⟨h1, h2, h3, fun m' hm' z => ?_⟩⟩
  · by_cases c : n = gr_R g (3 * p + m) - 10
    · rw [c]; exact (pf_US_cl g).2 p m hp hm u ap nt
    · rw [pk_un c] at z; exact h2 n hn z
  · by_cases c : m' = m
    · rw [c, pk_us]; decide
    · exact mk_up (h4 m' (by omega) z)
  · by_cases c : m' = m
    · rw [c] at z; exact absurd z nt
    · exact h4 m' (by omega) z
theorem us_in {g : gr_G} {a0 a a' : Nat → Int32} {p : Nat} (W : gr_W g) (h : us_I g a0 p a) (r : us_R g a p 3 a') : us_I g a0 (p + 1) a' := by
  obtain ⟨h1, h2, h3, h4⟩ := h
  obtain ⟨r1, r2, r3, r4⟩ := r
  refine ⟨r1, r2, fun n hn z => r3 n hn (h3 n hn z), fun p' m hp' hP' hm z ap nt => ?_⟩
  by_cases c : p' = p
  · rw [c] at nt ⊢; exact r4 m hm nt
  · refine r3 _ ?_ (h4 p' m (by omega) hP' hm z ap nt)
    have ok := pu_okR W hP' hm
    unfold pu_nt at nt
    unfold pu_ok at ok
    omega
theorem us_no {g : gr_G} {a0 a : Nat → Int32} {p : Nat} (W : gr_W g) (hp : p < gr_P g) (h : us_I g a0 p a) (n : a (gr_F g p) = 0 ∨ ¬ pf_ap g (pf_PR g) p) : us_I g a0 (p + 1) a := by
  obtain ⟨h1, h2, h3, h4⟩ := h
  refine ⟨h1, h2, h3, fun p' m hp' hP' hm z ap nt => ?_⟩
  by_cases c : p' = p
  · rw [c] at z ap
    obtain e | e := n
    · exact absurd e (h3 _ (W.2.2.1 p hp) z)
    · exact absurd ap e
  · exact h4 p' m (by omega) hP' hm z ap nt
section
variable {g : gr_G} {f_chartReady f_countsReady f_distancesReady f_followsReady f_filled : Int32} {a_lefts a_rights a_ops a_constants a_text a_heights a_chosen a_firstEnds a_secondEnds a_order a_counts a_distances a_follows a_sizes : Nat → Int32} {a_values a_operands : Nat → Int64} {a_productive a_used : Nat → Int32}
theorem xs_isProd {post : Int32 → Prop} {p : Nat} (W : gr_W g) (hp : p < gr_P g) (mR : xm_R g a_rights) (ht : pf_ap g (mk_q a_productive) p → post 1) (hf : ¬ pf_ap g (mk_q a_productive) p → post 0) : wpX_isProductive post (nI (gr_P g), nI (gr_L g), f_chartReady, f_countsReady, f_distancesReady, f_followsReady, f_filled, a_lefts, a_rights, a_ops, a_constants, a_text, a_heights, a_chosen, a_firstEnds, a_secondEnds, a_order, a_counts, a_distances, a_follows, a_sizes, a_values, a_operands, a_productive, a_used) (nI p) := by
  have hP := W.1
  have K : ∀ d m, m + d = 3 → (∀ q, q < m → pf_yl (mk_q a_productive) (gr_R g (3 * p + q))) → wX_isProductive_2 post (nI p) (nI (gr_P g)) (nI (gr_L g)) f_chartReady f_countsReady f_distancesReady f_followsReady f_filled a_lefts a_rights a_ops a_constants a_text a_heights a_chosen a_firstEnds a_secondEnds a_order a_counts a_distances a_follows a_sizes a_values a_operands a_productive a_used (d + 1) (nI m) := by
    intro d
    induction d with
    | zero =>
      intro m hm hist
      have e : m = 3 := by omega
      subst e
      exact br_t (nI_le (a := 3) (b := 3) (by decide) (by decide)) (ht hist)
    | succ d ih =>
      intro m hm hist
      have ok := pu_okR W hp (m := m) (by omega)
      have st : pf_yl (mk_q a_productive) (gr_R g (3 * p + m)) → wX_isProductive_2 post (nI p) (nI (gr_P g)) (nI (gr_L g)) f_chartReady f_countsReady f_distancesReady f_followsReady f_filled a_lefts a_rights a_ops a_constants a_text a_heights a_chosen a_firstEnds a_secondEnds a_order a_counts a_distances a_follows a_sizes a_values a_operands a_productive a_used (d + 1) (nI (m + 1)) := fun y => ih (m + 1) (by omega) (fun q hq => by
        by_cases c : q = m
        · rw [c]; exact y
        · exact hist q (by omega))
      refine br_f (nI_ge (b := 3) (by omega) (by decide)) ⟨xb_i (by omega) (by omega), nm_r (xm_Rm W mR hp (by omega)) (ek_if (sy_lt ok) (fun c => nm_r (nI_1 m) (st (fun nt => by unfold pu_nt at nt; omega))) (fun c => ?_))⟩
      have nt : pu_nt (gr_R g (3 * p + m)) := by unfold pu_nt; unfold pu_ok at ok; omega
      have h5 : gr_R g (3 * p + m) - 10 < 5 := by unfold pu_ok at ok; unfold pu_nt at nt; omega
      rw [sy_nt nt, xb_10]
      refine ⟨vp_in_nI h5 (by decide), ?_⟩
      rw [nI_clamp (by omega)]
      exact br_c (fun z => hf (fun ap => ap m (by omega) nt z)) (fun z => nm_r (nI_1 m) (st (fun _ => z)))
  exact ⟨3 + 1, K 3 0 rfl (fun q hq => by omega)⟩
theorem xs_markProd {post : SX → Prop} (W : gr_W g) (mR : xm_R g a_rights) (mF : xm_F g a_lefts) (hpost : ∀ (a_productive : Nat → Int32), xm_Pr g a_productive → post (nI (gr_P g), nI (gr_L g), f_chartReady, f_countsReady, f_distancesReady, f_followsReady, f_filled, a_lefts, a_rights, a_ops, a_constants, a_text, a_heights, a_chosen, a_firstEnds, a_secondEnds, a_order, a_counts, a_distances, a_follows, a_sizes, a_values, a_operands, a_productive, a_used)) : wpX_markProductive post (nI (gr_P g), nI (gr_L g), f_chartReady, f_countsReady, f_distancesReady, f_followsReady, f_filled, a_lefts, a_rights, a_ops, a_constants, a_text, a_heights, a_chosen, a_firstEnds, a_secondEnds, a_order, a_counts, a_distances, a_follows, a_sizes, a_values, a_operands, a_productive, a_used) := by
  have hP := W.1
  have K29 : ∀ (n22 r : Nat) (a0 : Nat → Int32), (∀ (a_productive : Nat → Int32), pr_I g a0 (gr_P g) a_productive → wX_markProductive_22 post (nI (gr_P g)) (nI (gr_L g)) f_chartReady f_countsReady f_distancesReady f_followsReady f_filled n22 (nI (r + 1)) a_lefts a_rights a_ops a_constants a_text a_heights a_chosen a_firstEnds a_secondEnds a_order a_counts a_distances a_follows a_sizes a_values a_operands a_productive a_used) → ∀ d p, p + d = gr_P g → ∀ (a_productive : Nat → Int32), pr_I g a0 p a_productive → wX_markProductive_29 post (wX_markProductive_22 post (nI (gr_P g)) (nI (gr_L g)) f_chartReady f_countsReady f_distancesReady f_followsReady f_filled n22) (nI r) (nI (gr_P g)) (nI (gr_L g)) f_chartReady f_countsReady f_distancesReady f_followsReady f_filled (d + 1) (nI p) a_lefts a_rights a_ops a_constants a_text a_heights a_chosen a_firstEnds a_secondEnds a_order a_counts a_distances a_follows a_sizes a_values a_operands a_productive a_used := by
    intro n22 r a0 hJ d
    induction d with
    | zero =>
      intro p hp a_productive I
      have e : p = gr_P g := by omega
      subst e
      exact br_t (nI_le (Nat.le_refl _) (by omega)) (nm_r (nI_1 r) (hJ _ I))
    | succ d ih =>
      intro p hp a_productive I
      have hp' : p < gr_P g := by omega
      have hF := W.2.2.1 p hp'
      have st := pr_in W hp' I
      refine br_f (nI_ge (by omega) (by omega)) (xs_isProd (g := g) W hp' mR (fun ap => br_f (by decide) ⟨vp_in_nI (by omega) (by decide), ?_⟩) (fun ap => br_t rfl (nm_r (nI_1 p) (ih (p + 1) (by omega) _ (st.2 ap)))))
      rw [xm_Fp W mF hp', xb_10]
      exact ⟨vp_in_nI hF (by decide), nm_r (e' := upd a_productive (gr_F g p) 1) (by rw [nI_clamp (by omega)]; rfl) (nm_r (nI_1 p) (ih (p + 1) (by omega) _ (st.1 ap)))⟩
  have K22 : ∀ d r, r + d = 5 → ∀ (a_productive : Nat → Int32), pr_O g r a_productive → wX_markProductive_22 post (nI (gr_P g)) (nI (gr_L g)) f_chartReady f_countsReady f_distancesReady f_followsReady f_filled (d + 1) (nI r) a_lefts a_rights a_ops a_constants a_text a_heights a_chosen a_firstEnds a_secondEnds a_order a_counts a_distances a_follows a_sizes a_values a_operands a_productive a_used := by
    intro d
    induction d with
    | zero =>
      intro r hr a_productive I
      have e : r = 5 := by omega
      subst e
      exact br_t (nI_le (a := 5) (b := 5) (by decide) (by decide)) (hpost _ (pr_end I))
    | succ d ih =>
      intro r hr a_productive I
      refine br_f (nI_ge (b := 5) (by omega) (by decide)) ⟨gr_P g + 1, ?_⟩
      exact K29 (d + 1) r a_productive (fun a I' => ih (r + 1) (by omega) a (pr_step W I I')) (gr_P g) 0 (by omega) a_productive ⟨I.1, I.2.1, fun _ _ z => z, fun p' hp' => by omega⟩
  have K2 : ∀ d x, x + d = 5 → ∀ (a_productive : Nat → Int32), (∀ y, y < x → a_productive y = 0) → wX_markProductive_2 post (nI (gr_P g)) (nI (gr_L g)) f_chartReady f_countsReady f_distancesReady f_followsReady f_filled (d + 1) (nI x) a_lefts a_rights a_ops a_constants a_text a_heights a_chosen a_firstEnds a_secondEnds a_order a_counts a_distances a_follows a_sizes a_values a_operands a_productive a_used := by
    intro d
    induction d with
    | zero =>
      intro x hx a_productive hz
      have e : x = 5 := by omega
      subst e
      exact br_t (nI_le (a := 5) (b := 5) (by decide) (by decide)) ⟨5 + 1, K22 5 0 rfl _ ⟨fun n hn => Or.inl (hz n hn), fun n hn z => absurd (hz n hn) z, Or.inl (Nat.zero_le _)⟩⟩
    | succ d ih =>
      intro x hx a_productive hz
      refine br_f (nI_ge (b := 5) (by omega) (by decide)) ⟨vp_in_nI (by omega) (by decide), nm_r (e' := upd a_productive x 0) (by rw [nI_clamp (by omega)]; rfl) (nm_r (nI_1 x) (ih (x + 1) (by omega) _ (fun y hy => ?_)))⟩
      by_cases c : y = x
      · rw [c, pk_us]
      · rw [pk_un c]; exact hz y (by omega)
  exact ⟨5 + 1, K2 5 0 rfl _ (fun y hy => absurd hy (by omega))⟩
theorem xm_Pr_ap {g : gr_G} {a : Nat → Int32} {p : Nat} (W : gr_W g) (hp : p < gr_P g) (h : xm_Pr g a) : pf_ap g (mk_q a) p ↔ pf_ap g (pf_PR g) p := by
  constructor
  · refine mk_ap W hp (fun n hn z => ?_)
    obtain ⟨_, q⟩ | ⟨e, _⟩ := h n hn
    · exact q
    · exact absurd e z
  · refine mk_ap W hp (fun n hn z => ?_)
    obtain ⟨e, _⟩ | ⟨_, q⟩ := h n hn
    · show a n ≠ 0
      rw [e]; decide
    · exact absurd z q
theorem xs_useRs {post : SX → Prop} {p : Nat} (W : gr_W g) (hp : p < gr_P g) (mR : xm_R g a_rights) (u : pf_US g (gr_F g p)) (ap : pf_ap g (pf_PR g) p) (I : us_R g a_used p 0 a_used) (hpost : ∀ (a : Nat → Int32), us_R g a_used p 3 a → post (nI (gr_P g), nI (gr_L g), f_chartReady, f_countsReady, f_distancesReady, f_followsReady, f_filled, a_lefts, a_rights, a_ops, a_constants, a_text, a_heights, a_chosen, a_firstEnds, a_secondEnds, a_order, a_counts, a_distances, a_follows, a_sizes, a_values, a_operands, a_productive, a)) : wpX_useRightSide post (nI (gr_P g), nI (gr_L g), f_chartReady, f_countsReady, f_distancesReady, f_followsReady, f_filled, a_lefts, a_rights, a_ops, a_constants, a_text, a_heights, a_chosen, a_firstEnds, a_secondEnds, a_order, a_counts, a_distances, a_follows, a_sizes, a_values, a_operands, a_productive, a_used) (nI p) := by
  have hP := W.1
  have K : ∀ d m, m + d = 3 → ∀ (a : Nat → Int32), us_R g a_used p m a → wX_useRightSide_2 post (nI p) (nI (gr_P g)) (nI (gr_L g)) f_chartReady f_countsReady f_distancesReady f_followsReady f_filled (d + 1) (nI m) a_lefts a_rights a_ops a_constants a_text a_heights a_chosen a_firstEnds a_secondEnds a_order a_counts a_distances a_follows a_sizes a_values a_operands a_productive a := by
    intro d
    induction d with
    | zero =>
      intro m hm a I
      have e : m = 3 := by omega
      subst e
      exact br_t (nI_le (a := 3) (b := 3) (by decide) (by decide)) (hpost a I)
    | succ d ih =>
      intro m hm a I
      have ok := pu_okR W hp (m := m) (by omega)
      have st := us_Rs W hp (show m < 3 by omega) u ap I
      refine br_f (nI_ge (b := 3) (by omega) (by decide)) ⟨xb_i (by omega) (by omega), nm_r (xm_Rm W mR hp (by omega)) (ek_if (sy_lt ok) (fun c => nm_r (nI_1 m) (ih (m + 1) (by omega) a (st.2 (fun nt => by unfold pu_nt at nt; omega)))) (fun c => ?_))⟩
      have nt : pu_nt (gr_R g (3 * p + m)) := by unfold pu_nt; unfold pu_ok at ok; omega
      have h5 : gr_R g (3 * p + m) - 10 < 5 := by unfold pu_ok at ok; unfold pu_nt at nt; omega
      rw [sy_nt nt, xb_10]
      exact ⟨vp_in_nI h5 (by decide), nm_r (e' := upd a (gr_R g (3 * p + m) - 10) 1) (by rw [nI_clamp (by omega)]; rfl) (nm_r (nI_1 m) (ih (m + 1) (by omega) _ (st.1 nt)))⟩
  exact ⟨3 + 1, K 3 0 rfl a_used I⟩
theorem xs_markUsed {post : SX → Prop} (W : gr_W g) (mR : xm_R g a_rights) (mF : xm_F g a_lefts) (Pr : xm_Pr g a_productive) (hpost : ∀ (a_used : Nat → Int32), xm_Us g a_used → post (nI (gr_P g), nI (gr_L g), f_chartReady, f_countsReady, f_distancesReady, f_followsReady, f_filled, a_lefts, a_rights, a_ops, a_constants, a_text, a_heights, a_chosen, a_firstEnds, a_secondEnds, a_order, a_counts, a_distances, a_follows, a_sizes, a_values, a_operands, a_productive, a_used)) : wpX_markUsed post (nI (gr_P g), nI (gr_L g), f_chartReady, f_countsReady, f_distancesReady, f_followsReady, f_filled, a_lefts, a_rights, a_ops, a_constants, a_text, a_heights, a_chosen, a_firstEnds, a_secondEnds, a_order, a_counts, a_distances, a_follows, a_sizes, a_values, a_operands, a_productive, a_used) := by
  have hP := W.1
  have K46 : ∀ (n39 r : Nat) (a0 : Nat → Int32), (∀ (a_used : Nat → Int32), us_I g a0 (gr_P g) a_used → wX_markUsed_39 post n39 (nI (r + 1)) (nI (gr_P g)) (nI (gr_L g)) f_chartReady f_countsReady f_distancesReady f_followsReady f_filled a_lefts a_rights a_ops a_constants a_text a_heights a_chosen a_firstEnds a_secondEnds a_order a_counts a_distances a_follows a_sizes a_values a_operands a_productive a_used) → ∀ d p, p + d = gr_P g → ∀ (a_used : Nat → Int32), us_I g a0 p a_used → wX_markUsed_46 post (wX_markUsed_39 post n39) (nI r) (d + 1) (nI p) (nI (gr_P g)) (nI (gr_L g)) f_chartReady f_countsReady f_distancesReady f_followsReady f_filled a_lefts a_rights a_ops a_constants a_text a_heights a_chosen a_firstEnds a_secondEnds a_order a_counts a_distances a_follows a_sizes a_values a_operands a_productive a_used := by
    intro n39 r a0 hJ d
    induction d with
    | zero =>
      intro p hp a_used I
      have e : p = gr_P g := by omega
      subst e
      exact br_t (nI_le (Nat.le_refl _) (by omega)) (nm_r (nI_1 r) (hJ _ I))
    | succ d ih =>
      intro p hp a_used I
      have hp' : p < gr_P g := by omega
      have hF := W.2.2.1 p hp'
      refine br_f (nI_ge (by omega) (by omega)) ⟨vp_in_nI (by omega) (by decide), ?_⟩
      rw [xm_Fp W mF hp', xb_10]
      refine ⟨vp_in_nI hF (by decide), ?_⟩
      rw [nI_clamp (show gr_F g p < 2 ^ 31 by omega)]
      refine br_c (fun z => nm_r (nI_1 p) (ih (p + 1) (by omega) _ (us_no W hp' I (Or.inl z)))) (fun z => ?_)
      refine xs_isProd (g := g) W hp' mR (fun ap => br_f (by decide) ?_) (fun ap => br_t rfl (nm_r (nI_1 p) (ih (p + 1) (by omega) _ (us_no W hp' I (Or.inr (fun q => ap ((xm_Pr_ap W hp' Pr).mpr q)))))))
      exact xs_useRs (g := g) W hp' mR (I.2.1 _ hF z) ((xm_Pr_ap W hp' Pr).mp ap) ⟨I.1, I.2.1, fun _ _ z => z, fun m' hm' => by omega⟩ (fun a r => nm_r (nI_1 p) (ih (p + 1) (by omega) _ (us_in W I r)))
  have K39 : ∀ d r, r + d = 5 → ∀ (a_used : Nat → Int32), us_O g r a_used → wX_markUsed_39 post (d + 1) (nI r) (nI (gr_P g)) (nI (gr_L g)) f_chartReady f_countsReady f_distancesReady f_followsReady f_filled a_lefts a_rights a_ops a_constants a_text a_heights a_chosen a_firstEnds a_secondEnds a_order a_counts a_distances a_follows a_sizes a_values a_operands a_productive a_used := by
    intro d
    induction d with
    | zero =>
      intro r hr a_used I
      have e : r = 5 := by omega
      subst e
      exact br_t (nI_le (a := 5) (b := 5) (by decide) (by decide)) (hpost _ (us_end I))
    | succ d ih =>
      intro r hr a_used I
      refine br_f (nI_ge (b := 5) (by omega) (by decide)) ⟨gr_P g + 1, ?_⟩
      exact K46 (d + 1) r a_used (fun a I' => ih (r + 1) (by omega) a (us_step W I I')) (gr_P g) 0 (by omega) a_used ⟨I.1, I.2.1, fun _ _ z => z, fun p' m hp' => by omega⟩
  have K2 : ∀ d x, x + d = 5 → ∀ (a_used : Nat → Int32), (∀ y, y < x → (a_used y = 0 ∧ ¬ (y = 0 ∧ pf_PR g 0)) ∨ (a_used y = 1 ∧ y = 0 ∧ pf_PR g 0)) → wX_markUsed_2 post (nI (gr_P g)) (nI (gr_L g)) f_chartReady f_countsReady f_distancesReady f_followsReady f_filled (d + 1) (nI x) a_lefts a_rights a_ops a_constants a_text a_heights a_chosen a_firstEnds a_secondEnds a_order a_counts a_distances a_follows a_sizes a_values a_operands a_productive a_used := by
    intro d
    induction d with
    | zero =>
      intro x hx a_used hz
      have e : x = 5 := by omega
      subst e
      refine br_t (nI_le (a := 5) (b := 5) (by decide) (by decide)) ⟨5 + 1, K39 5 0 rfl _ ⟨fun n hn => ?_, fun n hn z => ?_, fun pr => ?_, Or.inl (Nat.zero_le _)⟩⟩
      · obtain h | h := hz n hn
        · exact Or.inl h.1
        · exact Or.inr h.1
      · obtain h | h := hz n hn
        · exact absurd h.1 z
        · rw [h.2.1]; exact (pf_US_cl g).1 h.2.2
      · obtain h | h := hz 0 (by decide)
        · exact absurd ⟨rfl, pr⟩ h.2
        · rw [h.1]; decide
    | succ d ih =>
      intro x hx a_used hz
      have hin : vp_in (nI x) 5 := vp_in_nI (by omega) (by decide)
      have ec : (nI x).toNatClampNeg = x := nI_clamp (by omega)
      have E0 : ¬ (x = 0 ∧ pf_PR g 0) → ∀ y, y < x + 1 → (upd a_used x 0 y = 0 ∧ ¬ (y = 0 ∧ pf_PR g 0)) ∨ (upd a_used x 0 y = 1 ∧ y = 0 ∧ pf_PR g 0) := by
        intro h y hy
        by_cases c : y = x
        · rw [c, pk_us]; exact Or.inl ⟨rfl, h⟩
        · rw [pk_un c]; exact hz y (by omega)
      have E1 : (x = 0 ∧ pf_PR g 0) → ∀ y, y < x + 1 → (upd a_used x 1 y = 0 ∧ ¬ (y = 0 ∧ pf_PR g 0)) ∨ (upd a_used x 1 y = 1 ∧ y = 0 ∧ pf_PR g 0) := by
        intro h y hy
        by_cases c : y = x
        · rw [c, pk_us]; exact Or.inr ⟨rfl, h⟩
        · rw [pk_un c]; exact hz y (by omega)
      refine br_f (nI_ge (b := 5) (by omega) (by decide)) (pk_eq x 0 (fun e => ⟨hin, ?_⟩) (fun e => ⟨hin, nm_r (e' := upd a_used x 0) (by rw [ec]; rfl) (nm_r (nI_1 x) (ih (x + 1) (by omega) _ (E0 (fun q => e q.1))))⟩))
      rw [ec]
      refine br_c (fun z => ⟨hin, nm_r (e' := upd a_used x 0) rfl (nm_r (nI_1 x) (ih (x + 1) (by omega) _ (E0 (fun q => ?_))))⟩) (fun z => ⟨hin, nm_r (e' := upd a_used x 1) rfl (nm_r (nI_1 x) (ih (x + 1) (by omega) _ (E1 ⟨e, ?_⟩)))⟩)
      · rw [q.1] at z
        obtain ⟨e1, _⟩ | ⟨_, e1⟩ := Pr 0 (by decide)
        · rw [e1] at z; exact absurd z (by decide)
        · exact e1 q.2
      · rw [e] at z
        obtain ⟨_, e1⟩ | ⟨e1, _⟩ := Pr 0 (by decide)
        · exact e1
        · exact absurd e1 z
  exact ⟨5 + 1, K2 5 0 rfl _ (fun y hy => absurd hy (by omega))⟩
end
