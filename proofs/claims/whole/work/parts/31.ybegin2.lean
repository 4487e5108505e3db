/-! the reference: beginnings, until nothing changes; used -/
def yc_mu (a : Nat → Int32) : Nat := pu_cnt (fun x => decide (a x = 0)) 70
def yc_P (g : gr_G) (K t m0 : Nat) (dn : Nat → Nat → Prop) (more : Int32) (a : Nat → Int32) : Prop := yB a ∧ (∀ n i, yc_S K a n i → pf_FO g K t n i) ∧ ((more = 0 ∧ yc_mu a ≤ m0 ∧ ∀ p i, p < gr_P g → i ≤ K → dn p i → pf_yo g K t (yc_S K a) p i → yc_S K a (gr_F g p) i) ∨ (more = 1 ∧ yc_mu a < m0))
theorem yc_P_dn {g : gr_G} {K t m0 : Nat} {dn dn' : Nat → Nat → Prop} {more : Int32} {a : Nat → Int32} (l : yc_P g K t m0 dn more a) (h : ∀ p i, p < gr_P g → i ≤ K → dn' p i → dn p i) : yc_P g K t m0 dn' more a := by
  obtain ⟨h1, h2, ⟨e, mu, h3⟩ | h3⟩ := l
  · exact ⟨h1, h2, Or.inl ⟨e, mu, fun p i a b c => h3 p i a b (h p i a b c)⟩⟩
  · exact ⟨h1, h2, Or.inr h3⟩
theorem pf_yo_mono {g : gr_G} {K t p i : Nat} {S S' : pf_S} (h : ∀ n i, S n i → S' n i) (f : pf_yo g K t S p i) : pf_yo g K t S' p i := by
  obtain ⟨f, a, b⟩ | ⟨u, h1, h2, f0, f, a⟩ | ⟨u, v, h1, h2, h3, f0, f1, f⟩ := f
  · exact Or.inl ⟨pf_fp_mono h f, a, b⟩
  · exact Or.inr (Or.inl ⟨u, h1, h2, f0, pf_fp_mono h f, a⟩)
  · exact Or.inr (Or.inr ⟨u, v, h1, h2, h3, f0, f1, pf_fp_mono h f⟩)
def yc_dn (p i : Nat) : Nat → Nat → Prop := fun p' i' => p' < p ∨ (p' = p ∧ i' < i)
section
variable {g : gr_G} {f_goal f_extra f_measured f_known f_more : Int32} {f_sum : Int64} {a_left a_size a_right a_text a_ops a_constants a_heights : Nat → Int32} {a_many : Nat → Int64} {a_chosen a_firstEnd a_secondEnd : Nat → Int32} {a_values a_nodes : Nat → Int64} {a_far a_productive a_useful a_covers : Nat → Int32}
theorem ys_coverBy {post : SY → Prop} {K t m0 p : Nat} (eg : f_goal = nI (K + 1)) (hp : p < gr_P g) (hK : K ≤ gr_L g) (W : gr_W g) (tx : xm_T g a_text) (mR : xm_R g a_right) (mF : xm_F g a_left) (mZ : ym_Z g a_size) (C : ym_Chart g a_heights) (Pr : xm_Pr g a_productive) (tk : yc_tok g K t f_extra) (l : yc_P g K t m0 (yc_dn p 0) f_more a_covers) (hpost : ∀ (f_more : Int32) (a_covers : Nat → Int32), yc_P g K t m0 (yc_dn (p + 1) 0) f_more a_covers → post (nI (gr_P g), nI (gr_L g), f_goal, f_extra, f_measured, f_known, f_more, f_sum, a_left, a_size, a_right, a_text, a_ops, a_constants, a_heights, a_many, a_chosen, a_firstEnd, a_secondEnd, a_values, a_nodes, a_far, a_productive, a_useful, a_covers)) : wpY_coverBy post (nI (gr_P g), nI (gr_L g), f_goal, f_extra, f_measured, f_known, f_more, f_sum, a_left, a_size, a_right, a_text, a_ops, a_constants, a_heights, a_many, a_chosen, a_firstEnd, a_secondEnd, a_values, a_nodes, a_far, a_productive, a_useful, a_covers) (nI p) := by
  have hL := W.2.1
  have hP := W.1
  have hF := W.2.2.1 p hp
  have Kl : ∀ d i, i + d = K + 1 → ∀ (f_more : Int32) (a_covers : Nat → Int32), yc_P g K t m0 (yc_dn p i) f_more a_covers → wY_coverBy_2 post (nI p) (nI (gr_P g)) (nI (gr_L g)) f_goal f_extra f_measured f_known f_sum (d + 1) (nI i) f_more a_left a_size a_right a_text a_ops a_constants a_heights a_many a_chosen a_firstEnd a_secondEnd a_values a_nodes a_far a_productive a_useful a_covers := by
    intro d
    induction d with
    | zero =>
      intro i hi f_more a_covers l
      refine br_t (by rw [eg]; exact nI_le (by omega) (by omega)) (hpost _ _ (yc_P_dn l (fun p' i' h1 h2 q => ?_)))
      unfold yc_dn at *; omega
    | succ d ih =>
      intro i hi f_more a_covers l
      have e : (14 * (a_left (nI p).toNatClampNeg - 10)) + nI i = nI (14 * gr_F g p + i) := by
        rw [xm_Fp W mF hp, xb_10, show (14 : Int32) = nI 14 from rfl, pk_mul, nI_add]
      have hin : vp_in (nI (14 * gr_F g p + i)) 70 := vp_in_nI (by omega) (by decide)
      have ec : (nI (14 * gr_F g p + i)).toNatClampNeg = 14 * gr_F g p + i := nI_clamp (by omega)
      obtain ⟨B, sd, fl⟩ := l
      have skip : (pf_yo g K t (yc_S K a_covers) p i → yc_S K a_covers (gr_F g p) i) → yc_P g K t m0 (yc_dn p (i + 1)) f_more a_covers := by
        intro sk
        refine ⟨B, sd, ?_⟩
        obtain ⟨e, mu, h3⟩ | h3 := fl
        · refine Or.inl ⟨e, mu, fun p' i' h1 h2 q => ?_⟩
          by_cases z : p' = p ∧ i' = i
          · obtain ⟨rfl, rfl⟩ := z; exact sk
          · exact h3 p' i' h1 h2 (by unfold yc_dn at *; omega)
        · exact Or.inr h3
      refine br_f (by rw [eg]; exact nI_ge (by omega) (by omega)) ⟨vp_in_nI (by omega) (by decide), nm_r e ⟨hin, ?_⟩⟩
      rw [ec]
      refine br_c (fun z => ?_) (fun z => nm_r (nI_1 i) (ih (i + 1) (by omega) _ _ (skip (fun _ => ⟨hF, by omega, z⟩))))
      refine ys_covering (g := g) eg hp (by omega) hK W tx mR mZ C Pr tk B (fun y => br_f (by decide) ⟨hin, nm_r (e' := upd a_covers (14 * gr_F g p + i) 1) rfl (nm_r (nI_1 i) (ih (i + 1) (by omega) 1 _ ⟨fun x hx => ?_, fun n' i' s => ?_, Or.inr ⟨rfl, ?_⟩⟩))⟩) (fun y => br_t rfl (nm_r (nI_1 i) (ih (i + 1) (by omega) _ _ (skip (fun q => absurd q y)))))
      · by_cases c : x = 14 * gr_F g p + i
        · rw [c, pk_us]; exact Or.inr rfl
        · rw [pk_un c]; exact B x hx
      · obtain ⟨s1, s2, s3⟩ := s
        by_cases c : 14 * n' + i' = 14 * gr_F g p + i
        · have en : n' = gr_F g p := by omega
          have ei : i' = i := by omega
          rw [en, ei]
          exact pf_FO_yc W C.1 hK p i hp (by omega) (pf_yo_mono sd y)
        · rw [pk_un c] at s3
          exact sd n' i' ⟨s1, s2, s3⟩
      · have : yc_mu (upd a_covers (14 * gr_F g p + i) 1) < yc_mu a_covers := by
          refine pu_cnt_lt (x0 := 14 * gr_F g p + i) (by rw [pk_us]; rfl) (by rw [z]; rfl) (fun x hx q => ?_) (by omega)
          by_cases c : x = 14 * gr_F g p + i
          · rw [c, z]; rfl
          · rw [pk_un c] at q; exact q
        obtain ⟨_, mu, _⟩ | ⟨_, mu⟩ := fl <;> omega
  exact ⟨K + 1 + 1, Kl (K + 1) 0 (by omega) _ _ l⟩
theorem ys_begin {post : Int32 → SY → Prop} {K t : Nat} (eg : f_goal = nI (K + 1)) (hK : K ≤ gr_L g) (W : gr_W g) (tx : xm_T g a_text) (mR : xm_R g a_right) (mF : xm_F g a_left) (mZ : ym_Z g a_size) (C : ym_Chart g a_heights) (tk : yc_tok g K t f_extra) (hpost : ∀ (f_more : Int32) (a_productive a_covers : Nat → Int32), (pf_FO g K t 0 0 → post 1 (nI (gr_P g), nI (gr_L g), f_goal, f_extra, f_measured, f_known, f_more, f_sum, a_left, a_size, a_right, a_text, a_ops, a_constants, a_heights, a_many, a_chosen, a_firstEnd, a_secondEnd, a_values, a_nodes, a_far, a_productive, a_useful, a_covers)) ∧ (¬ pf_FO g K t 0 0 → post 0 (nI (gr_P g), nI (gr_L g), f_goal, f_extra, f_measured, f_known, f_more, f_sum, a_left, a_size, a_right, a_text, a_ops, a_constants, a_heights, a_many, a_chosen, a_firstEnd, a_secondEnd, a_values, a_nodes, a_far, a_productive, a_useful, a_covers))) : wpY_beginning post (nI (gr_P g), nI (gr_L g), f_goal, f_extra, f_measured, f_known, f_more, f_sum, a_left, a_size, a_right, a_text, a_ops, a_constants, a_heights, a_many, a_chosen, a_firstEnd, a_secondEnd, a_values, a_nodes, a_far, a_productive, a_useful, a_covers) := by
  have hP := W.1
  have hL := W.2.1
  unfold wpY_beginning
  refine ys_findProd (g := g) W mR mF mZ (fun a_productive Pr => br_f (by rw [eg]; exact nI_ne0 (by omega) (by omega)) ?_)
  have K58 : ∀ {J44 : Int32 → Int32 → Int32 → Int32 → Int32 → Int32 → Int32 → Int64 → (Nat → Int32) → (Nat → Int32) → (Nat → Int32) → (Nat → Int32) → (Nat → Int32) → (Nat → Int32) → (Nat → Int32) → (Nat → Int64) → (Nat → Int32) → (Nat → Int32) → (Nat → Int32) → (Nat → Int64) → (Nat → Int64) → (Nat → Int32) → (Nat → Int32) → (Nat → Int32) → (Nat → Int32) → Prop} (m0 : Nat), (∀ (f_more : Int32) (a_covers : Nat → Int32), yc_P g K t m0 (fun _ _ => True) f_more a_covers → J44 (nI (gr_P g)) (nI (gr_L g)) f_goal f_extra f_measured f_known f_more f_sum a_left a_size a_right a_text a_ops a_constants a_heights a_many a_chosen a_firstEnd a_secondEnd a_values a_nodes a_far a_productive a_useful a_covers) → ∀ d p, p + d = gr_P g → ∀ (f_more : Int32) (a_covers : Nat → Int32), yc_P g K t m0 (yc_dn p 0) f_more a_covers → wY_beginning_58 post J44 (d + 1) (nI p) (nI (gr_P g)) (nI (gr_L g)) f_goal f_extra f_measured f_known f_more f_sum a_left a_size a_right a_text a_ops a_constants a_heights a_many a_chosen a_firstEnd a_secondEnd a_values a_nodes a_far a_productive a_useful a_covers := by
    intro J44 m0 hJ d
    induction d with
    | zero =>
      intro p hp f_more a_covers l
      refine br_t (nI_le (by omega) (by omega)) (hJ _ _ (yc_P_dn l (fun p' i' h1 h2 _ => ?_)))
      unfold yc_dn; omega
    | succ d ih =>
      intro p hp f_more a_covers l
      exact br_f (nI_ge (by omega) (by omega)) (ys_coverBy (g := g) eg (by omega) hK W tx mR mF mZ C Pr tk l (fun f_more a_covers l' => nm_r (nI_1 p) (ih (p + 1) (by omega) _ _ l')))
  have F : ∀ n (a_covers : Nat → Int32), yB a_covers → (∀ n i, yc_S K a_covers n i → pf_FO g K t n i) → pf_yc g K t (yc_S K a_covers) → wY_beginning_44 post (n + 1) (nI (gr_P g)) (nI (gr_L g)) f_goal f_extra f_measured f_known 0 f_sum a_left a_size a_right a_text a_ops a_constants a_heights a_many a_chosen a_firstEnd a_secondEnd a_values a_nodes a_far a_productive a_useful a_covers := by
    intro n a_covers B sd cl
    have H := hpost 0 a_productive a_covers
    refine br_t rfl ?_
    obtain e | e := B 0 (by decide)
    · rw [e]
      refine ⟨rfl, H.2 (fun q => ?_)⟩
      have := (pf_FO_yle cl q).2.2
      exact this e
    · rw [e]
      exact ⟨rfl, H.1 (sd 0 0 ⟨by decide, Nat.zero_le _, by show a_covers 0 ≠ 0; rw [e]; decide⟩)⟩
  have K44 : ∀ d (a_covers : Nat → Int32), yB a_covers → (∀ n i, yc_S K a_covers n i → pf_FO g K t n i) → yc_mu a_covers ≤ d → wY_beginning_44 post (d + 1 + 1) (nI (gr_P g)) (nI (gr_L g)) f_goal f_extra f_measured f_known 1 f_sum a_left a_size a_right a_text a_ops a_constants a_heights a_many a_chosen a_firstEnd a_secondEnd a_values a_nodes a_far a_productive a_useful a_covers := by
    intro d
    induction d with
    | zero =>
      intro a_covers B sd mu
      refine br_f (by decide) ⟨gr_P g + 1, K58 (yc_mu a_covers) (fun f_more a_covers l => ?_) (gr_P g) 0 (by omega) 0 a_covers ⟨B, sd, Or.inl ⟨rfl, Nat.le_refl _, fun p i _ _ q => by unfold yc_dn at q; omega⟩⟩⟩
      obtain ⟨B', sd', ⟨rfl, mu', h3⟩ | ⟨rfl, mu'⟩⟩ := l
      · exact F _ _ B' sd' (fun p i hp hi y => h3 p i hp hi trivial y)
      · omega
    | succ d ih =>
      intro a_covers B sd mu
      refine br_f (by decide) ⟨gr_P g + 1, K58 (yc_mu a_covers) (fun f_more a_covers l => ?_) (gr_P g) 0 (by omega) 0 a_covers ⟨B, sd, Or.inl ⟨rfl, Nat.le_refl _, fun p i _ _ q => by unfold yc_dn at q; omega⟩⟩⟩
      obtain ⟨B', sd', ⟨rfl, mu', h3⟩ | ⟨rfl, mu'⟩⟩ := l
      · exact F _ _ B' sd' (fun p i hp hi y => h3 p i hp hi trivial y)
      · exact ih _ B' sd' (by omega)
  have K20 : ∀ d x, x + d = 70 → ∀ (a_covers : Nat → Int32), (∀ y, y < x → a_covers y = 0) → wY_beginning_20 post (nI (gr_P g)) (nI (gr_L g)) f_goal f_extra f_measured f_known f_more f_sum (d + 1) (nI x) a_left a_size a_right a_text a_ops a_constants a_heights a_many a_chosen a_firstEnd a_secondEnd a_values a_nodes a_far a_productive a_useful a_covers := by
    intro d
    induction d with
    | zero =>
      intro x hx a_covers hz
      have e : x = 70 := by omega
      subst e
      exact br_t (nI_le (a := 70) (b := 70) (by decide) (by decide)) ⟨_, K44 70 _ (fun x hx => Or.inl (hz x hx)) (fun n i s => absurd (hz _ (by have := s.1; have := s.2.1; omega)) s.2.2) (pu_cnt_le _ _)⟩
    | succ d ih =>
      intro x hx a_covers hz
      refine br_f (nI_ge (b := 70) (by omega) (by decide)) ⟨vp_in_nI (by omega) (by decide), nm_r (e' := upd a_covers x 0) (by rw [nI_clamp (by omega)]; rfl) (nm_r (nI_1 x) (ih (x + 1) (by omega) _ (fun y hy => ?_)))⟩
      by_cases c : y = x
      · rw [c, pk_us]
      · rw [pk_un c]; exact hz y (by omega)
  exact ⟨70 + 1, K20 70 0 rfl _ (fun y hy => absurd hy (by omega))⟩
theorem ys_begin0 {post : Int32 → SY → Prop} (eg : f_goal = 0) (W : gr_W g) (mR : xm_R g a_right) (mF : xm_F g a_left) (mZ : ym_Z g a_size) (hpost : ∀ (a_productive : Nat → Int32), (pf_PR g 0 → post 1 (nI (gr_P g), nI (gr_L g), f_goal, f_extra, f_measured, f_known, f_more, f_sum, a_left, a_size, a_right, a_text, a_ops, a_constants, a_heights, a_many, a_chosen, a_firstEnd, a_secondEnd, a_values, a_nodes, a_far, a_productive, a_useful, a_covers)) ∧ (¬ pf_PR g 0 → post 0 (nI (gr_P g), nI (gr_L g), f_goal, f_extra, f_measured, f_known, f_more, f_sum, a_left, a_size, a_right, a_text, a_ops, a_constants, a_heights, a_many, a_chosen, a_firstEnd, a_secondEnd, a_values, a_nodes, a_far, a_productive, a_useful, a_covers))) : wpY_beginning post (nI (gr_P g), nI (gr_L g), f_goal, f_extra, f_measured, f_known, f_more, f_sum, a_left, a_size, a_right, a_text, a_ops, a_constants, a_heights, a_many, a_chosen, a_firstEnd, a_secondEnd, a_values, a_nodes, a_far, a_productive, a_useful, a_covers) := by
  unfold wpY_beginning
  refine ys_findProd (g := g) W mR mF mZ (fun a_productive Pr => br_t eg ?_)
  have H := hpost a_productive
  obtain ⟨e, q⟩ | ⟨e, q⟩ := Pr 0 (by decide)
  · rw [e]; exact ⟨rfl, H.1 q⟩
  · rw [e]; exact ⟨rfl, H.2 q⟩
theorem ys_spread {post : SY → Prop} {p : Nat} (W : gr_W g) (hp : p < gr_P g) (mR : xm_R g a_right) (mZ : ym_Z g a_size) (u : pf_US g (gr_F g p)) (ap : pf_ap g (pf_PR g) p) (I : us_R g a_useful p 0 a_useful) (hpost : ∀ (a : Nat → Int32), us_R g a_useful p 3 a → post (nI (gr_P g), nI (gr_L g), f_goal, f_extra, f_measured, f_known, f_more, f_sum, a_left, a_size, a_right, a_text, a_ops, a_constants, a_heights, a_many, a_chosen, a_firstEnd, a_secondEnd, a_values, a_nodes, a_far, a_productive, a, a_covers)) : wpY_spread post (nI (gr_P g), nI (gr_L g), f_goal, f_extra, f_measured, f_known, f_more, f_sum, a_left, a_size, a_right, a_text, a_ops, a_constants, a_heights, a_many, a_chosen, a_firstEnd, a_secondEnd, a_values, a_nodes, a_far, a_productive, a_useful, a_covers) (nI p) := by
  have hP := W.1
  have k3 := pu_k_le g p
  have kc := pu_k_c W hp
  have ez : a_size (nI p).toNatClampNeg = nI (pu_k g p) := by rw [nI_clamp (by omega)]; exact mZ p hp
  have hin : vp_in (nI p) 12 := vp_in_nI (by omega) (by decide)
  have K : ∀ d m, m + d = 3 → ∀ (a : Nat → Int32), us_R g a_useful p m a → wY_spread_2 post (nI p) (nI (gr_P g)) (nI (gr_L g)) f_goal f_extra f_measured f_known f_more f_sum (d + 1) (nI m) a_left a_size a_right a_text a_ops a_constants a_heights a_many a_chosen a_firstEnd a_secondEnd a_values a_nodes a_far a_productive a a_covers := by
    intro d
    induction d with
    | zero =>
      intro m hm a I
      have e : m = 3 := by omega
      subst e
      exact ⟨hin, br_t (by rw [ez]; exact nI_le (by omega) (by decide)) (hpost a I)⟩
    | succ d ih =>
      intro m hm a I
      have hm3 : m < 3 := by omega
      have ok := pu_okR W hp (m := m) hm3
      have st := us_Rs W hp hm3 u ap I
      refine ⟨hin, pk_le (pu_k g p) m (fun l => hpost a ?_) (fun l => ⟨xb_i (by omega) hm3, ?_⟩) ez rfl⟩
      · obtain ⟨i1, i2, i3, i4⟩ := I
        refine ⟨i1, i2, i3, fun m' hm' nt => ?_⟩
        by_cases c : m' < m
        · exact i4 m' c nt
        · unfold pu_nt at nt
          have : m' = 0 ∨ m' = 1 ∨ m' = 2 := by omega
          obtain rfl | rfl | rfl := this
          · have nt' : 10 ≤ gr_R g (3 * p) ∧ gr_R g (3 * p) < 99 := nt
            omega
          · omega
          · omega
      · rw [xm_Rm W mR hp hm3]
        refine ek_if (sy_lt ok) (fun c => nm_r (nI_1 m) (ih (m + 1) (by omega) a (st.2 (fun nt => by unfold pu_nt at nt; omega)))) (fun c => ⟨xb_i (by omega) hm3, ?_⟩)
        have nt : pu_nt (gr_R g (3 * p + m)) := by unfold pu_nt; unfold pu_ok at ok; omega
        have h5 : gr_R g (3 * p + m) - 10 < 5 := by unfold pu_ok at ok; unfold pu_nt at nt; omega
        rw [sy_nt nt, xb_10]
        exact ⟨vp_in_nI h5 (by decide), nm_r (e' := upd a (gr_R g (3 * p + m) - 10) 1) (by rw [nI_clamp (by omega)]; rfl) (nm_r (nI_1 m) (ih (m + 1) (by omega) _ (st.1 nt)))⟩
  exact ⟨3 + 1, K 3 0 rfl a_useful I⟩
/-- traits, up to the last question -/
theorem ys_traits {post : Int32 → SY → Prop} {n : Nat} (W : gr_W g) (hn5 : n < 5) (mR : xm_R g a_right) (mF : xm_F g a_left) (mZ : ym_Z g a_size) (Pr : xm_Pr g a_productive) (hpost : ∀ (a_useful : Nat → Int32) (a c : Nat), ((a = 1 ∧ pf_PR g n) ∨ (a = 0 ∧ ¬ pf_PR g n)) → ((c = 4 ∧ pf_US g n) ∨ (c = 0 ∧ ¬ pf_US g n)) → wY_traits_145 post (nI (10 + n)) (nI c) (nI a) (nI (gr_P g)) (nI (gr_L g)) f_goal f_extra f_measured f_known f_more f_sum a_left a_size a_right a_text a_ops a_constants a_heights a_many a_chosen a_firstEnd a_secondEnd a_values a_nodes a_far a_productive a_useful a_covers) : ∃ n16, wY_traits_16 post (nI (10 + n)) (nI (gr_P g)) (nI (gr_L g)) f_goal f_extra f_measured f_known f_more f_sum n16 0 a_left a_size a_right a_text a_ops a_constants a_heights a_many a_chosen a_firstEnd a_secondEnd a_values a_nodes a_far a_productive a_useful a_covers := by
  have hP := W.1
  have AP : ∀ {p : Nat}, p < gr_P g → ((∀ m, 0 ≤ m → m < 3 → pf_yl (mk_q a_productive) (gr_R g (3 * p + m))) ↔ pf_ap g (pf_PR g) p) := fun hp => ⟨fun h => (xm_Pr_ap W hp Pr).mp (fun m hm => h m (Nat.zero_le _) hm), fun h m _ hm => (xm_Pr_ap W hp Pr).mpr h m hm⟩
  have K60 : ∀ (n53 r : Nat) (a0 : Nat → Int32), (∀ (a_useful : Nat → Int32), us_I g a0 (gr_P g) a_useful → wY_traits_53 post (nI (10 + n)) n53 (nI (r + 1)) (nI (gr_P g)) (nI (gr_L g)) f_goal f_extra f_measured f_known f_more f_sum a_left a_size a_right a_text a_ops a_constants a_heights a_many a_chosen a_firstEnd a_secondEnd a_values a_nodes a_far a_productive a_useful a_covers) → ∀ d p, p + d = gr_P g → ∀ (a_useful : Nat → Int32), us_I g a0 p a_useful → wY_traits_60 post (wY_traits_53 post (nI (10 + n)) n53) (nI (10 + n)) (nI r) (d + 1) (nI p) (nI (gr_P g)) (nI (gr_L g)) f_goal f_extra f_measured f_known f_more f_sum a_left a_size a_right a_text a_ops a_constants a_heights a_many a_chosen a_firstEnd a_secondEnd a_values a_nodes a_far a_productive a_useful a_covers := by
    intro n53 r a0 hJ d
    induction d with
    | zero =>
      intro p hp a_useful I
      have e : p = gr_P g := by omega
      subst e
      exact br_t (nI_le (Nat.le_refl _) (by omega)) (nm_r (nI_1 r) (hJ _ I))
    | succ d ih =>
      intro p hp a_useful I
      have hp' : p < gr_P g := by omega
      have hF := W.2.2.1 p hp'
      refine br_f (nI_ge (by omega) (by omega)) ⟨vp_in_nI (by omega) (by decide), ?_⟩
      rw [xm_Fp W mF hp', xb_10]
      refine ⟨vp_in_nI hF (by decide), ?_⟩
      rw [nI_clamp (show gr_F g p < 2 ^ 31 by omega)]
      refine br_c (fun z => nm_r (nI_1 p) (ih (p + 1) (by omega) _ (us_no W hp' I (Or.inl z)))) (fun z => ?_)
      refine ys_allYield (g := g) (k := 0) W hp' (by decide) mR mZ (fun ap => br_f (by decide) ?_) (fun ap => br_t rfl (nm_r (nI_1 p) (ih (p + 1) (by omega) _ (us_no W hp' I (Or.inr (fun q => ap ((AP hp').mpr q)))))))
      exact ys_spread (g := g) W hp' mR mZ (I.2.1 _ hF z) ((AP hp').mp ap) ⟨I.1, I.2.1, fun _ _ z => z, fun m' hm' => by omega⟩ (fun a r => nm_r (nI_1 p) (ih (p + 1) (by omega) _ (us_in W I r)))
  have K53 : ∀ d r, r + d = 5 → ∀ (a_useful : Nat → Int32), us_O g r a_useful → wY_traits_53 post (nI (10 + n)) (d + 1) (nI r) (nI (gr_P g)) (nI (gr_L g)) f_goal f_extra f_measured f_known f_more f_sum a_left a_size a_right a_text a_ops a_constants a_heights a_many a_chosen a_firstEnd a_secondEnd a_values a_nodes a_far a_productive a_useful a_covers := by
    intro d
    induction d with
    | zero =>
      intro r hr a_useful I
      have e : r = 5 := by omega
      subst e
      have Us := us_end I
      have T128 : ∀ a : Nat, ((a = 1 ∧ pf_PR g n) ∨ (a = 0 ∧ ¬ pf_PR g n)) → wY_traits_128 post (nI (10 + n)) (nI a) (nI (gr_P g)) (nI (gr_L g)) f_goal f_extra f_measured f_known f_more f_sum a_left a_size a_right a_text a_ops a_constants a_heights a_many a_chosen a_firstEnd a_secondEnd a_values a_nodes a_far a_productive a_useful a_covers := by
        intro a ha
        unfold wY_traits_128
        rw [xb_10]
        refine ⟨vp_in_nI hn5 (by decide), ?_⟩
        rw [nI_clamp (by omega)]
        obtain ⟨e1, e2⟩ | ⟨e1, e2⟩ := Us n hn5
        · exact br_f (by rw [e1]; decide) (hpost a_useful a 4 ha (Or.inl ⟨rfl, e2⟩))
        · exact br_t e1 (hpost a_useful a 0 ha (Or.inr ⟨rfl, e2⟩))
      refine br_t (nI_le (a := 5) (b := 5) (by decide) (by decide)) ?_
      rw [xb_10]
      refine ⟨vp_in_nI hn5 (by decide), ?_⟩
      rw [nI_clamp (by omega)]
      obtain ⟨e1, e2⟩ | ⟨e1, e2⟩ := Pr n hn5
      · exact br_f (by rw [e1]; decide) (T128 1 (Or.inl ⟨rfl, e2⟩))
      · exact br_t e1 (T128 0 (Or.inr ⟨rfl, e2⟩))
    | succ d ih =>
      intro r hr a_useful I
      refine br_f (nI_ge (b := 5) (by omega) (by decide)) ⟨gr_P g + 1, ?_⟩
      exact K60 (d + 1) r a_useful (fun a I' => ih (r + 1) (by omega) a (us_step W I I')) (gr_P g) 0 (by omega) a_useful ⟨I.1, I.2.1, fun _ _ z => z, fun p' m hp' => by omega⟩
  have K16 : ∀ d x, x + d = 5 → ∀ (a_useful : Nat → Int32), (∀ y, y < x → (a_useful y = 0 ∧ ¬ (y = 0 ∧ pf_PR g 0)) ∨ (a_useful y = 1 ∧ y = 0 ∧ pf_PR g 0)) → wY_traits_16 post (nI (10 + n)) (nI (gr_P g)) (nI (gr_L g)) f_goal f_extra f_measured f_known f_more f_sum (d + 1) (nI x) a_left a_size a_right a_text a_ops a_constants a_heights a_many a_chosen a_firstEnd a_secondEnd a_values a_nodes a_far a_productive a_useful a_covers := by
    intro d
    induction d with
    | zero =>
      intro x hx a_useful hz
      have e : x = 5 := by omega
      subst e
      refine br_t (nI_le (a := 5) (b := 5) (by decide) (by decide)) ⟨5 + 1, K53 5 0 rfl _ ⟨fun n hn => ?_, fun n hn z => ?_, fun pr => ?_, Or.inl (Nat.zero_le _)⟩⟩
      · obtain h | h := hz n hn
        · exact Or.inl h.1
        · exact Or.inr h.1
      · obtain h | h := hz n hn
        · exact absurd h.1 z
        · rw [h.2.1]; exact (pf_US_cl g).1 h.2.2
      · obtain h | h := hz 0 (by decide)
        · exact absurd ⟨rfl, pr⟩ h.2
        · rw [h.1]; decide
    | succ d ih =>
      intro x hx a_useful hz
      have hin : vp_in (nI x) 5 := vp_in_nI (by omega) (by decide)
      have ec : (nI x).toNatClampNeg = x := nI_clamp (by omega)
      have E0 : ¬ (x = 0 ∧ pf_PR g 0) → ∀ y, y < x + 1 → (upd a_useful x 0 y = 0 ∧ ¬ (y = 0 ∧ pf_PR g 0)) ∨ (upd a_useful x 0 y = 1 ∧ y = 0 ∧ pf_PR g 0) := by
        intro h y hy
        by_cases c : y = x
        · rw [c, pk_us]; exact Or.inl ⟨rfl, h⟩
        · rw [pk_un c]; exact hz y (by omega)
      have E1 : (x = 0 ∧ pf_PR g 0) → ∀ y, y < x + 1 → (upd a_useful x 1 y = 0 ∧ ¬ (y = 0 ∧ pf_PR g 0)) ∨ (upd a_useful x 1 y = 1 ∧ y = 0 ∧ pf_PR g 0) := by
        intro h y hy
        by_cases c : y = x
        · rw [c, pk_us]; exact Or.inr ⟨rfl, h⟩
        · rw [pk_un c]; exact hz y (by omega)
      refine br_f (nI_ge (b := 5) (by omega) (by decide)) (pk_eq x 0 (fun e => ?_) (fun e => ⟨hin, nm_r (e' := upd a_useful x 0) (by rw [ec]; rfl) (nm_r (nI_1 x) (ih (x + 1) (by omega) _ (E0 (fun q => e q.1))))⟩))
      refine br_c (fun z => ⟨hin, nm_r (e' := upd a_useful x 0) (by rw [ec]; rfl) (nm_r (nI_1 x) (ih (x + 1) (by omega) _ (E0 (fun q => ?_))))⟩) (fun z => ⟨hin, nm_r (e' := upd a_useful x 1) (by rw [ec]; rfl) (nm_r (nI_1 x) (ih (x + 1) (by omega) _ (E1 ⟨e, ?_⟩)))⟩)
      · obtain ⟨e1, _⟩ | ⟨_, e1⟩ := Pr 0 (by decide)
        · rw [e1] at z; exact absurd z (by decide)
        · exact e1 q.2
      · obtain ⟨_, e1⟩ | ⟨e1, _⟩ := Pr 0 (by decide)
        · exact e1
        · exact absurd e1 z
  exact ⟨5 + 1, K16 5 0 rfl _ (fun y hy => absurd hy (by omega))⟩
end
