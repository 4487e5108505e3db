/-! the reference: the chosen tree -/
theorem pd_mx {Q : Nat → Prop} {N k : Nat} (hk : k ≤ N) (q : Q k) : ∃ m, m ≤ N ∧ Q m ∧ ∀ k, k ≤ N → Q k → k ≤ m := by
  obtain ⟨m, h1, h2, h3⟩ := pd_max Q N
  have a := h2 k hk q
  refine ⟨m, h1, ?_, h2⟩
  obtain e | h3 := h3
  · have : k = m := by omega
    rw [← this]; exact q
  · exact h3
theorem pu_CHX_of {g : gr_G} (W : gr_W g) (S : pu_HS g (pu_HH g)) : pu_CHX g := by
  intro n i j hv h0
  obtain ⟨h, eh⟩ : ∃ h, pu_HH g n i j = h + 1 := ⟨pu_HH g n i j - 1, by omega⟩
  obtain ⟨_, p, u, v, hp, hn, a, b, c, F⟩ := ((S n i j hv).2.1 h eh).1
  rw [← eh] at F
  obtain ⟨p1, ⟨hp1, hn1, u1, v1, a1, b1, c1, F1⟩, least⟩ := pk_least (fun p => p < gr_P g ∧ gr_F g p = n ∧ ∃ u v, i ≤ u ∧ u ≤ v ∧ v ≤ j ∧ pu_F g (pu_HH g) p i u v j (pu_HH g n i j)) ⟨p, hp, hn, u, v, a, b, c, F⟩
  obtain ⟨u2, _, ⟨v2, a2, b2, c2, F2⟩, mu⟩ := pd_mx (Q := fun u => ∃ v, i ≤ u ∧ u ≤ v ∧ v ≤ j ∧ pu_F g (pu_HH g) p1 i u v j (pu_HH g n i j)) (N := j) (show u1 ≤ j by omega) ⟨v1, a1, b1, c1, F1⟩
  obtain ⟨v3, _, ⟨b3, c3, F3⟩, mv⟩ := pd_mx (Q := fun v => u2 ≤ v ∧ v ≤ j ∧ pu_F g (pu_HH g) p1 i u2 v j (pu_HH g n i j)) (N := j) c2 ⟨b2, c2, F2⟩
  have ch : pu_Ch g (pu_HH g) n i j p1 u2 v3 := by
    refine ⟨hp1, hn1, a2, b3, c3, F3, fun p' u' v' q1 q2 q3 q4 q5 q6 => least p' q1 ⟨by omega, q2, u', v', q3, q4, q5, q6⟩, fun u' v' q3 q4 q5 q7 q6 => ?_⟩
    have m1 := mu u' (by omega) ⟨v', q3, q4, q5, q6⟩
    by_cases e : u' = u2
    · subst e
      have m2 := mv v' q5 ⟨q4, q5, q6⟩
      omega
    · omega
  rw [pu_ch_s ch]; exact ch
def yb_dn (u v : Nat) : Nat → Nat → Prop := fun u' v' => u' < u ∨ (u' = u ∧ v' < v)
def yb_L (g : gr_G) (H : pu_C) (p i j h c : Nat) (dn : Nat → Nat → Prop) (ch0 fe0 se0 ch fe se : Nat → Int32) : Prop := (∀ x, x ≠ c → ch x = ch0 x ∧ fe x = fe0 x ∧ se x = se0 x) ∧ ((ch c = ch0 c ∧ fe c = fe0 c ∧ se c = se0 c ∧ ∀ u v, i ≤ u → u ≤ v → v ≤ j → dn u v → ¬ pu_F g H p i u v j h) ∨ (∃ u v, i ≤ u ∧ u ≤ v ∧ v ≤ j ∧ dn u v ∧ pu_F g H p i u v j h ∧ ch c = nI p ∧ fe c = nI u ∧ se c = nI v ∧ ∀ u' v', i ≤ u' → u' ≤ v' → v' ≤ j → dn u' v' → (u < u' ∨ (u = u' ∧ v < v')) → ¬ pu_F g H p i u' v' j h))
theorem yb_L_dn {g : gr_G} {H : pu_C} {p i j h c : Nat} {dn dn' : Nat → Nat → Prop} {ch0 fe0 se0 ch fe se : Nat → Int32} (l : yb_L g H p i j h c dn ch0 fe0 se0 ch fe se) (h1 : ∀ u v, i ≤ u → u ≤ v → v ≤ j → (dn' u v ↔ dn u v)) : yb_L g H p i j h c dn' ch0 fe0 se0 ch fe se := by
  obtain ⟨a, ⟨b1, b2, b3, b4⟩ | ⟨u, v, q1, q2, q3, q4, q5, q6, q7, q8, q9⟩⟩ := l
  · exact ⟨a, Or.inl ⟨b1, b2, b3, fun u v x y z d => b4 u v x y z ((h1 u v x y z).mp d)⟩⟩
  · exact ⟨a, Or.inr ⟨u, v, q1, q2, q3, (h1 u v q1 q2 q3).mpr q4, q5, q6, q7, q8, fun u' v' x y z d => q9 u' v' x y z ((h1 u' v' x y z).mp d)⟩⟩
theorem yb_b' : ∀ p : Fin 64, vp_nar .byte (nI p.val).toInt8.toInt32 = nI p.val := by
  intro p
  rw [pk_vb]
  revert p
  decide +kernel
theorem yb_b {p : Nat} (h : p < 64) : vp_nar .byte (nI p).toInt8.toInt32 = nI p := yb_b' ⟨p, h⟩
section
variable {g : gr_G} {f_goal f_extra f_measured f_known f_more : Int32} {f_sum : Int64} {a_left a_size a_right a_text a_ops a_constants a_heights : Nat → Int32} {a_many : Nat → Int64} {a_chosen a_firstEnd a_secondEnd : Nat → Int32} {a_values a_nodes : Nat → Int64} {a_far a_productive a_useful a_covers : Nat → Int32}
theorem ys_chooseBy {post : SY → Prop} {H : pu_C} {p n i j h : Nat} (W : gr_W g) (hp : p < gr_P g) (hv : pu_V g n i j) (hh : h ≤ 1000) (tx : xm_T g a_text) (mR : xm_R g a_right) (mZ : ym_Z g a_size) (mH : ym_H g a_heights H) (hb : ∀ n i j, pu_V g n i j → H n i j ≤ 1000)
    (hpost : ∀ (ch fe se : Nat → Int32), yb_L g H p i j h (cy n i j) (fun _ _ => True) a_chosen a_firstEnd a_secondEnd ch fe se → post (nI (gr_P g), nI (gr_L g), f_goal, f_extra, f_measured, f_known, f_more, f_sum, a_left, a_size, a_right, a_text, a_ops, a_constants, a_heights, a_many, ch, fe, se, a_values, a_nodes, a_far, a_productive, a_useful, a_covers)) : wpY_chooseBy post (nI (gr_P g), nI (gr_L g), f_goal, f_extra, f_measured, f_known, f_more, f_sum, a_left, a_size, a_right, a_text, a_ops, a_constants, a_heights, a_many, a_chosen, a_firstEnd, a_secondEnd, a_values, a_nodes, a_far, a_productive, a_useful, a_covers) (nI p) (nI (cy n i j)) (nI i) (nI j) (nI h) := by
  have hL := W.2.1
  have hP := W.1
  have hl := cy_lt W hv
  have hin : vp_in (nI (cy n i j)) 980 := vp_in_nI hl (by decide)
  have ec : (nI (cy n i j)).toNatClampNeg = cy n i j := nI_clamp (by omega)
  have hij := hv.2.1
  have hj := hv.2.2
  have K14 : ∀ {J3 : Int32 → (Nat → Int32) → (Nat → Int32) → (Nat → Int32) → (Nat → Int32) → (Nat → Int32) → (Nat → Int32) → (Nat → Int32) → (Nat → Int64) → (Nat → Int32) → (Nat → Int32) → (Nat → Int32) → (Nat → Int64) → (Nat → Int64) → (Nat → Int32) → (Nat → Int32) → (Nat → Int32) → (Nat → Int32) → Prop} (u : Nat), i ≤ u → u ≤ j → (∀ (ch fe se : Nat → Int32), yb_L g H p i j h (cy n i j) (yb_dn (u + 1) 0) a_chosen a_firstEnd a_secondEnd ch fe se → J3 (nI (u + 1)) a_left a_size a_right a_text a_ops a_constants a_heights a_many ch fe se a_values a_nodes a_far a_productive a_useful a_covers) → ∀ d v, v + d = j + 1 → u ≤ v → ∀ (ch fe se : Nat → Int32), yb_L g H p i j h (cy n i j) (yb_dn u v) a_chosen a_firstEnd a_secondEnd ch fe se → wY_chooseBy_14 post J3 (nI p) (nI (cy n i j)) (nI i) (nI j) (nI h) (nI u) (nI (gr_P g)) (nI (gr_L g)) f_goal f_extra f_measured f_known f_more f_sum (d + 1) (nI v) a_left a_size a_right a_text a_ops a_constants a_heights a_many ch fe se a_values a_nodes a_far a_productive a_useful a_covers := by
    intro J3 u hiu huj hJ d
    induction d with
    | zero =>
      intro v hvd huv ch fe se l
      refine br_t (nI_lt (by omega) (by omega)) (nm_r (nI_1 u) (hJ _ _ _ (yb_L_dn l (fun u' v' h1 h2 h3 => ?_))))
      unfold yb_dn; omega
    | succ d ih =>
      intro v hvd huv ch fe se l
      refine br_f (nI_nlt (by omega) (by omega)) (ys_fits (H := H) W hp hiu huv (by omega) hj hh tx mR mZ mH hb (fun f => br_f (by decide) ⟨hin, nm_r (e' := upd ch (cy n i j) (nI p)) (by rw [ec, yb_b (by omega)]) ⟨hin, nm_r (e' := upd fe (cy n i j) (nI u)) (by rw [ec, yb_b (by omega)]) ⟨hin, nm_r (e' := upd se (cy n i j) (nI v)) (by rw [ec, yb_b (by omega)]) (nm_r (nI_1 v) (ih (v + 1) (by omega) (by omega) _ _ _ ⟨fun x hx => ?_, Or.inr ⟨u, v, hiu, huv, by omega, Or.inr ⟨rfl, by omega⟩, f, pk_us, pk_us, pk_us, fun u' v' h1 h2 h3 h4 h5 => ?_⟩⟩))⟩⟩⟩) (fun f => br_t rfl (nm_r (nI_1 v) (ih (v + 1) (by omega) (by omega) _ _ _ ?_))))
      · rw [pk_un hx, pk_un hx, pk_un hx]; exact l.1 x hx
      · unfold yb_dn at h4; omega
      · obtain ⟨a, ⟨b1, b2, b3, b4⟩ | ⟨u0, v0, q1, q2, q3, q4, q5, q6, q7, q8, q9⟩⟩ := l
        · refine ⟨a, Or.inl ⟨b1, b2, b3, fun u' v' x y z d => ?_⟩⟩
          by_cases e : u' = u ∧ v' = v
          · rw [e.1, e.2]; exact f
          · exact b4 u' v' x y z (by unfold yb_dn at *; omega)
        · refine ⟨a, Or.inr ⟨u0, v0, q1, q2, q3, by unfold yb_dn at *; omega, q5, q6, q7, q8, fun u' v' x y z d => ?_⟩⟩
          by_cases e : u' = u ∧ v' = v
          · rw [e.1, e.2]; exact fun _ => f
          · exact q9 u' v' x y z (by unfold yb_dn at *; omega)
  have K3 : ∀ d u, u + d = j + 1 → i ≤ u → ∀ (ch fe se : Nat → Int32), yb_L g H p i j h (cy n i j) (yb_dn u 0) a_chosen a_firstEnd a_secondEnd ch fe se → wY_chooseBy_3 post (nI p) (nI (cy n i j)) (nI i) (nI j) (nI h) (nI (gr_P g)) (nI (gr_L g)) f_goal f_extra f_measured f_known f_more f_sum (d + 1) (nI u) a_left a_size a_right a_text a_ops a_constants a_heights a_many ch fe se a_values a_nodes a_far a_productive a_useful a_covers := by
    intro d
    induction d with
    | zero =>
      intro u hu hiu ch fe se l
      refine br_t (nI_lt (by omega) (by omega)) (hpost _ _ _ (yb_L_dn l (fun u' v' h1 h2 h3 => ⟨fun _ => ?_, fun _ => trivial⟩)))
      unfold yb_dn; omega
    | succ d ih =>
      intro u hu hiu ch fe se l
      refine br_f (nI_nlt (by omega) (by omega)) ⟨j + 1 - u + 1, K14 u hiu (by omega) (fun ch fe se l' => ih (u + 1) (by omega) (by omega) _ _ _ l') (j + 1 - u) u (by omega) (Nat.le_refl _) _ _ _ (yb_L_dn l (fun u' v' h1 h2 h3 => ?_))⟩
      unfold yb_dn; omega
  exact ⟨j + 1 - i + 1, K3 (j + 1 - i) i (by omega) (Nat.le_refl _) _ _ _ ⟨fun x _ => ⟨rfl, rfl, rfl⟩, Or.inl ⟨rfl, rfl, rfl, fun u v h1 h2 h3 d => by unfold yb_dn at d; omega⟩⟩⟩
def yb_C (g : gr_G) (H : pu_C) (n i j h c p : Nat) (ch0 fe0 se0 ch fe se : Nat → Int32) : Prop := (∀ x, x ≠ c → ch x = ch0 x ∧ fe x = fe0 x ∧ se x = se0 x) ∧ ((∀ q, p ≤ q → q < gr_P g → gr_F g q = n → ∀ u v, i ≤ u → u ≤ v → v ≤ j → ¬ pu_F g H q i u v j h) ∨ (∃ q u v, p ≤ q ∧ q < gr_P g ∧ gr_F g q = n ∧ i ≤ u ∧ u ≤ v ∧ v ≤ j ∧ pu_F g H q i u v j h ∧ ch c = nI q ∧ fe c = nI u ∧ se c = nI v ∧ (∀ u' v', i ≤ u' → u' ≤ v' → v' ≤ j → (u < u' ∨ (u = u' ∧ v < v')) → ¬ pu_F g H q i u' v' j h) ∧ (∀ q', p ≤ q' → q' < q → gr_F g q' = n → ∀ u v, i ≤ u → u ≤ v → v ≤ j → ¬ pu_F g H q' i u v j h)))
theorem yb_step {g : gr_G} {H : pu_C} {n i j h c p : Nat} {ch0 fe0 se0 ch fe se ch' fe' se' : Nat → Int32} (hp : p < gr_P g) (hn : gr_F g p = n) (C : yb_C g H n i j h c (p + 1) ch0 fe0 se0 ch fe se) (l : yb_L g H p i j h c (fun _ _ => True) ch fe se ch' fe' se') : yb_C g H n i j h c p ch0 fe0 se0 ch' fe' se' := by
  obtain ⟨a, b⟩ := C
  obtain ⟨a', b'⟩ := l
  refine ⟨fun x hx => ?_, ?_⟩
  · obtain ⟨e1, e2, e3⟩ := a x hx
    obtain ⟨f1, f2, f3⟩ := a' x hx
    exact ⟨f1.trans e1, f2.trans e2, f3.trans e3⟩
  · obtain ⟨b1, b2, b3, b4⟩ | ⟨u, v, q1, q2, q3, _, q5, q6, q7, q8, q9⟩ := b'
    · obtain b | ⟨q, u, v, r1, r2, r3, r4, r5, r6, r7, r8, r9, r10, r11, r12⟩ := b
      · refine Or.inl (fun q h1 h2 h3 u v x y z => ?_)
        by_cases e : q = p
        · rw [e]; exact b4 u v x y z trivial
        · exact b q (by omega) h2 h3 u v x y z
      · refine Or.inr ⟨q, u, v, by omega, r2, r3, r4, r5, r6, r7, b1.trans r8, b2.trans r9, b3.trans r10, r11, fun q' h1 h2 h3 u v x y z => ?_⟩
        by_cases e : q' = p
        · rw [e]; exact b4 u v x y z trivial
        · exact r12 q' (by omega) h2 h3 u v x y z
    · exact Or.inr ⟨p, u, v, Nat.le_refl _, hp, hn, q1, q2, q3, q5, q6, q7, q8, fun u' v' x y z w => q9 u' v' x y z trivial w, fun q' h1 h2 => by omega⟩
theorem yb_skip {g : gr_G} {H : pu_C} {n i j h c p : Nat} {ch0 fe0 se0 ch fe se : Nat → Int32} (hn : gr_F g p ≠ n) (C : yb_C g H n i j h c (p + 1) ch0 fe0 se0 ch fe se) : yb_C g H n i j h c p ch0 fe0 se0 ch fe se := by
  obtain ⟨a, b | ⟨q, u, v, r1, r2, r3, r4, r5, r6, r7, r8, r9, r10, r11, r12⟩⟩ := C
  · refine ⟨a, Or.inl (fun q h1 h2 h3 => ?_)⟩
    by_cases e : q = p
    · rw [e] at h3; exact absurd h3 hn
    · exact b q (by omega) h2 h3
  · refine ⟨a, Or.inr ⟨q, u, v, by omega, r2, r3, r4, r5, r6, r7, r8, r9, r10, r11, fun q' h1 h2 h3 => ?_⟩⟩
    by_cases e : q' = p
    · rw [e] at h3; exact absurd h3 hn
    · exact r12 q' (by omega) h2 h3
/-- at the end the arrays hold the chosen tree -/
theorem yb_end {g : gr_G} {n i j : Nat} {ch0 fe0 se0 ch fe se : Nat → Int32} (W : gr_W g) (S : pu_HS g (pu_HH g)) (hv : pu_V g n i j) (h0 : 0 < pu_HH g n i j) (C : yb_C g (pu_HH g) n i j (pu_HH g n i j) (cy n i j) 0 ch0 fe0 se0 ch fe se) : ch (cy n i j) = nI (pu_ch g n i j).1 ∧ fe (cy n i j) = nI (pu_ch g n i j).2.1 ∧ se (cy n i j) = nI (pu_ch g n i j).2.2 := by
  obtain ⟨_, b | ⟨q, u, v, _, r2, r3, r4, r5, r6, r7, r8, r9, r10, r11, r12⟩⟩ := C
  · obtain ⟨c1, c2, c3, c4, c5, c6, _⟩ := pu_CHX_of W S n i j hv h0
    exact absurd c6 (b _ (Nat.zero_le _) c1 c2 _ _ c3 c4 c5)
  · have ch : pu_Ch g (pu_HH g) n i j q u v := ⟨r2, r3, r4, r5, r6, r7, fun p' u' v' h1 h2 h3 h4 h5 => r12 p' (Nat.zero_le _) h1 h2 u' v' h3 h4 h5, r11⟩
    rw [pu_ch_s ch]
    exact ⟨r8, r9, r10⟩
end
