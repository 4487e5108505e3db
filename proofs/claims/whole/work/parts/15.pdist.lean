/-! distances: pure -/
def pd_tk (g : gr_G) (s i j : Nat) : Prop := ∃ k, i ≤ k ∧ k < j ∧ gr_T g k = s
noncomputable def pd_aw (g : gr_G) (D : pu_C) (s i j : Nat) : Nat := if s = 99 then j - i else if s < 10 then (if i = j then 1 else @ite _ (pd_tk g s i j) (Classical.propDecidable _) (j - i - 1) (j - i)) else D (s - 10) i j
noncomputable def pd_sm (g : gr_G) (D : pu_C) (p i u v j : Nat) : Nat := pd_aw g D (gr_R g (3 * p)) i u + pd_aw g D (gr_R g (3 * p + 1)) u v + pd_aw g D (gr_R g (3 * p + 2)) v j
def pd_le (g : gr_G) (D D' : pu_C) : Prop := ∀ n i j, pu_V g n i j → D n i j ≤ D' n i j
def pd_X (g : gr_G) (D : pu_C) : Prop := (∀ n i j, pu_V g n i j → D n i j ≤ 1000000) ∧ ∀ p i u v j, p < gr_P g → i ≤ u → u ≤ v → v ≤ j → j ≤ gr_L g → D (gr_F g p) i j ≤ pd_sm g D p i u v j
def pd_Y (g : gr_G) (D : pu_C) : Prop := (∀ n i j, pu_V g n i j → D n i j ≤ 1000000) ∧ ∀ p i u v j, p < gr_P g → i ≤ u → u ≤ v → v ≤ j → j ≤ gr_L g → (gr_R g (3 * p + 2) = 99 → v = j) → (gr_R g (3 * p + 1) = 99 → u = j) → D (gr_F g p) i j ≤ pd_sm g D p i u v j
def pd_S (g : gr_G) (D : pu_C) : Prop := pd_X g D ∧ ∀ D', pd_X g D' → pd_le g D' D
def pd_SY (g : gr_G) (D : pu_C) : Prop := pd_Y g D ∧ ∀ D', pd_Y g D' → pd_le g D' D
section
variable {g : gr_G} {D D' : pu_C}
theorem pd_aw_a {s i j : Nat} (h : s = 99) : pd_aw g D s i j = j - i := if_pos h
theorem pd_aw_n {s i j : Nat} (h : pu_nt s) : pd_aw g D s i j = D (s - 10) i j := by
  unfold pu_nt at h
  unfold pd_aw; rw [if_neg (by omega), if_neg (by omega)]
theorem pd_aw_t1 {s i j : Nat} (h : s < 10) (e : i = j) : pd_aw g D s i j = 1 := by
  unfold pd_aw; rw [if_neg (by omega), if_pos h, if_pos e]
theorem pd_aw_t2 {s i j : Nat} (h : s < 10) (e : i ≠ j) (t : pd_tk g s i j) : pd_aw g D s i j = j - i - 1 := by
  unfold pd_aw; rw [if_neg (by omega), if_pos h, if_neg e, if_pos t]
theorem pd_aw_t3 {s i j : Nat} (h : s < 10) (e : i ≠ j) (t : ¬ pd_tk g s i j) : pd_aw g D s i j = j - i := by
  unfold pd_aw; rw [if_neg (by omega), if_pos h, if_neg e, if_neg t]
theorem pd_aw_mono (M : pd_le g D D') {s i j : Nat} (ok : pu_ok s) (hij : i ≤ j) (hj : j ≤ gr_L g) : pd_aw g D s i j ≤ pd_aw g D' s i j := by
  by_cases c : pu_nt s
  · rw [pd_aw_n c, pd_aw_n c]; exact M _ _ _ (xb_ntV ok c hij hj)
  · unfold pu_nt at c
    unfold pu_ok at ok
    unfold pd_aw
    by_cases c1 : s = 99
    · rw [if_pos c1, if_pos c1]; exact Nat.le_refl _
    · have c2 : s < 10 := by omega
      rw [if_neg c1, if_neg c1, if_pos c2, if_pos c2]; exact Nat.le_refl _
theorem pd_sm_mono (W : gr_W g) (M : pd_le g D D') {p i u v j : Nat} (hp : p < gr_P g) (h1 : i ≤ u) (h2 : u ≤ v) (h3 : v ≤ j) (hj : j ≤ gr_L g) : pd_sm g D p i u v j ≤ pd_sm g D' p i u v j := by
  have a := pd_aw_mono M (pu_okR0 W hp) h1 (by omega)
  have b := pd_aw_mono M (pu_okR W hp (m := 1) (by decide)) h2 (by omega)
  have c := pd_aw_mono M (pu_okR W hp (m := 2) (by decide)) h3 hj
  unfold pd_sm; omega
theorem pd_eq (a : pd_S g D) (b : pd_S g D') {n i j : Nat} (hv : pu_V g n i j) : D n i j = D' n i j := by
  have h1 := b.2 D a.1 n i j hv
  have h2 := a.2 D' b.1 n i j hv
  omega
theorem pd_max (Q : Nat → Prop) : ∀ N, ∃ m, m ≤ N ∧ (∀ k, k ≤ N → Q k → k ≤ m) ∧ (m = 0 ∨ Q m) := by
  intro N
  induction N with
  | zero => exact ⟨0, Nat.le_refl _, fun k hk _ => hk, Or.inl rfl⟩
  | succ N ih =>
    by_cases c : Q (N + 1)
    · exact ⟨N + 1, Nat.le_refl _, fun k hk _ => hk, Or.inr c⟩
    · obtain ⟨m, h1, h2, h3⟩ := ih
      refine ⟨m, by omega, fun k hk q => ?_, h3⟩
      by_cases e : k = N + 1
      · rw [e] at q; exact absurd q c
      · exact h2 k (by omega) q
theorem pd_ex (W : gr_W g) : ∃ D, pd_S g D := by
  have M : ∀ x : Nat × Nat × Nat, ∃ m, m ≤ 1000000 ∧ (∀ k, k ≤ 1000000 → (∃ D', pd_X g D' ∧ k ≤ D' x.1 x.2.1 x.2.2) → k ≤ m) ∧ (m = 0 ∨ ∃ D', pd_X g D' ∧ m ≤ D' x.1 x.2.1 x.2.2) := fun x => pd_max _ 1000000
  obtain ⟨f, hf⟩ := Classical.axiomOfChoice M
  have G : ∀ D', pd_X g D' → pd_le g D' (fun n i j => f (n, i, j)) := fun D' x n i j hv => (hf (n, i, j)).2.1 _ (x.1 n i j hv) ⟨D', x, Nat.le_refl _⟩
  refine ⟨fun n i j => f (n, i, j), ⟨fun n i j _ => (hf (n, i, j)).1, fun p i u v j hp h1 h2 h3 hj => ?_⟩, G⟩
  obtain e | ⟨D', x, e⟩ := (hf (gr_F g p, i, j)).2.2
  · show f (gr_F g p, i, j) ≤ _
    omega
  · have a := x.2 p i u v j hp h1 h2 h3 hj
    have b := pd_sm_mono W (G D' x) hp h1 h2 h3 hj
    exact Nat.le_trans e (Nat.le_trans a b)
end
noncomputable def pd_D (g : gr_G) : pu_C := Classical.epsilon (pd_S g)
theorem pd_D_s {g : gr_G} (W : gr_W g) : pd_S g (pd_D g) := Classical.epsilon_spec (p := pd_S g) (pd_ex W)
theorem pd_D_e {g : gr_G} (W : gr_W g) {D : pu_C} (S : pd_S g D) {n i j : Nat} (hv : pu_V g n i j) : D n i j = pd_D g n i j := pd_eq S (pd_D_s W) hv
/-! a longer text costs at most one more a token -/
def pd_E (g : gr_G) (D : pu_C) : pu_C := fun n i j => if j + 1 ≤ gr_L g then (if D n i j ≤ D n i (j + 1) - 1 then D n i (j + 1) - 1 else D n i j) else D n i j
section
variable {g : gr_G} {D : pu_C}
theorem pd_E_ge (n i j : Nat) : D n i j ≤ pd_E g D n i j := by unfold pd_E; (repeat' split) <;> omega
theorem pd_E_ge2 {n i j : Nat} (h : j + 1 ≤ gr_L g) : D n i (j + 1) ≤ pd_E g D n i j + 1 := by unfold pd_E; rw [if_pos h]; split <;> omega
theorem pd_E_aw {s i j : Nat} (ok : pu_ok s) (hij : i ≤ j) (hj : j + 1 ≤ gr_L g) : pd_aw g D s i (j + 1) ≤ pd_aw g (pd_E g D) s i j + 1 := by
  by_cases c : pu_nt s
  · rw [pd_aw_n c, pd_aw_n c]; exact pd_E_ge2 hj
  · by_cases c1 : s = 99
    · rw [pd_aw_a c1, pd_aw_a c1]; omega
    · have c2 : s < 10 := by unfold pu_nt at c; unfold pu_ok at ok; omega
      by_cases t : pd_tk g s i (j + 1)
      · rw [pd_aw_t2 c2 (by omega) t]
        by_cases e : i = j
        · rw [pd_aw_t1 c2 e]; omega
        · by_cases t' : pd_tk g s i j
          · rw [pd_aw_t2 c2 e t']; omega
          · rw [pd_aw_t3 c2 e t']; omega
      · rw [pd_aw_t3 c2 (by omega) t]
        by_cases e : i = j
        · rw [pd_aw_t1 c2 e]; omega
        · rw [pd_aw_t3 c2 e (fun ⟨k, h1, h2, h3⟩ => t ⟨k, h1, by omega, h3⟩)]; omega
theorem pd_E_Y (W : gr_W g) (Y : pd_Y g D) : pd_Y g (pd_E g D) := by
  refine ⟨fun n i j hv => ?_, fun p i u v j hp h1 h2 h3 hj c2 c1 => ?_⟩
  · have a := Y.1 n i j hv
    unfold pd_E
    by_cases c : j + 1 ≤ gr_L g
    · have b := Y.1 n i (j + 1) ⟨hv.1, by have := hv.2.1; omega, c⟩
      rw [if_pos c]; split <;> omega
    · rw [if_neg c]; exact a
  · have A := Y.2 p i u v j hp h1 h2 h3 hj c2 c1
    have B := pd_sm_mono W (D := D) (D' := pd_E g D) (fun n i j _ => pd_E_ge n i j) hp h1 h2 h3 hj
    have ok0 := pu_okR0 W hp
    have ok1 := pu_okR W hp (m := 1) (by decide)
    have ok2 := pu_okR W hp (m := 2) (by decide)
    have gp := W.2.2.2.2.1 p hp
    have Z : j + 1 ≤ gr_L g → D (gr_F g p) i (j + 1) ≤ pd_sm g (pd_E g D) p i u v j + 1 := by
      intro hL
      have m0 := pd_aw_mono (g := g) (D := D) (D' := pd_E g D) (fun n i j _ => pd_E_ge n i j) ok0 h1 (by omega)
      have m1 := pd_aw_mono (g := g) (D := D) (D' := pd_E g D) (fun n i j _ => pd_E_ge n i j) ok1 h2 (by omega)
      by_cases r2 : gr_R g (3 * p + 2) = 99
      · have e2 := c2 r2
        subst e2
        by_cases r1 : gr_R g (3 * p + 1) = 99
        · have e1 := c1 r1
          subst e1
          have a := Y.2 p i (u + 1) (u + 1) (u + 1) hp (by omega) (by omega) (by omega) hL (fun _ => rfl) (fun _ => rfl)
          have b := pd_E_aw (D := D) ok0 h1 hL
          unfold pd_sm at *
          rw [pd_aw_a r1, pd_aw_a r2] at *
          omega
        · have a := Y.2 p i u (v + 1) (v + 1) hp h1 (by omega) (by omega) hL (fun _ => rfl) (fun q => absurd q r1)
          have b := pd_E_aw (D := D) ok1 h2 hL
          unfold pd_sm at *
          rw [pd_aw_a r2] at *
          omega
      · have a := Y.2 p i u v (j + 1) hp h1 h2 (by omega) hL (fun q => absurd q r2) (fun q => absurd (gp.2 q) r2)
        have b := pd_E_aw (D := D) ok2 h3 hL
        unfold pd_sm at *
        omega
    unfold pd_E at ⊢
    by_cases c : j + 1 ≤ gr_L g
    · have z := Z c
      unfold pd_E at z
      rw [if_pos c]
      unfold pd_E at B
      split <;> omega
    · rw [if_neg c]
      unfold pd_E at B
      omega
theorem pd_lip (W : gr_W g) (S : pd_SY g D) {n i j : Nat} (hn : n < 5) (hij : i ≤ j) : ∀ d, j + d ≤ gr_L g → D n i (j + d) ≤ D n i j + d := by
  intro d
  induction d with
  | zero => intro _; exact Nat.le_refl _
  | succ d ih =>
    intro hd
    have a := ih (by omega)
    have b := S.2 _ (pd_E_Y W S.1) n i (j + d) ⟨hn, by omega, by omega⟩
    have c := pd_E_ge2 (D := D) (n := n) (i := i) (j := j + d) (show j + d + 1 ≤ gr_L g by omega)
    show D n i (j + d + 1) ≤ _
    omega
theorem pd_SY_S (W : gr_W g) (S : pd_SY g D) : pd_S g D := by
  refine ⟨⟨S.1.1, fun p i u v j hp h1 h2 h3 hj => ?_⟩, fun D' x => S.2 D' ⟨x.1, fun p i u v j hp h1 h2 h3 hj _ _ => x.2 p i u v j hp h1 h2 h3 hj⟩⟩
  have hF := W.2.2.1 p hp
  have gp := W.2.2.2.2.1 p hp
  by_cases r2 : gr_R g (3 * p + 2) = 99
  · by_cases r1 : gr_R g (3 * p + 1) = 99
    · have a := S.1.2 p i u u u hp h1 (Nat.le_refl _) (Nat.le_refl _) (by omega) (fun _ => rfl) (fun _ => rfl)
      have b := pd_lip W S hF h1 (j - u) (by omega)
      rw [show u + (j - u) = j by omega] at b
      unfold pd_sm at *
      rw [pd_aw_a r1, pd_aw_a r2] at *
      omega
    · have a := S.1.2 p i u v v hp h1 h2 (Nat.le_refl _) (by omega) (fun _ => rfl) (fun q => absurd q r1)
      have b := pd_lip W S hF (show i ≤ v by omega) (j - v) (by omega)
      rw [show v + (j - v) = j by omega] at b
      unfold pd_sm at *
      rw [pd_aw_a r2] at *
      omega
  · exact S.1.2 p i u v j hp h1 h2 h3 hj (fun q => absurd q r2) (fun q => absurd (gp.2 q) r2)
end
/-! a round of the component makes one more cell exact -/
def pd_I (g : gr_G) (D : pu_C) : Prop := (∀ n i j, pu_V g n i j → D n i j ≤ 1000000) ∧ ∀ D', pd_X g D' → pd_le g D' D
noncomputable def pd_mu (g : gr_G) (D : pu_C) : Nat := pu_cnt (fun x => decide (x / 11 % 11 ≤ x % 11 ∧ x % 11 ≤ gr_L g ∧ D (x / 121) (x / 11 % 11) (x % 11) ≠ pd_D g (x / 121) (x / 11 % 11) (x % 11))) 605
def pd_dn (g : gr_G) (D0 D : pu_C) (p i j : Nat) : Prop := ∀ u v, i ≤ u → u ≤ v → v ≤ j → pu_c3 g (fun n i j => D0 n i j = pd_D g n i j) p i u v j → D (gr_F g p) i j ≤ pd_sm g (pd_D g) p i u v j
theorem pd_cell {g : gr_G} {n i j : Nat} (W : gr_W g) (hv : pu_V g n i j) : cx n i j / 121 = n ∧ cx n i j / 11 % 11 = i ∧ cx n i j % 11 = j := by
  have := W.2.1
  unfold pu_V at hv
  unfold cx; omega
theorem pd_round {g : gr_G} {D0 D : pu_C} (W : gr_W g) (I0 : pd_I g D0) (I : pd_I g D) (M : pd_le g D D0) (A : ∀ p i j, p < gr_P g → i ≤ j → j ≤ gr_L g → pd_dn g D0 D p i j) : pd_mu g D0 = 0 ∨ pd_mu g D < pd_mu g D0 := by
  have S := pd_D_s W
  have lo : pd_le g (pd_D g) D := I.2 _ S.1
  have sub : ∀ x, x < 605 → decide (x / 11 % 11 ≤ x % 11 ∧ x % 11 ≤ gr_L g ∧ D (x / 121) (x / 11 % 11) (x % 11) ≠ pd_D g (x / 121) (x / 11 % 11) (x % 11)) = true → decide (x / 11 % 11 ≤ x % 11 ∧ x % 11 ≤ gr_L g ∧ D0 (x / 121) (x / 11 % 11) (x % 11) ≠ pd_D g (x / 121) (x / 11 % 11) (x % 11)) = true := by
    intro x hx h
    have h := of_decide_eq_true h
    have hv : pu_V g (x / 121) (x / 11 % 11) (x % 11) := ⟨by omega, h.1, h.2.1⟩
    have a := M _ _ _ hv
    have b := lo _ _ _ hv
    exact decide_eq_true ⟨h.1, h.2.1, by omega⟩
  by_cases z : pd_mu g D0 = 0
  · exact Or.inl z
  · refine Or.inr ?_
    by_cases lt : pd_mu g D < pd_mu g D0
    · exact lt
    · exfalso
      have all : ∀ n i j, pu_V g n i j → D0 n i j ≠ pd_D g n i j → D n i j ≠ pd_D g n i j := by
        intro n i j hv h0 h1
        apply lt
        obtain ⟨e1, e2, e3⟩ := pd_cell W hv
        refine pu_cnt_lt (x0 := cx n i j) ?_ ?_ sub (cx_lt W hv)
        · rw [e1, e2, e3]; exact decide_eq_false (fun q => q.2.2 h1)
        · rw [e1, e2, e3]; exact decide_eq_true ⟨hv.2.1, hv.2.2, h0⟩
      have up : pd_le g (pd_D g) (fun n i j => if D0 n i j = pd_D g n i j then pd_D g n i j else pd_D g n i j + 1) := by
        intro n i j _
        show _ ≤ if D0 n i j = pd_D g n i j then pd_D g n i j else pd_D g n i j + 1
        split <;> omega
      have X2 : pd_X g (fun n i j => if D0 n i j = pd_D g n i j then pd_D g n i j else pd_D g n i j + 1) := by
        refine ⟨fun n i j hv => ?_, fun p i u v j hp h1 h2 h3 hj => ?_⟩
        · have a := S.1.1 n i j hv
          have b := I0.1 n i j hv
          have c := I0.2 _ S.1 n i j hv
          show (if D0 n i j = pd_D g n i j then pd_D g n i j else pd_D g n i j + 1) ≤ 1000000
          split <;> omega
        · have hv : pu_V g (gr_F g p) i j := ⟨W.2.2.1 p hp, by omega, hj⟩
          have a := S.1.2 p i u v j hp h1 h2 h3 hj
          have b := pd_sm_mono W up hp h1 h2 h3 hj
          show (if D0 (gr_F g p) i j = pd_D g (gr_F g p) i j then pd_D g (gr_F g p) i j else pd_D g (gr_F g p) i j + 1) ≤ _
          by_cases c : D0 (gr_F g p) i j = pd_D g (gr_F g p) i j
          · rw [if_pos c]; omega
          · rw [if_neg c]
            by_cases q : pu_c3 g (fun n i j => D0 n i j = pd_D g n i j) p i u v j
            · have d := A p i j hp (by omega) hj u v h1 h2 h3 q
              have e := all _ _ _ hv c
              have f := lo _ _ _ hv
              omega
            · have ok0 := pu_okR0 W hp
              have ok1 := pu_okR W hp (m := 1) (by decide)
              have ok2 := pu_okR W hp (m := 2) (by decide)
              have m0 := pd_aw_mono up ok0 h1 (by omega)
              have m1 := pd_aw_mono up ok1 h2 (by omega)
              have m2 := pd_aw_mono up ok2 h3 hj
              have st : ∀ {s x y : Nat}, ¬ pu_cd (fun n i j => D0 n i j = pd_D g n i j) s x y → pd_aw g (pd_D g) s x y + 1 ≤ pd_aw g (fun n i j => if D0 n i j = pd_D g n i j then pd_D g n i j else pd_D g n i j + 1) s x y := by
                intro s x y h
                by_cases nt : pu_nt s
                · rw [pd_aw_n nt, pd_aw_n nt]
                  show _ ≤ if D0 (s - 10) x y = pd_D g (s - 10) x y then pd_D g (s - 10) x y else pd_D g (s - 10) x y + 1
                  rw [if_neg (fun z => h (fun _ => z))]; exact Nat.le_refl _
                · exact absurd (fun z => absurd z nt) h
              unfold pd_sm at *
              by_cases q0 : pu_cd (fun n i j => D0 n i j = pd_D g n i j) (gr_R g (3 * p)) i u
              · by_cases q1 : pu_cd (fun n i j => D0 n i j = pd_D g n i j) (gr_R g (3 * p + 1)) u v
                · by_cases q2 : pu_cd (fun n i j => D0 n i j = pd_D g n i j) (gr_R g (3 * p + 2)) v j
                  · exact absurd ⟨q0, q1, q2⟩ q
                  · have := st q2; omega
                · have := st q1; omega
              · have := st q0; omega
      apply z
      by_cases y : pd_mu g D0 = 0
      · exact y
      · exfalso
        have : ∃ x, x < 605 ∧ decide (x / 11 % 11 ≤ x % 11 ∧ x % 11 ≤ gr_L g ∧ D0 (x / 121) (x / 11 % 11) (x % 11) ≠ pd_D g (x / 121) (x / 11 % 11) (x % 11)) = true := by
          apply Classical.byContradiction
          intro hn
          apply y
          have : pd_mu g D0 ≤ pu_cnt (fun _ => false) 605 := pu_cnt_mono (fun x hx h => absurd ⟨x, hx, h⟩ hn)
          have k0 : ∀ n, pu_cnt (fun _ => false) n = 0 := by
            intro n
            induction n with
            | zero => rfl
            | succ n ih => unfold pu_cnt; rw [ih]; rfl
          rw [k0] at this; omega
        obtain ⟨x, hx, h⟩ := this
        have h := of_decide_eq_true h
        have hv : pu_V g (x / 121) (x / 11 % 11) (x % 11) := ⟨by omega, h.1, h.2.1⟩
        have q := S.2 _ X2 _ _ _ hv
        have q' : (if D0 (x / 121) (x / 11 % 11) (x % 11) = pd_D g (x / 121) (x / 11 % 11) (x % 11) then pd_D g (x / 121) (x / 11 % 11) (x % 11) else pd_D g (x / 121) (x / 11 % 11) (x % 11) + 1) ≤ pd_D g (x / 121) (x / 11 % 11) (x % 11) := q
        rw [if_neg h.2.2] at q'
        omega
theorem pd_mu_0 {g : gr_G} {D : pu_C} (W : gr_W g) (h : pd_mu g D = 0) {n i j : Nat} (hv : pu_V g n i j) : D n i j = pd_D g n i j := by
  have := pu_cnt_zero h (cx_lt W hv)
  obtain ⟨e1, e2, e3⟩ := pd_cell W hv
  rw [e1, e2, e3] at this
  have := of_decide_eq_false this
  apply Classical.byContradiction
  intro z
  exact this ⟨hv.2.1, hv.2.2, z⟩
