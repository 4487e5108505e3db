/-! productive, used, follows: pure -/
def pf_yl (Q : Nat → Prop) (s : Nat) : Prop := pu_nt s → Q (s - 10)
def pf_ap (g : gr_G) (Q : Nat → Prop) (p : Nat) : Prop := ∀ m, m < 3 → pf_yl Q (gr_R g (3 * p + m))
def pf_cl (g : gr_G) (Q : Nat → Prop) : Prop := ∀ p, p < gr_P g → pf_ap g Q p → Q (gr_F g p)
def pf_PR (g : gr_G) (n : Nat) : Prop := ∀ Q : Nat → Prop, pf_cl g Q → Q n
theorem pf_PR_cl (g : gr_G) : pf_cl g (pf_PR g) := fun p hp a Q cl => cl p hp (fun m hm nt => a m hm nt Q cl)
def pf_uc (g : gr_G) (Q : Nat → Prop) : Prop := (pf_PR g 0 → Q 0) ∧ ∀ p m, p < gr_P g → m < 3 → Q (gr_F g p) → pf_ap g (pf_PR g) p → pu_nt (gr_R g (3 * p + m)) → Q (gr_R g (3 * p + m) - 10)
def pf_US (g : gr_G) (n : Nat) : Prop := ∀ Q : Nat → Prop, pf_uc g Q → Q n
theorem pf_US_cl (g : gr_G) : pf_uc g (pf_US g) := ⟨fun h Q cl => cl.1 h, fun p m hp hm u a nt Q cl => cl.2 p m hp hm (u Q cl) a nt⟩
abbrev pf_S : Type := Nat → Nat → Prop
def pf_fp (k t : Nat) (S : pf_S) (s i : Nat) : Prop := (s < 10 ∧ s = t ∧ i = k) ∨ (pu_nt s ∧ S (s - 10) i)
def pf_ps (g : gr_G) (s i j : Nat) : Prop := pu_ps g (pu_HH g) s i j 1000
def pf_co (g : gr_G) (k t : Nat) (S : pf_S) (p i : Nat) : Prop := pf_fp k t S (gr_R g (3 * p)) i ∨ (∃ u, i ≤ u ∧ u ≤ k ∧ pf_ps g (gr_R g (3 * p)) i u ∧ pf_fp k t S (gr_R g (3 * p + 1)) u) ∨ (∃ u v, i ≤ u ∧ u ≤ v ∧ v ≤ k ∧ pf_ps g (gr_R g (3 * p)) i u ∧ pf_ps g (gr_R g (3 * p + 1)) u v ∧ pf_fp k t S (gr_R g (3 * p + 2)) v)
def pf_fc (g : gr_G) (k t : Nat) (S : pf_S) : Prop := ∀ p i, p < gr_P g → i ≤ k → pf_ap g (pf_PR g) p → pf_co g k t S p i → S (gr_F g p) i
def pf_FO (g : gr_G) (k t : Nat) : pf_S := fun n i => ∀ S : pf_S, pf_fc g k t S → S n i
theorem pf_fp_mono {k t s i : Nat} {S S' : pf_S} (h : ∀ n i, S n i → S' n i) (f : pf_fp k t S s i) : pf_fp k t S' s i := by
  obtain f | f := f
  · exact Or.inl f
  · exact Or.inr ⟨f.1, h _ _ f.2⟩
theorem pf_co_mono {g : gr_G} {k t p i : Nat} {S S' : pf_S} (h : ∀ n i, S n i → S' n i) (f : pf_co g k t S p i) : pf_co g k t S' p i := by
  obtain f | ⟨u, a, b, c, f⟩ | ⟨u, v, a, b, c, d, e, f⟩ := f
  · exact Or.inl (pf_fp_mono h f)
  · exact Or.inr (Or.inl ⟨u, a, b, c, pf_fp_mono h f⟩)
  · exact Or.inr (Or.inr ⟨u, v, a, b, c, d, e, pf_fp_mono h f⟩)
theorem pf_FO_cl (g : gr_G) (k t : Nat) : pf_fc g k t (pf_FO g k t) := fun p i hp hi a c S cl => cl p i hp hi a (pf_co_mono (fun _ _ h => h S cl) c)
section
variable {g : gr_G}
theorem pf_H_PR (W : gr_W g) (S : pu_HS g (pu_HH g)) : ∀ h n i j, pu_V g n i j → 0 < pu_HH g n i j → pu_HH g n i j ≤ h → pf_PR g n := by
  intro h
  induction h with
  | zero => intro n i j hv h0 hh; omega
  | succ h ih =>
    intro n i j hv h0 hh
    obtain ⟨q, eq⟩ : ∃ q, pu_HH g n i j = q + 1 := ⟨pu_HH g n i j - 1, by omega⟩
    obtain ⟨_, p, u, v, hp, hn, h1, h2, h3, f⟩ := ((S n i j hv).2.1 q eq).1
    have hj := hv.2.2
    have Q : ∀ {s x y : Nat}, pu_ok s → x ≤ y → y ≤ gr_L g → pu_ps g (pu_HH g) s x y (q + 1) → pf_yl (pf_PR g) s := by
      intro s x y ok hxy hy f nt
      have z := (pu_ps_n nt).mp f
      exact ih _ _ _ (xb_ntV ok nt hxy hy) z.1 (by omega)
    rw [← hn]
    refine pf_PR_cl g p hp (fun m hm => ?_)
    have : m = 0 ∨ m = 1 ∨ m = 2 := by omega
    obtain rfl | rfl | rfl := this
    · exact Q (pu_okR0 W hp) h1 (by omega) f.1
    · exact Q (pu_okR W hp (by decide)) h2 (by omega) f.2.1
    · exact Q (pu_okR W hp (by decide)) h3 hj f.2.2
theorem pf_ps_PR (W : gr_W g) (S : pu_HS g (pu_HH g)) {s i j : Nat} (ok : pu_ok s) (hij : i ≤ j) (hj : j ≤ gr_L g) (f : pf_ps g s i j) : pf_yl (pf_PR g) s := by
  intro nt
  have z := (pu_ps_n nt).mp f
  exact pf_H_PR W S _ _ _ _ (xb_ntV ok nt hij hj) z.1 (Nat.le_refl _)
theorem pf_FO_PR {k t n i : Nat} (h : pf_FO g k t n i) : pf_PR g n := h (fun n _ => pf_PR g n) (fun p _ hp _ a _ => pf_PR_cl g p hp a)
theorem pf_fp_PR {k t s i : Nat} (h : pf_fp k t (pf_FO g k t) s i) : pf_yl (pf_PR g) s := by
  intro nt
  obtain h | h := h
  · unfold pu_nt at nt; omega
  · exact pf_FO_PR h.2
/-- a symbol at the end of the text goes on or is empty -/
def pf_al (g : gr_G) (k s i : Nat) : Prop := (∃ t, t < 6 ∧ pf_fp k t (pf_FO g k t) s i) ∨ pf_ps g s i k
theorem pf_tree (W : gr_W g) (S : pu_HS g (pu_HH g)) {p i u v j : Nat} (hp : p < gr_P g) (h1 : i ≤ u) (h2 : u ≤ v) (h3 : v ≤ j) (hj : j ≤ gr_L g) (f0 : pf_ps g (gr_R g (3 * p)) i u) (f1 : pf_ps g (gr_R g (3 * p + 1)) u v) (f2 : pf_ps g (gr_R g (3 * p + 2)) v j) : 0 < pu_HH g (gr_F g p) i j := by
  by_cases z : pu_HH g (gr_F g p) i j = 0
  · exact absurd ⟨by decide, p, u, v, hp, rfl, h1, h2, h3, f0, f1, f2⟩ ((S _ _ _ ⟨W.2.2.1 p hp, by omega, hj⟩).1 z 1000)
  · omega
theorem pf_go2 (W : gr_W g) (S : pu_HS g (pu_HH g)) {p i u v k : Nat} (hp : p < gr_P g) (a : pf_ap g (pf_PR g) p) (h1 : i ≤ u) (h2 : u ≤ v) (h3 : v ≤ k) (hk : k ≤ gr_L g) (f0 : pf_ps g (gr_R g (3 * p)) i u) (f1 : pf_ps g (gr_R g (3 * p + 1)) u v) (f2 : pf_al g k (gr_R g (3 * p + 2)) v) : (∃ t, t < 6 ∧ pf_FO g k t (gr_F g p) i) ∨ 0 < pu_HH g (gr_F g p) i k := by
  obtain ⟨t, ht, f⟩ | f := f2
  · exact Or.inl ⟨t, ht, pf_FO_cl g k t p i hp (by omega) a (Or.inr (Or.inr ⟨u, v, h1, h2, h3, f0, f1, f⟩))⟩
  · exact Or.inr (pf_tree W S hp h1 h2 h3 hk f0 f1 f)
theorem pf_go1 (W : gr_W g) (S : pu_HS g (pu_HH g)) {p i u k : Nat} (hp : p < gr_P g) (a : pf_ap g (pf_PR g) p) (h1 : i ≤ u) (h2 : u ≤ k) (hk : k ≤ gr_L g) (f0 : pf_ps g (gr_R g (3 * p)) i u) (f1 : pf_al g k (gr_R g (3 * p + 1)) u) (f2 : pf_al g k (gr_R g (3 * p + 2)) k) : (∃ t, t < 6 ∧ pf_FO g k t (gr_F g p) i) ∨ 0 < pu_HH g (gr_F g p) i k := by
  obtain ⟨t, ht, f⟩ | f := f1
  · exact Or.inl ⟨t, ht, pf_FO_cl g k t p i hp (by omega) a (Or.inr (Or.inl ⟨u, h1, h2, f0, f⟩))⟩
  · exact pf_go2 W S hp a h1 h2 (Nat.le_refl _) hk f0 f f2
theorem pf_go0 (W : gr_W g) (S : pu_HS g (pu_HH g)) {p i k : Nat} (hp : p < gr_P g) (a : pf_ap g (pf_PR g) p) (h1 : i ≤ k) (hk : k ≤ gr_L g) (f0 : pf_al g k (gr_R g (3 * p)) i) (f1 : pf_al g k (gr_R g (3 * p + 1)) k) (f2 : pf_al g k (gr_R g (3 * p + 2)) k) : (∃ t, t < 6 ∧ pf_FO g k t (gr_F g p) i) ∨ 0 < pu_HH g (gr_F g p) i k := by
  obtain ⟨t, ht, f⟩ | f := f0
  · exact Or.inl ⟨t, ht, pf_FO_cl g k t p i hp h1 a (Or.inl f)⟩
  · exact pf_go1 W S hp a h1 (Nat.le_refl _) hk f f1 f2
theorem pf_al_of {k s i : Nat} (S : pu_HS g (pu_HH g)) (ok : pu_ok s) (hik : i ≤ k) (hk : k ≤ gr_L g) (nt : pu_nt s) (h : (∃ t, t < 6 ∧ pf_FO g k t (s - 10) i) ∨ 0 < pu_HH g (s - 10) i k) : pf_al g k s i := by
  obtain ⟨t, ht, f⟩ | f := h
  · exact Or.inl ⟨t, ht, Or.inr ⟨nt, f⟩⟩
  · exact Or.inr ((pu_psH S ok nt hik hk (by decide)).mpr f)
theorem pf_al_k {k s : Nat} (S : pu_HS g (pu_HH g)) (ok : pu_ok s) (hk : k ≤ gr_L g) (h : pu_nt s → (∃ t, t < 6 ∧ pf_FO g k t (s - 10) k) ∨ 0 < pu_HH g (s - 10) k k) : pf_al g k s k := by
  by_cases nt : pu_nt s
  · exact pf_al_of S ok (Nat.le_refl _) hk nt (h nt)
  · unfold pu_nt at nt
    by_cases c : s = 99
    · exact Or.inr ((pu_ps_a c).mpr rfl)
    · unfold pu_ok at ok
      exact Or.inl ⟨s, by omega, Or.inl ⟨by omega, rfl, rfl⟩⟩
theorem pf_PR_k (W : gr_W g) (S : pu_HS g (pu_HH g)) {k n : Nat} (hk : k ≤ gr_L g) (h : pf_PR g n) : (∃ t, t < 6 ∧ pf_FO g k t n k) ∨ 0 < pu_HH g n k k := by
  refine (h (fun n => pf_PR g n ∧ ((∃ t, t < 6 ∧ pf_FO g k t n k) ∨ 0 < pu_HH g n k k)) (fun p hp a => ?_)).2
  have a' : pf_ap g (pf_PR g) p := fun m hm nt => (a m hm nt).1
  refine ⟨pf_PR_cl g p hp a', pf_go0 W S hp a' (Nat.le_refl _) hk (pf_al_k S (pu_okR0 W hp) hk (fun nt => (a 0 (by decide) nt).2)) (pf_al_k S (pu_okR W hp (by decide)) hk (fun nt => (a 1 (by decide) nt).2)) (pf_al_k S (pu_okR W hp (by decide)) hk (fun nt => (a 2 (by decide) nt).2))⟩
theorem pf_al_PR (W : gr_W g) (S : pu_HS g (pu_HH g)) {k p m : Nat} (hk : k ≤ gr_L g) (hp : p < gr_P g) (hm : m < 3) (a : pf_ap g (pf_PR g) p) : pf_al g k (gr_R g (3 * p + m)) k :=
  pf_al_k S (pu_okR W hp hm) hk (fun nt => pf_PR_k W S hk (a m hm nt))
/-- what begins with one token more goes on or is whole -/
theorem pf_on (W : gr_W g) (S : pu_HS g (pu_HH g)) {k n i : Nat} (hk : k + 1 ≤ gr_L g) (hi : i ≤ k) (h : pf_FO g k (gr_T g k) n i) : (∃ t, t < 6 ∧ pf_FO g (k + 1) t n i) ∨ 0 < pu_HH g n i (k + 1) := by
  refine h (fun n i => i ≤ k → (∃ t, t < 6 ∧ pf_FO g (k + 1) t n i) ∨ 0 < pu_HH g n i (k + 1)) (fun p i hp hi' a c hi => ?_) hi
  have T : ∀ {s x : Nat}, pu_ok s → x ≤ k → pf_fp k (gr_T g k) (fun n i => i ≤ k → (∃ t, t < 6 ∧ pf_FO g (k + 1) t n i) ∨ 0 < pu_HH g n i (k + 1)) s x → pf_al g (k + 1) s x := by
    intro s x ok hx f
    obtain ⟨f1, f2, f3⟩ | ⟨nt, f⟩ := f
    · exact Or.inr ((pu_ps_t f1).mpr ⟨by omega, by rw [f3]; exact f2.symm⟩)
    · exact pf_al_of S ok (by omega) hk nt (f hx)
  obtain f | ⟨u, h1, h2, f0, f⟩ | ⟨u, v, h1, h2, h3, f0, f1, f⟩ := c
  · exact pf_go0 W S hp a (by omega) hk (T (pu_okR0 W hp) hi f) (pf_al_PR W S hk hp (by decide) a) (pf_al_PR W S hk hp (by decide) a)
  · exact pf_go1 W S hp a h1 (by omega) hk f0 (T (pu_okR W hp (by decide)) h2 f) (pf_al_PR W S hk hp (by decide) a)
  · exact pf_go2 W S hp a h1 h2 (by omega) hk f0 f1 (T (pu_okR W hp (by decide)) h3 f)
theorem pf_bk_H (W : gr_W g) (S : pu_HS g (pu_HH g)) {k : Nat} (hk : k + 1 ≤ gr_L g) : ∀ h n i, n < 5 → i ≤ k → 0 < pu_HH g n i (k + 1) → pu_HH g n i (k + 1) ≤ h → pf_FO g k (gr_T g k) n i := by
  intro h
  induction h with
  | zero => intro n i hn hi h0 hh; omega
  | succ h ih =>
    intro n i hn hi h0 hh
    have hv : pu_V g n i (k + 1) := ⟨hn, by omega, hk⟩
    obtain ⟨q, eq⟩ : ∃ q, pu_HH g n i (k + 1) = q + 1 := ⟨pu_HH g n i (k + 1) - 1, by omega⟩
    obtain ⟨_, p, u, v, hp, hn', h1, h2, h3, f⟩ := ((S n i (k + 1) hv).2.1 q eq).1
    have bq := (S n i (k + 1) hv).2.2
    have m0 : pf_ps g (gr_R g (3 * p)) i u := pu_ps_mono (by omega) f.1
    have m1 : pf_ps g (gr_R g (3 * p + 1)) u v := pu_ps_mono (by omega) f.2.1
    have m2 : pf_ps g (gr_R g (3 * p + 2)) v (k + 1) := pu_ps_mono (by omega) f.2.2
    have a : pf_ap g (pf_PR g) p := by
      intro m hm
      have : m = 0 ∨ m = 1 ∨ m = 2 := by omega
      obtain rfl | rfl | rfl := this
      · exact pf_ps_PR W S (pu_okR0 W hp) h1 (by omega) m0
      · exact pf_ps_PR W S (pu_okR W hp (by decide)) h2 (by omega) m1
      · exact pf_ps_PR W S (pu_okR W hp (by decide)) h3 hk m2
    have T : ∀ {s x : Nat}, pu_ok s → x ≤ k → pu_ps g (pu_HH g) s x (k + 1) (q + 1) → pf_fp k (gr_T g k) (pf_FO g k (gr_T g k)) s x := by
      intro s x ok hx f
      by_cases nt : pu_nt s
      · have z := (pu_ps_n nt).mp f
        exact Or.inr ⟨nt, ih _ _ (by unfold pu_nt at nt; unfold pu_ok at ok; omega) hx z.1 (by omega)⟩
      · unfold pu_nt at nt
        unfold pu_ok at ok
        by_cases c : s = 99
        · have := (pu_ps_a c).mp f; omega
        · have z := (pu_ps_t (by omega)).mp f
          have e : x = k := by omega
          refine Or.inl ⟨by omega, ?_, e⟩
          rw [← z.2, e]
    rw [← hn']
    by_cases c2 : v = k + 1
    · subst c2
      by_cases c1 : u = k + 1
      · subst c1
        exact pf_FO_cl g k _ p i hp hi a (Or.inl (T (pu_okR0 W hp) hi f.1))
      · exact pf_FO_cl g k _ p i hp hi a (Or.inr (Or.inl ⟨u, h1, by omega, m0, T (pu_okR W hp (by decide)) (by omega) f.2.1⟩))
    · exact pf_FO_cl g k _ p i hp hi a (Or.inr (Or.inr ⟨u, v, h1, h2, by omega, m0, m1, T (pu_okR W hp (by decide)) (by omega) f.2.2⟩))
theorem pf_bk_ps (W : gr_W g) (S : pu_HS g (pu_HH g)) {k s x : Nat} (hk : k + 1 ≤ gr_L g) (ok : pu_ok s) (hx : x ≤ k) (f : pf_ps g s x (k + 1)) : pf_fp k (gr_T g k) (pf_FO g k (gr_T g k)) s x := by
  by_cases nt : pu_nt s
  · have z := (pu_ps_n nt).mp f
    exact Or.inr ⟨nt, pf_bk_H W S hk _ _ _ (by unfold pu_nt at nt; unfold pu_ok at ok; omega) hx z.1 (Nat.le_refl _)⟩
  · unfold pu_nt at nt
    unfold pu_ok at ok
    by_cases c : s = 99
    · have := (pu_ps_a c).mp f; omega
    · have z := (pu_ps_t (by omega)).mp f
      have e : x = k := by omega
      refine Or.inl ⟨by omega, ?_, e⟩
      rw [← z.2, e]
theorem pf_bk_F (W : gr_W g) (S : pu_HS g (pu_HH g)) {k n i t : Nat} (hk : k + 1 ≤ gr_L g) (hi : i ≤ k) (h : pf_FO g (k + 1) t n i) : pf_FO g k (gr_T g k) n i := by
  refine h (fun n i => i ≤ k → pf_FO g k (gr_T g k) n i) (fun p i hp hi' a c hi => ?_) hi
  have T : ∀ {s x : Nat}, x ≤ k → pf_fp (k + 1) t (fun n i => i ≤ k → pf_FO g k (gr_T g k) n i) s x → pf_fp k (gr_T g k) (pf_FO g k (gr_T g k)) s x := by
    intro s x hx f
    obtain ⟨f1, f2, f3⟩ | ⟨nt, f⟩ := f
    · omega
    · exact Or.inr ⟨nt, f hx⟩
  obtain f | ⟨u, h1, h2, f0, f⟩ | ⟨u, v, h1, h2, h3, f0, f1, f⟩ := c
  · exact pf_FO_cl g k _ p i hp hi a (Or.inl (T hi f))
  · by_cases c1 : u = k + 1
    · subst c1
      exact pf_FO_cl g k _ p i hp hi a (Or.inl (pf_bk_ps W S hk (pu_okR0 W hp) hi f0))
    · exact pf_FO_cl g k _ p i hp hi a (Or.inr (Or.inl ⟨u, h1, by omega, f0, T (by omega) f⟩))
  · by_cases c2 : v = k + 1
    · subst c2
      by_cases c1 : u = k + 1
      · subst c1
        exact pf_FO_cl g k _ p i hp hi a (Or.inl (pf_bk_ps W S hk (pu_okR0 W hp) hi f0))
      · exact pf_FO_cl g k _ p i hp hi a (Or.inr (Or.inl ⟨u, h1, by omega, f0, pf_bk_ps W S hk (pu_okR W hp (by decide)) (by omega) f1⟩))
    · exact pf_FO_cl g k _ p i hp hi a (Or.inr (Or.inr ⟨u, v, h1, h2, by omega, f0, f1, T (by omega) f⟩))
/-- the first k tokens are a beginning -/
def pf_B (g : gr_G) (k : Nat) : Prop := if k = 0 then pf_PR g 0 else pf_FO g (k - 1) (gr_T g (k - 1)) 0 0
theorem pf_B_iff (W : gr_W g) (S : pu_HS g (pu_HH g)) {k : Nat} (hk : k ≤ gr_L g) : pf_B g k ↔ ((∃ t, t < 6 ∧ pf_FO g k t 0 0) ∨ 0 < pu_HH g 0 0 k) := by
  unfold pf_B
  by_cases c : k = 0
  · rw [if_pos c]
    subst c
    constructor
    · exact fun h => pf_PR_k W S hk h
    · intro h
      obtain ⟨t, _, h⟩ | h := h
      · exact pf_FO_PR h
      · exact pf_H_PR W S _ _ _ _ ⟨by decide, Nat.le_refl _, hk⟩ h (Nat.le_refl _)
  · rw [if_neg c]
    obtain ⟨q, rfl⟩ : ∃ q, k = q + 1 := ⟨k - 1, by omega⟩
    rw [show q + 1 - 1 = q from rfl]
    constructor
    · exact fun h => pf_on W S hk (by omega) h
    · intro h
      obtain ⟨t, _, h⟩ | h := h
      · exact pf_bk_F W S hk (by omega) h
      · exact pf_bk_H W S hk _ _ _ (by decide) (by omega) h (Nat.le_refl _)
/-! the reference's rule -/
def pf_yo (g : gr_G) (k t : Nat) (S : pf_S) (p i : Nat) : Prop := (pf_fp k t S (gr_R g (3 * p)) i ∧ pf_yl (pf_PR g) (gr_R g (3 * p + 1)) ∧ pf_yl (pf_PR g) (gr_R g (3 * p + 2))) ∨ (∃ u, i ≤ u ∧ u ≤ k ∧ pf_ps g (gr_R g (3 * p)) i u ∧ pf_fp k t S (gr_R g (3 * p + 1)) u ∧ pf_yl (pf_PR g) (gr_R g (3 * p + 2))) ∨ (∃ u v, i ≤ u ∧ u ≤ v ∧ v ≤ k ∧ pf_ps g (gr_R g (3 * p)) i u ∧ pf_ps g (gr_R g (3 * p + 1)) u v ∧ pf_fp k t S (gr_R g (3 * p + 2)) v)
def pf_yc (g : gr_G) (k t : Nat) (S : pf_S) : Prop := ∀ p i, p < gr_P g → i ≤ k → pf_yo g k t S p i → S (gr_F g p) i
theorem pf_ap3 {Q : Nat → Prop} {p : Nat} (a : pf_yl Q (gr_R g (3 * p))) (b : pf_yl Q (gr_R g (3 * p + 1))) (c : pf_yl Q (gr_R g (3 * p + 2))) : pf_ap g Q p := by
  intro m hm
  have : m = 0 ∨ m = 1 ∨ m = 2 := by omega
  obtain rfl | rfl | rfl := this
  · exact a
  · exact b
  · exact c
theorem pf_FO_yc (W : gr_W g) (S : pu_HS g (pu_HH g)) {k t : Nat} (hk : k ≤ gr_L g) : pf_yc g k t (pf_FO g k t) := by
  intro p i hp hi c
  obtain ⟨f, a1, a2⟩ | ⟨u, h1, h2, f0, f, a2⟩ | ⟨u, v, h1, h2, h3, f0, f1, f⟩ := c
  · exact pf_FO_cl g k t p i hp hi (pf_ap3 (pf_fp_PR f) a1 a2) (Or.inl f)
  · exact pf_FO_cl g k t p i hp hi (pf_ap3 (pf_ps_PR W S (pu_okR0 W hp) h1 (by omega) f0) (pf_fp_PR f) a2) (Or.inr (Or.inl ⟨u, h1, h2, f0, f⟩))
  · exact pf_FO_cl g k t p i hp hi (pf_ap3 (pf_ps_PR W S (pu_okR0 W hp) h1 (by omega) f0) (pf_ps_PR W S (pu_okR W hp (by decide)) h2 (by omega) f1) (pf_fp_PR f)) (Or.inr (Or.inr ⟨u, v, h1, h2, h3, f0, f1, f⟩))
theorem pf_FO_yle {k t n i : Nat} {S : pf_S} (cl : pf_yc g k t S) (h : pf_FO g k t n i) : S n i := by
  refine h S (fun p i hp hi a c => cl p i hp hi ?_)
  obtain f | ⟨u, h1, h2, f0, f⟩ | ⟨u, v, h1, h2, h3, f0, f1, f⟩ := c
  · exact Or.inl ⟨f, a 1 (by decide), a 2 (by decide)⟩
  · exact Or.inr (Or.inl ⟨u, h1, h2, f0, f, a 2 (by decide)⟩)
  · exact Or.inr (Or.inr ⟨u, v, h1, h2, h3, f0, f1, f⟩)
end
