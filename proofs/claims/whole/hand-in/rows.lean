section
/-! rows of kit/rows, pasted -/
theorem pk_us {f : Nat → Int32} {k : Nat} {x : Int32} : upd f k x k = x := if_pos rfl
theorem pk_un {f : Nat → Int32} {k j : Nat} {x : Int32} (h : j ≠ k) : upd f k x j = f j := if_neg h
theorem pk_uLs {f : Nat → Int64} {k : Nat} {x : Int64} : vp_updL f k x k = x := if_pos rfl
theorem pk_uLn {f : Nat → Int64} {k j : Nat} {x : Int64} (h : j ≠ k) : vp_updL f k x j = f j := if_neg h
theorem pk_sub {a b : Nat} (h : b ≤ a) : nI a - nI b = nI (a - b) := by
  obtain ⟨c, rfl⟩ : ∃ c, a = c + b := ⟨a - b, by omega⟩
  rw [← nI_add, Int32.add_sub_cancel, Nat.add_sub_cancel]
theorem pk_m1 (n : Nat) : nI (n + 1) + (-1) = nI n := by
  rw [← nI_1, Int32.add_assoc, show (1 : Int32) + (-1) = 0 from rfl, Int32.add_zero]
theorem pk_mul (a b : Nat) : nI a * nI b = nI (a * b) := (Int32.ofNat_mul a b).symm
theorem pk_div {a d : Nat} (ha : a < 2 ^ 31) (h0 : 0 < d) (hd : d < 2 ^ 31) : nI a / nI d = nI (a / d) := by
  apply Int32.toInt_inj.mp
  rw [lg_idiv_nonneg (by rw [nI_toInt ha]; omega) (by rw [nI_toInt hd]; omega), nI_toInt ha, nI_toInt hd, nI_toInt (Nat.lt_of_le_of_lt (Nat.div_le_self a d) ha)]
  first | rfl | exact (Int.natCast_ediv _ _).symm
theorem pk_rem {a d : Nat} (ha : a < 2 ^ 31) (h0 : 0 < d) (hd : d < 2 ^ 31) : nI a - nI a / nI d * nI d = nI (a % d) := by
  rw [pk_div ha h0 hd, pk_mul, pk_sub (Nat.div_mul_le_self a d)]
  exact congrArg nI (by have := Nat.div_add_mod' a d; omega)
theorem pk_sub_toInt {a b : Nat} (ha : a < 2 ^ 30) (hb : b < 2 ^ 30) : (nI a - nI b).toInt = (a : Int) - b := by
  rw [Int32.toInt_sub, nI_toInt (by omega), nI_toInt (by omega)]
  exact Int.bmod_eq_of_le (by omega) (by omega)
theorem pk_sneg {a b : Nat} (hb : b < 2 ^ 30) (h : a < b) : nI a - nI b < 0 := by
  rw [Int32.lt_iff_toInt_lt, pk_sub_toInt (by omega) hb, show (0 : Int32).toInt = 0 from by decide]
  omega
theorem pk_ix (x : Int32) {n : Nat} (hn : n < 2 ^ 31) : x < 0 ∨ nI n ≤ x ∨ ∃ j : Nat, j < n ∧ x = nI j := by
  by_cases h : x < 0
  · exact Or.inl h
  · obtain ⟨j, hj, rfl⟩ := nI_of h
    by_cases h2 : j < n
    · exact Or.inr (Or.inr ⟨j, h2, rfl⟩)
    · exact Or.inr (Or.inl (nI_le (by omega) hj))
theorem pk_le {x y : Int32} {A B : Prop} (a b : Nat) (f : a ≤ b → A) (g : b < a → B) (hx : x = nI a := by rfl) (hy : y = nI b := by rfl) (ha : a < 2 ^ 31 := by omega) (hb : b < 2 ^ 31 := by omega) : (x ≤ y → A) ∧ (¬ x ≤ y → B) := by
  subst hx hy
  rw [nI_leI ha hb]
  exact ⟨f, fun z => g (by omega)⟩
theorem pk_lt {x y : Int32} {A B : Prop} (a b : Nat) (f : a < b → A) (g : b ≤ a → B) (hx : x = nI a := by rfl) (hy : y = nI b := by rfl) (ha : a < 2 ^ 31 := by omega) (hb : b < 2 ^ 31 := by omega) : (x < y → A) ∧ (¬ x < y → B) := by
  subst hx hy
  rw [nI_ltI ha hb]
  exact ⟨f, fun z => g (by omega)⟩
theorem pk_eq {x y : Int32} {A B : Prop} (a b : Nat) (f : a = b → A) (g : a ≠ b → B) (hx : x = nI a := by rfl) (hy : y = nI b := by rfl) (ha : a < 2 ^ 31 := by omega) (hb : b < 2 ^ 31 := by omega) : (x = y → A) ∧ (¬ x = y → B) := by
  subst hx hy
  rw [nI_eq ha hb]
  exact ⟨f, g⟩
theorem pk_in {x : Int32} (n N : Nat) (h : n < N) (hx : x = nI n := by rfl) (hN : N < 2 ^ 31 := by omega) : vp_in x N := by
  subst hx
  exact vp_in_nI h hN
theorem pk_cl {x : Int32} (n : Nat) (hx : x = nI n := by rfl) (h : n < 2 ^ 31 := by omega) : x.toNatClampNeg = n := by
  subst hx
  exact nI_clamp h
theorem pk_tn {n : Nat} (h : n < 2 ^ 32) : (nI n).toBitVec.toNat = n := Nat.mod_eq_of_lt h
theorem pk_nb (z : Int32) : narrow .byte (.int z.toInt8.toInt32) = .int z.toInt8.toInt32 := congrArg Value.int (by simp)
theorem pk_fb (r : Int32) : fits .byte (.int r.toInt8.toInt32) = true := by
  have ⟨a, b⟩ := lg_i2b_range r
  have h1 : (-128 : Int32).toInt = -128 := by decide
  have h2 : (127 : Int32).toInt = 127 := by decide
  simp only [fits, Bool.and_eq_true, decide_eq_true_eq, Int32.le_iff_toInt_le, h1, h2]
  omega
theorem pk_vb (z : Int32) : vp_nar .byte z.toInt8.toInt32 = z.toInt8.toInt32 := by rw [vp_nar_byte]; simp
theorem pk_lT {n : Nat} (h : n < 2 ^ 63) : (lN n).toInt = (n : Int) := lg_ofNat_toInt h
theorem pk_lLT {a b : Nat} (ha : a < 2 ^ 63) (hb : b < 2 ^ 63) : lN a < lN b ↔ a < b := by
  rw [Int64.lt_iff_toInt_lt, pk_lT ha, pk_lT hb]; omega
theorem pk_lLE {a b : Nat} (ha : a < 2 ^ 63) (hb : b < 2 ^ 63) : lN a ≤ lN b ↔ a ≤ b := by
  rw [Int64.le_iff_toInt_le, pk_lT ha, pk_lT hb]; omega
theorem pk_lEQ {a b : Nat} (ha : a < 2 ^ 63) (hb : b < 2 ^ 63) : lN a = lN b ↔ a = b := by
  rw [← Int64.toInt_inj, pk_lT ha, pk_lT hb]; omega
theorem pk_lOf {x : Int64} (h : ¬ x < 0) : ∃ k : Nat, k < 2 ^ 63 ∧ x = lN k := by
  rw [Int64.lt_iff_toInt_lt] at h
  have h0 : (0 : Int64).toInt = 0 := by decide
  have hx := Int64.toInt_lt x
  refine ⟨x.toInt.toNat, by omega, Int64.toInt_inj.mp ?_⟩
  rw [pk_lT (by omega)]
  omega
theorem pk_loop {σ : Type} (W : Nat → Nat → σ → Prop) (I : Nat → σ → Prop) (e i0 : Nat) (s : σ) (hi : i0 ≤ e) (h0 : I i0 s) (hx : ∀ n s, I e s → W (n + 1) e s)
    (hs : ∀ n i s, i < e → I i s → (∀ s', I (i + 1) s' → W n (i + 1) s') → W (n + 1) i s) : ∃ n, W n i0 s :=
  ⟨e + 1, loop_i W I e hx hs (e + 1) i0 s hi (by omega) h0⟩
theorem pk_loopD {σ : Type} (W : Nat → Nat → σ → Prop) (I : Nat → σ → Prop) (hx : ∀ n s, I 0 s → W (n + 1) 0 s)
    (hs : ∀ n i s, I (i + 1) s → (∀ s', I i s' → W n i s') → W (n + 1) (i + 1) s) : ∀ (e : Nat) (s : σ), I e s → W (e + 1) e s := by
  intro e
  induction e with
  | zero => exact fun s h => hx 0 s h
  | succ e ih => exact fun s h => hs (e + 1) e s h (fun s' h' => ih s' h')
theorem lp1 {A1 : Type} (W : Nat → A1 → Prop) (I : A1 → Prop) (μ : A1 → Nat) (hs : ∀ (n : Nat) (a1 : A1), I a1 → (∀ (b1 : A1), I b1 → μ b1 < μ a1 → W n b1) → W (n + 1) a1) (a1 : A1) (h : I a1) : ∃ n, W n a1 :=
  loop_m (σ := A1) (fun n s => W n s) (fun s => I s) (fun s => μ s) (fun n s hI hk => hs n s hI (fun b1 h9 hm => hk b1 h9 hm)) a1 h
theorem lp2 {A1 A2 : Type} (W : Nat → A1 → A2 → Prop) (I : A1 → A2 → Prop) (μ : A1 → A2 → Nat) (hs : ∀ (n : Nat) (a1 : A1) (a2 : A2), I a1 a2 → (∀ (b1 : A1) (b2 : A2), I b1 b2 → μ b1 b2 < μ a1 a2 → W n b1 b2) → W (n + 1) a1 a2) (a1 : A1) (a2 : A2) (h : I a1 a2) : ∃ n, W n a1 a2 :=
  loop_m (σ := A1 × A2) (fun n s => W n s.1 s.2) (fun s => I s.1 s.2) (fun s => μ s.1 s.2) (fun n s hI hk => hs n s.1 s.2 hI (fun b1 b2 h9 hm => hk (b1, b2) h9 hm)) (a1, a2) h
theorem lp3 {A1 A2 A3 : Type} (W : Nat → A1 → A2 → A3 → Prop) (I : A1 → A2 → A3 → Prop) (μ : A1 → A2 → A3 → Nat) (hs : ∀ (n : Nat) (a1 : A1) (a2 : A2) (a3 : A3), I a1 a2 a3 → (∀ (b1 : A1) (b2 : A2) (b3 : A3), I b1 b2 b3 → μ b1 b2 b3 < μ a1 a2 a3 → W n b1 b2 b3) → W (n + 1) a1 a2 a3) (a1 : A1) (a2 : A2) (a3 : A3) (h : I a1 a2 a3) : ∃ n, W n a1 a2 a3 :=
  loop_m (σ := A1 × A2 × A3) (fun n s => W n s.1 s.2.1 s.2.2) (fun s => I s.1 s.2.1 s.2.2) (fun s => μ s.1 s.2.1 s.2.2) (fun n s hI hk => hs n s.1 s.2.1 s.2.2 hI (fun b1 b2 b3 h9 hm => hk (b1, b2, b3) h9 hm)) (a1, a2, a3) h
theorem pk_least (P : Nat → Prop) (h : ∃ k, P k) : ∃ k, P k ∧ ∀ j, j < k → ¬ P j := by
  obtain ⟨k, hk⟩ := h
  induction k using Nat.strongRecOn with
  | ind k ih =>
    by_cases e : ∃ j, j < k ∧ P j
    · obtain ⟨j, hj, pj⟩ := e
      exact ih j hj pj
    · exact ⟨k, hk, fun j hj pj => e ⟨j, hj, pj⟩⟩
theorem ek_if {c d A B : Prop} (e : c ↔ d) (f : d → A) (g : ¬ d → B) : (c → A) ∧ (¬ c → B) :=
  ⟨fun z => f (e.mp z), fun z => g (fun y => z (e.mpr y))⟩
theorem sb_cl0 : (0 : Int32).toNatClampNeg = 0 := by decide
theorem sb_m1 {p : Nat} (h : 0 < p) : nI p + (-1) = nI (p - 1) := by
  obtain ⟨q, rfl⟩ : ∃ q, p = q + 1 := ⟨p - 1, by omega⟩
  exact pk_m1 q
theorem sb_negT {w : Nat} (h : w < 2 ^ 31) : (-nI w).toInt = -(w : Int) := by
  rw [Int32.toInt_neg, nI_toInt h]
  exact Int.bmod_eq_of_le (by omega) (by omega)
def bt (x : Int32) (i : Nat) : Bool := x.toBitVec.getLsbD i
theorem b_ext {x y : Int32} (h : ∀ i, i < 32 → bt x i = bt y i) : x = y := Int32.toBitVec_inj.mp (BitVec.eq_of_getLsbD_eq (fun i hi => h i hi))
theorem b_or (x y : Int32) (i : Nat) : bt (x ||| y) i = (bt x i || bt y i) := by unfold bt; rw [Int32.toBitVec_or, BitVec.getLsbD_or]
theorem b_and (x y : Int32) (i : Nat) : bt (x &&& y) i = (bt x i && bt y i) := by unfold bt; rw [Int32.toBitVec_and, BitVec.getLsbD_and]
theorem b_big {x : Int32} {i : Nat} (h : 32 ≤ i) : bt x i = false := BitVec.getLsbD_of_ge _ _ h
theorem b_0 (i : Nat) : bt 0 i = false := BitVec.getLsbD_zero
theorem s_l : ∀ n, n < 32 → ((nI n &&& 31).toBitVec.smod 32).toNat = n := by decide +kernel
theorem b_shl (n : Nat) (hn : n < 32) (x : Int32) {i : Nat} (hi : i < 32) : bt (x <<< (nI n &&& 31)) i = (decide (n ≤ i) && bt x (i - n)) := by
  unfold bt
  rw [Int32.toBitVec_shiftLeft]
  show (x.toBitVec <<< ((nI n &&& 31).toBitVec.smod 32).toNat).getLsbD i = _
  rw [s_l n hn, BitVec.getLsbD_shiftLeft]
  rcases Nat.lt_or_ge i n with h | h
  · simp [h, Nat.not_le.mpr h]
  · simp [hi, h, Nat.not_lt.mpr h]
end
section
/-! counting, sums -/
def pu_cnt (f : Nat → Bool) : Nat → Nat
  | 0 => 0
  | n + 1 => pu_cnt f n + (if f n = true then 1 else 0)
theorem pu_cnt_le (f : Nat → Bool) : ∀ n, pu_cnt f n ≤ n
  | 0 => Nat.le_refl 0
  | n + 1 => by have := pu_cnt_le f n; unfold pu_cnt; split <;> omega
theorem pu_cnt_mono {f h : Nat → Bool} : ∀ {n : Nat}, (∀ x, x < n → f x = true → h x = true) → pu_cnt f n ≤ pu_cnt h n
  | 0, _ => Nat.le_refl 0
  | n + 1, H => by
    have a := pu_cnt_mono (f := f) (h := h) (n := n) (fun x hx => H x (by omega))
    have b := H n (by omega)
    unfold pu_cnt
    by_cases c : f n = true
    · rw [if_pos c, if_pos (b c)]; omega
    · rw [if_neg c]; split <;> omega
theorem pu_cnt_lt {f h : Nat → Bool} {x0 : Nat} (hf : f x0 = false) (hh : h x0 = true) : ∀ {n : Nat}, (∀ x, x < n → f x = true → h x = true) → x0 < n → pu_cnt f n < pu_cnt h n
  | 0, _, hx => absurd hx (Nat.not_lt_zero _)
  | n + 1, H, hx => by
    have b := H n (by omega)
    by_cases e : x0 = n
    · have a := pu_cnt_mono (f := f) (h := h) (n := n) (fun x hx => H x (by omega))
      unfold pu_cnt
      rw [e] at hf hh
      rw [hf, if_neg (by decide), if_pos hh]; omega
    · have a := pu_cnt_lt hf hh (n := n) (fun x hx => H x (by omega)) (by omega)
      unfold pu_cnt
      by_cases c : f n = true
      · rw [if_pos c, if_pos (b c)]; omega
      · rw [if_neg c]; split <;> omega
theorem pu_cnt_free {f : Nat → Bool} {n x : Nat} (hx : x < n) (h : f x = false) : pu_cnt f n < n :=
  Nat.lt_of_lt_of_le (pu_cnt_lt (h := fun _ => true) h rfl (fun _ _ _ => rfl) hx) (pu_cnt_le _ _)
theorem pu_cnt_full {f : Nat → Bool} {n x : Nat} (h : n ≤ pu_cnt f n) (hx : x < n) : f x = true := by
  by_cases c : f x = true
  · exact c
  · have := pu_cnt_free hx (Bool.eq_false_iff.mpr c); omega
theorem pu_cnt_zero {f : Nat → Bool} {n x : Nat} (h : pu_cnt f n = 0) (hx : x < n) : f x = false := by
  by_cases c : f x = true
  · have := pu_cnt_lt (f := fun _ => false) (h := f) (x0 := x) rfl c (n := n) (fun _ _ z => absurd z (by decide)) hx; omega
  · exact Bool.eq_false_iff.mpr c
theorem pu_cnt_add1 {f h : Nat → Bool} {x0 : Nat} (hf : f x0 = false) (hh : h x0 = true) : ∀ {n : Nat}, (∀ x, x < n → x ≠ x0 → f x = h x) → x0 < n → pu_cnt h n = pu_cnt f n + 1
  | 0, _, hx => absurd hx (Nat.not_lt_zero _)
  | n + 1, H, hx => by
    by_cases e : x0 = n
    · have a := pu_cnt_mono (f := f) (h := h) (n := n) (fun x hx z => by rw [← H x (by omega) (by omega)]; exact z)
      have b := pu_cnt_mono (f := h) (h := f) (n := n) (fun x hx z => by rw [H x (by omega) (by omega)]; exact z)
      unfold pu_cnt
      rw [e] at hf hh
      rw [hf, hh]; simp; omega
    · have a := pu_cnt_add1 hf hh (n := n) (fun x hx => H x (by omega)) (by omega)
      unfold pu_cnt
      rw [H n (by omega) (by omega), a]; omega
def pu_sum (f : Nat → Nat) : Nat → Nat
  | 0 => 0
  | n + 1 => pu_sum f n + f n
theorem pu_sum_congr {f h : Nat → Nat} : ∀ {n : Nat}, (∀ x, x < n → f x = h x) → pu_sum f n = pu_sum h n
  | 0, _ => rfl
  | n + 1, H => by
    unfold pu_sum
    rw [pu_sum_congr (fun x hx => H x (by omega)), H n (by omega)]
theorem pu_sum_zero {f : Nat → Nat} : ∀ {n : Nat}, (∀ x, x < n → f x = 0) → pu_sum f n = 0
  | 0, _ => rfl
  | n + 1, H => by
    unfold pu_sum
    rw [pu_sum_zero (fun x hx => H x (by omega)), H n (by omega)]
theorem pu_sum_lt {f h : Nat → Nat} {x0 : Nat} (hf : f x0 < h x0) : ∀ {n : Nat}, (∀ x, x < n → f x ≤ h x) → x0 < n → pu_sum f n < pu_sum h n
  | 0, _, hx => absurd hx (Nat.not_lt_zero _)
  | n + 1, H, hx => by
    have b := H n (by omega)
    unfold pu_sum
    by_cases e : x0 = n
    · have : ∀ m, m ≤ n → pu_sum f m ≤ pu_sum h m := by
        intro m
        induction m with
        | zero => intro _; exact Nat.le_refl 0
        | succ m ih => intro hm; have := H m (by omega); have := ih (by omega); unfold pu_sum; omega
      have := this n (Nat.le_refl n)
      rw [e] at hf; omega
    · have a := pu_sum_lt hf (n := n) (fun x hx => H x (by omega)) (by omega)
      omega
/-! the grammar and the text -/
abbrev gr_G : Type := Nat × Nat × (Nat → Nat) × (Nat → Nat) × (Nat → Nat)
def gr_P (g : gr_G) : Nat := g.1
def gr_L (g : gr_G) : Nat := g.2.1
def gr_F (g : gr_G) : Nat → Nat := g.2.2.1
def gr_R (g : gr_G) : Nat → Nat := g.2.2.2.1
def gr_T (g : gr_G) : Nat → Nat := g.2.2.2.2
def pu_ok (s : Nat) : Prop := s < 6 ∨ (10 ≤ s ∧ s < 15) ∨ s = 99
def gr_W (g : gr_G) : Prop := gr_P g ≤ 12 ∧ gr_L g ≤ 10 ∧ (∀ p, p < gr_P g → gr_F g p < 5) ∧ (∀ k, k < 3 * gr_P g → pu_ok (gr_R g k)) ∧ (∀ p, p < gr_P g → (gr_R g (3 * p) = 99 → gr_R g (3 * p + 1) = 99) ∧ (gr_R g (3 * p + 1) = 99 → gr_R g (3 * p + 2) = 99)) ∧ (∀ i, i < gr_L g → gr_T g i < 6)
abbrev pu_C : Type := Nat → Nat → Nat → Nat
def pu_V (g : gr_G) (n i j : Nat) : Prop := n < 5 ∧ i ≤ j ∧ j ≤ gr_L g
def pu_ps (g : gr_G) (H : pu_C) (s i j h : Nat) : Prop := if s = 99 then i = j else if s < 10 then (j = i + 1 ∧ gr_T g i = s) else (0 < H (s - 10) i j ∧ H (s - 10) i j < h)
def pu_F (g : gr_G) (H : pu_C) (p i u v j h : Nat) : Prop := pu_ps g H (gr_R g (3 * p)) i u h ∧ pu_ps g H (gr_R g (3 * p + 1)) u v h ∧ pu_ps g H (gr_R g (3 * p + 2)) v j h
def pu_HT (g : gr_G) (H : pu_C) (n i j h : Nat) : Prop := 0 < h ∧ ∃ p u v, p < gr_P g ∧ gr_F g p = n ∧ i ≤ u ∧ u ≤ v ∧ v ≤ j ∧ pu_F g H p i u v j h
def pu_HS (g : gr_G) (H : pu_C) : Prop := ∀ n i j, pu_V g n i j → (H n i j = 0 → ∀ h, ¬ pu_HT g H n i j h) ∧ (∀ h, H n i j = h + 1 → pu_HT g H n i j (h + 1) ∧ ¬ pu_HT g H n i j h) ∧ H n i j ≤ 605
def pu_ag (g : gr_G) (H H' : pu_C) (h : Nat) : Prop := ∀ n i j, pu_V g n i j → ∀ k, 0 < k → k < h → (H n i j = k ↔ H' n i j = k)
section
variable {g : gr_G} {H H' : pu_C}
theorem pu_ag_eq (e : ∀ n i j, pu_V g n i j → H n i j = H' n i j) (h : Nat) : pu_ag g H H' h := fun n i j hv k _ _ => by rw [e n i j hv]
theorem pu_ag_sy {h : Nat} (A : pu_ag g H H' h) : pu_ag g H' H h := fun n i j hv k a b => (A n i j hv k a b).symm
theorem pu_ag_le {h h' : Nat} (A : pu_ag g H H' h) (l : h' ≤ h) : pu_ag g H H' h' := fun n i j hv k a b => A n i j hv k a (by omega)
theorem pu_ps_im {h s i j : Nat} (A : pu_ag g H H' h) (hs : pu_ok s) (hij : i ≤ j) (hj : j ≤ gr_L g) (p : pu_ps g H s i j h) : pu_ps g H' s i j h := by
  unfold pu_ps at *
  by_cases h99 : s = 99
  · rw [if_pos h99] at *; exact p
  · rw [if_neg h99] at *
    by_cases h10 : s < 10
    · rw [if_pos h10] at *; exact p
    · rw [if_neg h10] at *
      have hv : pu_V g (s - 10) i j := ⟨by unfold pu_ok at hs; omega, hij, hj⟩
      have := (A _ _ _ hv _ p.1 p.2).mp rfl
      rw [this]; exact p
theorem pu_okR (W : gr_W g) {p m : Nat} (hp : p < gr_P g) (hm : m < 3) : pu_ok (gr_R g (3 * p + m)) := W.2.2.2.1 _ (by omega)
theorem pu_okR0 (W : gr_W g) {p : Nat} (hp : p < gr_P g) : pu_ok (gr_R g (3 * p)) := W.2.2.2.1 _ (by omega)
theorem pu_F_im (W : gr_W g) {h p i u v j : Nat} (A : pu_ag g H H' h) (hp : p < gr_P g) (hu : i ≤ u) (hv : u ≤ v) (hj : v ≤ j) (hL : j ≤ gr_L g) (f : pu_F g H p i u v j h) : pu_F g H' p i u v j h :=
  ⟨pu_ps_im A (pu_okR0 W hp) hu (by omega) f.1, pu_ps_im A (pu_okR W hp (by decide)) hv (by omega) f.2.1, pu_ps_im A (pu_okR W hp (by decide)) hj hL f.2.2⟩
theorem pu_HT_im (W : gr_W g) {h n i j : Nat} (A : pu_ag g H H' h) (hL : j ≤ gr_L g) (f : pu_HT g H n i j h) : pu_HT g H' n i j h := by
  obtain ⟨h0, p, u, v, hp, hn, a, b, c, f⟩ := f
  exact ⟨h0, p, u, v, hp, hn, a, b, c, pu_F_im W A hp a b c hL f⟩
theorem pu_ps_mono {h h' s i j : Nat} (l : h ≤ h') (p : pu_ps g H s i j h) : pu_ps g H s i j h' := by
  unfold pu_ps at *
  by_cases h99 : s = 99
  · rw [if_pos h99] at *; exact p
  · rw [if_neg h99] at *
    by_cases h10 : s < 10
    · rw [if_pos h10] at *; exact p
    · rw [if_neg h10] at *; omega
theorem pu_F_mono {h h' p i u v j : Nat} (l : h ≤ h') (f : pu_F g H p i u v j h) : pu_F g H p i u v j h' := ⟨pu_ps_mono l f.1, pu_ps_mono l f.2.1, pu_ps_mono l f.2.2⟩
theorem pu_HT_mono {h h' n i j : Nat} (l : h ≤ h') (f : pu_HT g H n i j h) : pu_HT g H n i j h' := by
  obtain ⟨h0, p, u, v, hp, hn, a, b, c, f⟩ := f
  exact ⟨by omega, p, u, v, hp, hn, a, b, c, pu_F_mono l f⟩
theorem pu_HS_1 (W : gr_W g) (S : pu_HS g H) (S' : pu_HS g H') {m : Nat} (A : pu_ag g H H' (m + 1)) {n i j : Nat} (hv : pu_V g n i j) (e : H n i j = m + 1) : H' n i j = m + 1 := by
  have hL := hv.2.2
  have a := (S n i j hv).2.1 m e
  have a1 := pu_HT_im W A hL a.1
  have a2 : ¬ pu_HT g H' n i j m := fun z => a.2 (pu_HT_im W (pu_ag_sy (pu_ag_le A (Nat.le_succ m))) hL z)
  have b := S' n i j hv
  cases hc : H' n i j with
  | zero => exact absurd a1 (b.1 hc _)
  | succ k =>
    have c := b.2.1 k hc
    by_cases h1 : k < m
    · exact absurd (pu_HT_mono h1 c.1) a2
    · by_cases h2 : m < k
      · exact absurd (pu_HT_mono h2 a1) c.2
      · omega
theorem pu_HS_ag (W : gr_W g) (S : pu_HS g H) (S' : pu_HS g H') : ∀ h, pu_ag g H H' h := by
  intro h
  induction h with
  | zero => exact fun n i j hv k a b => absurd b (Nat.not_lt_zero _)
  | succ h ih =>
    intro n i j hv k a b
    by_cases c : k < h
    · exact ih n i j hv k a c
    · obtain ⟨m, rfl⟩ : ∃ m, h = m + 1 := ⟨h - 1, by omega⟩
      have e : k = m + 1 := by omega
      rw [e]
      exact ⟨fun z => pu_HS_1 W S S' ih hv z, fun z => pu_HS_1 W S' S (pu_ag_sy ih) hv z⟩
theorem pu_HS_eq (W : gr_W g) (S : pu_HS g H) (S' : pu_HS g H') {n i j : Nat} (hv : pu_V g n i j) : H n i j = H' n i j := by
  by_cases c : H n i j = 0
  · by_cases d : H' n i j = 0
    · omega
    · exact (pu_HS_ag W S S' (H' n i j + 1) n i j hv (H' n i j) (by omega) (by omega)).mpr rfl
  · exact ((pu_HS_ag W S S' (H n i j + 1) n i j hv (H n i j) (by omega) (by omega)).mp rfl).symm
end
noncomputable def pu_HH (g : gr_G) : pu_C := Classical.epsilon (pu_HS g)
theorem pu_HH_s {g : gr_G} {H : pu_C} (S : pu_HS g H) : pu_HS g (pu_HH g) := Classical.epsilon_spec (p := pu_HS g) ⟨H, S⟩
theorem pu_HH_e {g : gr_G} {H : pu_C} (W : gr_W g) (S : pu_HS g H) {n i j : Nat} (hv : pu_V g n i j) : H n i j = pu_HH g n i j := pu_HS_eq W S (pu_HH_s S) hv
/-! the chosen tree -/
def pu_Ch (g : gr_G) (H : pu_C) (n i j p u v : Nat) : Prop := p < gr_P g ∧ gr_F g p = n ∧ i ≤ u ∧ u ≤ v ∧ v ≤ j ∧ pu_F g H p i u v j (H n i j) ∧ (∀ p' u' v', p' < p → gr_F g p' = n → i ≤ u' → u' ≤ v' → v' ≤ j → ¬ pu_F g H p' i u' v' j (H n i j)) ∧ (∀ u' v', i ≤ u' → u' ≤ v' → v' ≤ j → (u < u' ∨ (u = u' ∧ v < v')) → ¬ pu_F g H p i u' v' j (H n i j))
theorem pu_Ch_u {g : gr_G} {H : pu_C} {n i j p u v p' u' v' : Nat} (a : pu_Ch g H n i j p u v) (b : pu_Ch g H n i j p' u' v') : p = p' ∧ u = u' ∧ v = v' := by
  obtain ⟨a1, a2, a3, a4, a5, a6, a7, a8⟩ := a
  obtain ⟨b1, b2, b3, b4, b5, b6, b7, b8⟩ := b
  have e : p = p' := by
    by_cases h : p < p'
    · exact absurd a6 (b7 p u v h a2 a3 a4 a5)
    · by_cases h' : p' < p
      · exact absurd b6 (a7 p' u' v' h' b2 b3 b4 b5)
      · omega
  subst e
  by_cases h : u < u' ∨ (u = u' ∧ v < v')
  · exact absurd b6 (a8 u' v' b3 b4 b5 h)
  · by_cases h' : u' < u ∨ (u' = u ∧ v' < v)
    · exact absurd a6 (b8 u v a3 a4 a5 h')
    · omega
theorem pu_Ch_ag {g : gr_G} {H H' : pu_C} (W : gr_W g) {n i j p u v : Nat} (hj : j ≤ gr_L g) (e : H n i j = H' n i j) (A : pu_ag g H H' (H n i j)) (a : pu_Ch g H n i j p u v) : pu_Ch g H' n i j p u v := by
  obtain ⟨a1, a2, a3, a4, a5, a6, a7, a8⟩ := a
  refine ⟨a1, a2, a3, a4, a5, ?_, ?_, ?_⟩
  · rw [← e]; exact pu_F_im W A a1 a3 a4 a5 hj a6
  · intro p' u' v' h1 h2 h3 h4 h5 h6
    rw [← e] at h6
    exact a7 p' u' v' h1 h2 h3 h4 h5 (pu_F_im W (pu_ag_sy A) (by omega) h3 h4 h5 hj h6)
  · intro u' v' h3 h4 h5 h7 h6
    rw [← e] at h6
    exact a8 u' v' h3 h4 h5 h7 (pu_F_im W (pu_ag_sy A) a1 h3 h4 h5 hj h6)
noncomputable def pu_ch (g : gr_G) (n i j : Nat) : Nat × Nat × Nat := Classical.epsilon (fun x => pu_Ch g (pu_HH g) n i j x.1 x.2.1 x.2.2)
theorem pu_ch_s {g : gr_G} {n i j p u v : Nat} (a : pu_Ch g (pu_HH g) n i j p u v) : pu_ch g n i j = (p, u, v) := by
  have s := Classical.epsilon_spec (p := fun x : Nat × Nat × Nat => pu_Ch g (pu_HH g) n i j x.1 x.2.1 x.2.2) ⟨(p, u, v), a⟩
  have e := pu_Ch_u s a
  exact Prod.ext e.1 (Prod.ext e.2.1 e.2.2)
end
section
/-! numbers -/
def sy_m (s : Nat) : Int32 := if s = 99 then (-1) else nI s
def cx (n i j : Nat) : Nat := 121 * n + 11 * i + j
def cy (n i j : Nat) : Nat := 196 * n + 14 * i + j
theorem xb_m1T {a : Nat} (h : a < 2 ^ 30) : (nI a + (-1)).toInt = (a : Int) - 1 := by
  have e : nI a + (-1) = nI a - nI 1 := by
    rw [Int32.sub_eq_add_neg]; rfl
  rw [e, pk_sub_toInt h (by decide)]; rfl
theorem xb_m1lt {a b : Nat} (ha : a < 2 ^ 30) (hb : b < 2 ^ 30) : nI a + (-1) < nI b ↔ a ≤ b := by
  rw [Int32.lt_iff_toInt_lt, xb_m1T ha, nI_toInt (by omega)]; omega
theorem xb_neg1 (n : Nat) (h : n < 2 ^ 31) : ¬ nI n = -1 := by
  intro e
  have := congrArg Int32.toInt e
  rw [nI_toInt h, show ((-1 : Int32)).toInt = -1 from by decide] at this
  omega
theorem sy_99 : sy_m 99 = -1 := rfl
theorem sy_n {s : Nat} (h : s ≠ 99) : sy_m s = nI s := if_neg h
theorem sy_e1 {s : Nat} (ok : pu_ok s) : sy_m s = -1 ↔ s = 99 := by
  constructor
  · intro e
    by_cases h : s = 99
    · exact h
    · rw [sy_n h] at e
      exact absurd e (xb_neg1 s (by unfold pu_ok at ok; omega))
  · intro e; rw [e]; rfl
theorem sy_ge {s : Nat} (ok : pu_ok s) : 10 ≤ sy_m s ↔ (10 ≤ s ∧ s < 99) := by
  by_cases h : s = 99
  · subst h; rw [sy_99]; constructor
    · intro z; exact absurd z (by decide)
    · intro z; omega
  · rw [sy_n h, show (10 : Int32) = nI 10 from rfl, nI_leI (by decide) (by unfold pu_ok at ok; omega)]
    unfold pu_ok at ok; omega
theorem sy_lt {s : Nat} (ok : pu_ok s) : sy_m s < 10 ↔ (s < 10 ∨ s = 99) := by
  by_cases h : s = 99
  · subst h; rw [sy_99]; constructor
    · intro z; exact Or.inr rfl
    · intro z; decide
  · rw [sy_n h, show (10 : Int32) = nI 10 from rfl, nI_ltI (by unfold pu_ok at ok; omega) (by decide)]
    omega
theorem sy_eq {s t : Nat} (ok : pu_ok s) (ht : t < 6) : nI t = sy_m s ↔ t = s := by
  by_cases h : s = 99
  · subst h; rw [sy_99]; constructor
    · intro z; exact absurd z (xb_neg1 t (by omega))
    · intro z; omega
  · rw [sy_n h, nI_eq (by omega) (by unfold pu_ok at ok; omega)]
theorem sy_nt {s : Nat} (h : 10 ≤ s ∧ s < 99) : sy_m s = nI (10 + (s - 10)) := by
  rw [sy_n (by omega), show 10 + (s - 10) = s by omega]
theorem xb_10 (n : Nat) : nI (10 + n) - 10 = nI n := by
  rw [show (10 : Int32) = nI 10 from rfl, pk_sub (by omega), show 10 + n - 10 = n by omega]
theorem cx_i {n i j n' i' j' : Nat} (h : cx n i j = cx n' i' j') (hi : i ≤ 10) (hj : j ≤ 10) (hi' : i' ≤ 10) (hj' : j' ≤ 10) : n = n' ∧ i = i' ∧ j = j' := by
  unfold cx at h; omega
theorem cy_i {n i j n' i' j' : Nat} (h : cy n i j = cy n' i' j') (hi : i ≤ 10) (hj : j ≤ 10) (hi' : i' ≤ 10) (hj' : j' ≤ 10) : n = n' ∧ i = i' ∧ j = j' := by
  unfold cy at h; omega
theorem xb_r0 {p : Nat} (h : p < 12) : (3 * nI p).toNatClampNeg = 3 * p := by
  rw [show (3 : Int32) = nI 3 from rfl, pk_mul, nI_clamp (by omega)]
theorem xb_r {p m : Nat} (h : p < 12) (hm : m < 3) : (3 * nI p + nI m).toNatClampNeg = 3 * p + m := by
  rw [show (3 : Int32) = nI 3 from rfl, pk_mul, nI_add, nI_clamp (by omega)]
theorem xb_r1 {p : Nat} (h : p < 12) : (3 * nI p + 1).toNatClampNeg = 3 * p + 1 := xb_r h (by decide)
theorem xb_r2 {p : Nat} (h : p < 12) : (3 * nI p + 2).toNatClampNeg = 3 * p + 2 := xb_r h (by decide)
theorem xb_i0 {p : Nat} (h : p < 12) : vp_in (3 * nI p) 36 := by
  rw [show (3 : Int32) = nI 3 from rfl, pk_mul]; exact vp_in_nI (by omega) (by decide)
theorem xb_i {p m : Nat} (h : p < 12) (hm : m < 3) : vp_in (3 * nI p + nI m) 36 := by
  rw [show (3 : Int32) = nI 3 from rfl, pk_mul, nI_add]; exact vp_in_nI (by omega) (by decide)
theorem xb_i1 {p : Nat} (h : p < 12) : vp_in (3 * nI p + 1) 36 := xb_i h (show 1 < 3 by decide)
theorem xb_i2 {p : Nat} (h : p < 12) : vp_in (3 * nI p + 2) 36 := xb_i h (show 2 < 3 by decide)
theorem xb_cell {post : Int32 → Prop} {p0 p1 p2 : Int32} (n i j : Nat) (h0 : p0 = nI (10 + n)) (h1 : p1 = nI i) (h2 : p2 = nI j) (h : post (nI (cx n i j))) : wpX_cell post p0 p1 p2 := by
  subst h0 h1 h2
  have e : (((nI (10 + n) - 10) * 121) + (nI i * 11)) + nI j = nI (cx n i j) := by
    rw [xb_10, show (121 : Int32) = nI 121 from rfl, show (11 : Int32) = nI 11 from rfl, pk_mul, pk_mul, nI_add, nI_add]
    exact congrArg nI (by unfold cx; omega)
  unfold wpX_cell
  rw [e]; exact h
/-! what the arrays hold -/
def xm_T (g : gr_G) (a : Nat → Int32) : Prop := ∀ i, i < gr_L g → a i = nI (gr_T g i)
def xm_R (g : gr_G) (a : Nat → Int32) : Prop := ∀ k, k < 3 * gr_P g → a k = sy_m (gr_R g k)
def xm_F (g : gr_G) (a : Nat → Int32) : Prop := ∀ p, p < gr_P g → a p = nI (10 + gr_F g p)
def xm_H (g : gr_G) (a : Nat → Int32) (H : pu_C) : Prop := ∀ n i j, pu_V g n i j → a (cx n i j) = nI (H n i j)
theorem xm_R0 {g : gr_G} {a : Nat → Int32} (W : gr_W g) (h : xm_R g a) {p : Nat} (hp : p < gr_P g) : a (3 * nI p).toNatClampNeg = sy_m (gr_R g (3 * p)) := by
  rw [xb_r0 (by have := W.1; omega)]; exact h _ (by omega)
theorem xm_R1 {g : gr_G} {a : Nat → Int32} (W : gr_W g) (h : xm_R g a) {p : Nat} (hp : p < gr_P g) : a (3 * nI p + 1).toNatClampNeg = sy_m (gr_R g (3 * p + 1)) := by
  rw [xb_r1 (by have := W.1; omega)]; exact h _ (by omega)
theorem xm_R2 {g : gr_G} {a : Nat → Int32} (W : gr_W g) (h : xm_R g a) {p : Nat} (hp : p < gr_P g) : a (3 * nI p + 2).toNatClampNeg = sy_m (gr_R g (3 * p + 2)) := by
  rw [xb_r2 (by have := W.1; omega)]; exact h _ (by omega)
theorem xm_Rm {g : gr_G} {a : Nat → Int32} (W : gr_W g) (h : xm_R g a) {p m : Nat} (hp : p < gr_P g) (hm : m < 3) : a (3 * nI p + nI m).toNatClampNeg = sy_m (gr_R g (3 * p + m)) := by
  rw [xb_r (by have := W.1; omega) hm]; exact h _ (by omega)
theorem xm_Fp {g : gr_G} {a : Nat → Int32} (W : gr_W g) (h : xm_F g a) {p : Nat} (hp : p < gr_P g) : a (nI p).toNatClampNeg = nI (10 + gr_F g p) := by
  rw [nI_clamp (by have := W.1; omega)]; exact h _ hp
theorem pu_ps_a {g : gr_G} {H : pu_C} {s i j h : Nat} (c : s = 99) : pu_ps g H s i j h ↔ i = j := by
  unfold pu_ps; rw [if_pos c]
theorem pu_ps_t {g : gr_G} {H : pu_C} {s i j h : Nat} (c : s < 10) : pu_ps g H s i j h ↔ (j = i + 1 ∧ gr_T g i = s) := by
  unfold pu_ps; rw [if_neg (by omega), if_pos c]
theorem pu_ps_n {g : gr_G} {H : pu_C} {s i j h : Nat} (c : 10 ≤ s ∧ s < 99) : pu_ps g H s i j h ↔ (0 < H (s - 10) i j ∧ H (s - 10) i j < h) := by
  unfold pu_ps; rw [if_neg (by omega), if_neg (by omega)]
theorem cx_lt {g : gr_G} {n i j : Nat} (W : gr_W g) (hv : pu_V g n i j) : cx n i j < 605 := by
  have := W.2.1; unfold pu_V at hv; unfold cx; omega
theorem cy_lt {g : gr_G} {n i j : Nat} (W : gr_W g) (hv : pu_V g n i j) : cy n i j < 980 := by
  have := W.2.1; unfold pu_V at hv; unfold cy; omega
theorem xb_ntV {g : gr_G} {s i j : Nat} (ok : pu_ok s) (c : 10 ≤ s ∧ s < 99) (hij : i ≤ j) (hj : j ≤ gr_L g) : pu_V g (s - 10) i j := ⟨by unfold pu_ok at ok; omega, hij, hj⟩
section
variable {g : gr_G} {f_productions f_length f_chartReady f_countsReady f_distancesReady f_followsReady f_filled : Int32} {a_lefts a_rights a_ops a_constants a_text a_heights a_chosen a_firstEnds a_secondEnds a_order a_counts a_distances a_follows a_sizes : Nat → Int32} {a_values a_operands : Nat → Int64} {a_productive a_used : Nat → Int32}
theorem xs_treeless {post : Int32 → Prop} {H : pu_C} {s i j : Nat} (h : Nat) {s' i' j' : Int32} (es : s' = sy_m s) (ei : i' = nI i) (ej : j' = nI j) (ok : pu_ok s) (c : ¬ (10 ≤ s ∧ s < 99)) (hij : i ≤ j) (hj : j ≤ gr_L g) (W : gr_W g) (tx : xm_T g a_text) (ht : pu_ps g H s i j h → post 1) (hf : ¬ pu_ps g H s i j h → post 0) : wpX_fitsTreeless post (f_productions, f_length, f_chartReady, f_countsReady, f_distancesReady, f_followsReady, f_filled, a_lefts, a_rights, a_ops, a_constants, a_text, a_heights, a_chosen, a_firstEnds, a_secondEnds, a_order, a_counts, a_distances, a_follows, a_sizes, a_values, a_operands, a_productive, a_used) s' i' j' := by
  subst es ei ej
  have hL := W.2.1
  refine ek_if (sy_e1 ok) (fun e => ?_) (fun e => ?_)
  · exact pk_eq i j (fun z => ht ((pu_ps_a e).mpr z)) (fun z => hf (fun y => z ((pu_ps_a e).mp y)))
  · have st : s < 10 := by unfold pu_ok at ok; omega
    refine ek_if (d := j = i + 1) (by rw [nI_1, nI_eq (by omega) (by omega)]) (fun z => ⟨pk_in i 10 (by omega), ?_⟩) (fun z => hf (fun y => z ((pu_ps_t st).mp y).1))
    refine ek_if (d := gr_T g i = s) (by rw [pk_cl i, tx i (by omega)]; exact sy_eq ok (W.2.2.2.2.2 i (by omega))) (fun y => ht ((pu_ps_t st).mpr ⟨z, y⟩)) (fun y => hf (fun q => y ((pu_ps_t st).mp q).2))
theorem xs_fits {post : Int32 → Prop} {H : pu_C} {s i j h : Nat} {s' i' j' h' : Int32} (es : s' = sy_m s) (ei : i' = nI i) (ej : j' = nI j) (eh : h' = nI h) (ok : pu_ok s) (hij : i ≤ j) (hj : j ≤ gr_L g) (W : gr_W g) (hh : h ≤ 1000) (tx : xm_T g a_text) (mH : xm_H g a_heights H) (hb : ∀ n i j, pu_V g n i j → H n i j ≤ 1000) (ht : pu_ps g H s i j h → post 1) (hf : ¬ pu_ps g H s i j h → post 0) : wpX_fits post (f_productions, f_length, f_chartReady, f_countsReady, f_distancesReady, f_followsReady, f_filled, a_lefts, a_rights, a_ops, a_constants, a_text, a_heights, a_chosen, a_firstEnds, a_secondEnds, a_order, a_counts, a_distances, a_follows, a_sizes, a_values, a_operands, a_productive, a_used) s' i' j' h' := by
  subst es ei ej eh
  refine ek_if (sy_ge ok) (fun c => ?_) (fun c => ?_)
  · have hv := xb_ntV ok c hij hj
    have hl := cx_lt W hv
    have hb' := hb _ _ _ hv
    refine xb_cell (s - 10) i j (sy_nt c) rfl rfl ⟨pk_in (cx (s - 10) i j) 605 hl, nm_r (e' := nI (H (s - 10) i j)) (by rw [pk_cl (cx (s - 10) i j)]; exact mH _ _ _ hv) ?_⟩
    exact pk_le (H (s - 10) i j) 0 (fun z => hf (fun y => by have := (pu_ps_n c).mp y; omega)) (fun z => pk_le h (H (s - 10) i j) (fun z2 => hf (fun y => by have := (pu_ps_n c).mp y; omega)) (fun z2 => ht ((pu_ps_n c).mpr ⟨z, z2⟩)))
  · exact xs_treeless (post := fun r => narrow .boolean (.int r) = .int r ∧ post r) h rfl rfl rfl ok c hij hj W tx (fun z => ⟨rfl, ht z⟩) (fun z => ⟨rfl, hf z⟩)
end
end
section
/-! the chart of the component -/
def xm_ps2 (g : gr_G) (H : pu_C) (p a v j h : Nat) : Prop := pu_ps g H (gr_R g (3 * p + 1)) a v h ∧ pu_ps g H (gr_R g (3 * p + 2)) v j h
section
variable {g : gr_G} {f_chartReady f_countsReady f_distancesReady f_followsReady f_filled : Int32} {a_lefts a_rights a_ops a_constants a_text a_heights a_chosen a_firstEnds a_secondEnds a_order a_counts a_distances a_follows a_sizes : Nat → Int32} {a_values a_operands : Nat → Int64} {a_productive a_used : Nat → Int32}
theorem xs_choose35 {post : SX → Prop} {J3 : Int32 → Prop} {H : pu_C} {p i j h a fl : Nat} (W : gr_W g) (hp : p < gr_P g) (hia : i ≤ a) (haj : a ≤ j) (hj : j ≤ gr_L g) (hh : h ≤ 1000) (tx : xm_T g a_text) (mR : xm_R g a_rights) (mF : xm_F g a_lefts) (mH : xm_H g a_heights H) (hb : ∀ n i j, pu_V g n i j → H n i j ≤ 1000) (ef : f_filled = nI fl) (hfl : fl < 605)
    (hno : (∀ v, a ≤ v → v ≤ j → ¬ xm_ps2 g H p a v j h) → J3 (nI a + (-1)))
    (hyes : ∀ v, a ≤ v → v ≤ j → xm_ps2 g H p a v j h → (∀ v', v < v' → v' ≤ j → ¬ xm_ps2 g H p a v' j h) → post (nI (gr_P g), nI (gr_L g), f_chartReady, f_countsReady, f_distancesReady, f_followsReady, nI (fl + 1), a_lefts, a_rights, a_ops, a_constants, a_text, upd a_heights (cx (gr_F g p) i j) (nI h), upd a_chosen (cx (gr_F g p) i j) (nI p), upd a_firstEnds (cx (gr_F g p) i j) (nI a), upd a_secondEnds (cx (gr_F g p) i j) (nI v), upd a_order fl (nI (cx (gr_F g p) i j)), a_counts, a_distances, a_follows, a_sizes, a_values, a_operands, a_productive, a_used)) :
    ∀ d y (y' : Int32), y' = nI y + (-1) → y = a + d → y ≤ j + 1 → (∀ v, y ≤ v → v ≤ j → ¬ xm_ps2 g H p a v j h) → wX_choose_35 post J3 (nI p) (nI i) (nI j) (nI h) (nI a) (nI (gr_P g)) (nI (gr_L g)) f_chartReady f_countsReady f_distancesReady f_followsReady f_filled a_lefts a_rights a_ops a_constants a_text a_heights a_chosen a_firstEnds a_secondEnds a_order a_counts a_distances a_follows a_sizes a_values a_operands a_productive a_used (d + 1) y' := by
  have hL := W.2.1
  have hP := W.1
  intro d
  induction d with
  | zero =>
    intro y y' ey' hy hy1 hist
    subst ey'
    refine br_t ((xb_m1lt (by omega) (by omega)).mpr (by omega)) (nm_e ?_)
    exact hno (fun v hv => hist v (by omega))
  | succ d ih =>
    intro y y' ey' hy hy1 hist
    subst ey'
    refine br_f (fun z => by have := (xb_m1lt (by omega) (by omega)).mp z; omega) ?_
    have ey : nI y + (-1) = nI (a + d) := by rw [hy]; exact pk_m1 (a + d)
    rw [ey]
    refine ⟨xb_i1 (by omega), ?_⟩
    refine xs_fits (g := g) (H := H) (xm_R1 W mR hp) rfl rfl rfl (pu_okR W hp (by decide)) (by omega) (by omega) W hh tx mH hb (fun t1 => ?_) (fun t1 => ?_)
    · refine br_f (by decide) ⟨xb_i2 (by omega), ?_⟩
      refine xs_fits (g := g) (H := H) (xm_R2 W mR hp) rfl rfl rfl (pu_okR W hp (by decide)) (by omega) (by omega) W hh tx mH hb (fun t2 => ?_) (fun t2 => ?_)
      · refine br_f (by decide) ⟨pk_in p 12 (by omega), ?_⟩
        have hv : pu_V g (gr_F g p) i j := ⟨W.2.2.1 p hp, by omega, hj⟩
        have hl := cx_lt W hv
        have ec : (nI (cx (gr_F g p) i j)).toNatClampNeg = cx (gr_F g p) i j := nI_clamp (by omega)
        have hin : vp_in (nI (cx (gr_F g p) i j)) 605 := vp_in_nI hl (by decide)
        refine xb_cell (gr_F g p) i j (xm_Fp W mF hp) rfl rfl ⟨hin, nm_r (by rw [ec]) ⟨hin, nm_r (by rw [ec]) ⟨hin, nm_r (by rw [ec]) ⟨hin, nm_r (by rw [ec]) ⟨by rw [ef]; exact vp_in_nI hfl (by decide), nm_r (e' := upd a_order fl (nI (cx (gr_F g p) i j))) (by rw [ef, nI_clamp (by omega)]) (nm_r (e' := nI (fl + 1)) (by rw [ef, nI_1]) ?_)⟩⟩⟩⟩⟩
        exact hyes (a + d) (by omega) (by omega) ⟨t1, t2⟩ (fun v' h1 h2 => hist v' (by omega) h2)
      · refine br_t rfl (nm_e ?_)
        refine ih (a + d) _ rfl rfl (by omega) (fun v h1 h2 => ?_)
        by_cases c : v = a + d
        · rw [c]; exact fun z => t2 z.2
        · exact hist v (by omega) h2
    · refine br_t rfl (nm_e ?_)
      refine ih (a + d) _ rfl rfl (by omega) (fun v h1 h2 => ?_)
      by_cases c : v = a + d
      · rw [c]; exact fun z => t1 z.1
      · exact hist v (by omega) h2
theorem xs_choose {post : SX → Prop} {H : pu_C} {p i j h fl : Nat} (W : gr_W g) (hp : p < gr_P g) (hij : i ≤ j) (hj : j ≤ gr_L g) (hh : h ≤ 1000) (tx : xm_T g a_text) (mR : xm_R g a_rights) (mF : xm_F g a_lefts) (mH : xm_H g a_heights H) (hb : ∀ n i j, pu_V g n i j → H n i j ≤ 1000) (ef : f_filled = nI fl) (hfl : fl < 605)
    (hno : (∀ u v, i ≤ u → u ≤ v → v ≤ j → ¬ pu_F g H p i u v j h) → post (nI (gr_P g), nI (gr_L g), f_chartReady, f_countsReady, f_distancesReady, f_followsReady, f_filled, a_lefts, a_rights, a_ops, a_constants, a_text, a_heights, a_chosen, a_firstEnds, a_secondEnds, a_order, a_counts, a_distances, a_follows, a_sizes, a_values, a_operands, a_productive, a_used))
    (hyes : ∀ u v, i ≤ u → u ≤ v → v ≤ j → pu_F g H p i u v j h → (∀ u' v', i ≤ u' → u' ≤ v' → v' ≤ j → (u < u' ∨ (u = u' ∧ v < v')) → ¬ pu_F g H p i u' v' j h) → post (nI (gr_P g), nI (gr_L g), f_chartReady, f_countsReady, f_distancesReady, f_followsReady, nI (fl + 1), a_lefts, a_rights, a_ops, a_constants, a_text, upd a_heights (cx (gr_F g p) i j) (nI h), upd a_chosen (cx (gr_F g p) i j) (nI p), upd a_firstEnds (cx (gr_F g p) i j) (nI u), upd a_secondEnds (cx (gr_F g p) i j) (nI v), upd a_order fl (nI (cx (gr_F g p) i j)), a_counts, a_distances, a_follows, a_sizes, a_values, a_operands, a_productive, a_used)) :
    wpX_choose post (nI (gr_P g), nI (gr_L g), f_chartReady, f_countsReady, f_distancesReady, f_followsReady, f_filled, a_lefts, a_rights, a_ops, a_constants, a_text, a_heights, a_chosen, a_firstEnds, a_secondEnds, a_order, a_counts, a_distances, a_follows, a_sizes, a_values, a_operands, a_productive, a_used) (nI p) (nI i) (nI j) (nI h) := by
  have hL := W.2.1
  have hP := W.1
  have K : ∀ d y, y = i + d → y ≤ j + 1 → (∀ u v, y ≤ u → u ≤ v → v ≤ j → ¬ pu_F g H p i u v j h) → wX_choose_3 post (nI p) (nI i) (nI j) (nI h) (nI (gr_P g)) (nI (gr_L g)) f_chartReady f_countsReady f_distancesReady f_followsReady f_filled a_lefts a_rights a_ops a_constants a_text a_heights a_chosen a_firstEnds a_secondEnds a_order a_counts a_distances a_follows a_sizes a_values a_operands a_productive a_used (d + 1) (nI y + (-1)) := by
    intro d
    induction d with
    | zero =>
      intro y hy hy1 hist
      refine br_t ((xb_m1lt (by omega) (by omega)).mpr (by omega)) ?_
      exact hno (fun u v hu => hist u v (by omega))
    | succ d ih =>
      intro y hy hy1 hist
      refine br_f (fun z => by have := (xb_m1lt (by omega) (by omega)).mp z; omega) ?_
      have ey : nI y + (-1) = nI (i + d) := by rw [hy]; exact pk_m1 (i + d)
      rw [ey]
      refine ⟨xb_i0 (by omega), ?_⟩
      refine xs_fits (g := g) (H := H) (xm_R0 W mR hp) rfl rfl rfl (pu_okR0 W hp) (by omega) (by omega) W hh tx mH hb (fun t1 => ?_) (fun t1 => ?_)
      · refine br_f (by decide) ⟨j + 1 - (i + d) + 1, ?_⟩
        refine xs_choose35 (g := g) (H := H) (fl := fl) W hp (by omega) (by omega) hj hh tx mR mF mH hb ef hfl (fun hn => ?_) (fun v h1 h2 h3 h4 => ?_) (j + 1 - (i + d)) (j + 1) _ (pk_m1 j).symm (by omega) (by omega) (fun v h1 h2 => by omega)
        · refine ih (i + d) rfl (by omega) (fun u v h1 h2 h3 => ?_)
          by_cases c : u = i + d
          · rw [c]; rw [c] at h2
            exact fun z => hn v h2 h3 ⟨z.2.1, z.2.2⟩
          · exact hist u v (by omega) h2 h3
        · refine hyes (i + d) v (by omega) h1 h2 ⟨t1, h3.1, h3.2⟩ (fun u' v' k1 k2 k3 k4 => ?_)
          by_cases c : u' = i + d
          · rw [c]
            exact fun z => h4 v' (by omega) k3 ⟨z.2.1, z.2.2⟩
          · exact hist u' v' (by omega) k2 k3
      · refine br_t rfl (nm_e ?_)
        refine ih (i + d) rfl (by omega) (fun u v h1 h2 h3 => ?_)
        by_cases c : u = i + d
        · rw [c]; exact fun z => t1 z.1
        · exact hist u v (by omega) h2 h3
  refine ⟨j + 1 - i + 1, ?_⟩
  have Z := K (j + 1 - i) (j + 1) (by omega) (by omega) (fun u v h1 h2 h3 => by omega)
  rw [pk_m1] at Z
  exact Z
end
end
section
/-! the chart of the component: rounds -/
def up3 (H : pu_C) (n i j h : Nat) : pu_C := fun a b c => if a = n ∧ b = i ∧ c = j then h else H a b c
theorem up3_s {H : pu_C} {n i j h : Nat} : up3 H n i j h n i j = h := if_pos ⟨rfl, rfl, rfl⟩
theorem up3_n {H : pu_C} {n i j h a b c : Nat} (z : ¬ (a = n ∧ b = i ∧ c = j)) : up3 H n i j h a b c = H a b c := if_neg z
theorem xm_H_up {g : gr_G} {hts : Nat → Int32} {H : pu_C} (W : gr_W g) (mH : xm_H g hts H) {n i j : Nat} (hv : pu_V g n i j) (h : Nat) : xm_H g (upd hts (cx n i j) (nI h)) (up3 H n i j h) := by
  intro a b c hv'
  have hL := W.2.1
  unfold pu_V at hv hv'
  by_cases z : a = n ∧ b = i ∧ c = j
  · obtain ⟨rfl, rfl, rfl⟩ := z
    rw [pk_us, up3_s]
  · rw [up3_n z, pk_un (fun e => z (cx_i e (by omega) (by omega) (by omega) (by omega)))]
    exact mH a b c hv'
def xm_O (g : gr_G) (H : pu_C) (ord : Nat → Int32) (fl : Nat) : Prop := (∀ k, k < fl → ∃ n i j, pu_V g n i j ∧ ord k = nI (cx n i j) ∧ 0 < H n i j) ∧ (∀ k k' n i j n' i' j', k ≤ k' → k' < fl → pu_V g n i j → pu_V g n' i' j' → ord k = nI (cx n i j) → ord k' = nI (cx n' i' j') → H n i j ≤ H n' i' j') ∧ (∀ n i j, pu_V g n i j → 0 < H n i j → ∃ k, k < fl ∧ ord k = nI (cx n i j))
def xm_K (g : gr_G) (H : pu_C) (hts ch fe se ord : Nat → Int32) (fl : Nat) : Prop := xm_H g hts H ∧ fl = pu_cnt (fun x => decide (hts x ≠ 0)) 605 ∧ (∀ n i j, pu_V g n i j → 0 < H n i j → ∃ p u v, ch (cx n i j) = nI p ∧ fe (cx n i j) = nI u ∧ se (cx n i j) = nI v ∧ pu_Ch g H n i j p u v) ∧ xm_O g H ord fl
def xm_I (g : gr_G) (H : pu_C) (m : Nat) (dn : Nat → Nat → Nat → Prop) : Prop := (∀ n i j, pu_V g n i j → H n i j ≤ m + 1) ∧ (∀ n i j, pu_V g n i j → ∀ k, H n i j = k + 1 → pu_HT g H n i j (k + 1) ∧ ¬ pu_HT g H n i j k) ∧ (∀ n i j, pu_V g n i j → H n i j = 0 → ¬ pu_HT g H n i j m) ∧ (∀ p i j, p < gr_P g → i ≤ j → j ≤ gr_L g → dn p i j → H (gr_F g p) i j = 0 → ∀ u v, i ≤ u → u ≤ v → v ≤ j → ¬ pu_F g H p i u v j (m + 1))
def xm_dn (p i j : Nat) : Nat → Nat → Nat → Prop := fun p' i' j' => p' < p ∨ (p' = p ∧ (i' < i ∨ (i' = i ∧ j' < j)))
def xm_L (g : gr_G) (m B : Nat) (dn : Nat → Nat → Nat → Prop) (hts ch fe se ord : Nat → Int32) (fl : Nat) : Prop := ∃ H, xm_K g H hts ch fe se ord fl ∧ xm_I g H m dn ∧ B ≤ fl ∧ (fl ≤ B → ∀ n i j, pu_V g n i j → H n i j ≤ m)
theorem cx_inj {g : gr_G} {n i j n' i' j' : Nat} (W : gr_W g) (a : pu_V g n i j) (b : pu_V g n' i' j') (e : nI (cx n i j) = nI (cx n' i' j')) : n = n' ∧ i = i' ∧ j = j' := by
  have h1 := cx_lt W a
  have h2 := cx_lt W b
  have hL := W.2.1
  rw [nI_eq (by omega) (by omega)] at e
  unfold pu_V at a b
  exact cx_i e (by omega) (by omega) (by omega) (by omega)
theorem xm_Oc {g : gr_G} {H : pu_C} {ord : Nat → Int32} {fl : Nat} (W : gr_W g) (O : xm_O g H ord fl) {k n i j : Nat} (hk : k < fl) (hv : pu_V g n i j) (e : ord k = nI (cx n i j)) : 0 < H n i j := by
  obtain ⟨n', i', j', hv', e', h0⟩ := O.1 k hk
  obtain ⟨rfl, rfl, rfl⟩ := cx_inj W hv hv' (e.symm.trans e')
  exact h0
theorem xm_fill {g : gr_G} {H : pu_C} {hts ch fe se ord : Nat → Int32} {fl m p i j u v : Nat} {dn : Nat → Nat → Nat → Prop} (W : gr_W g) (K : xm_K g H hts ch fe se ord fl) (I : xm_I g H m dn) (hp : p < gr_P g) (hij : i ≤ j) (hj : j ≤ gr_L g) (hm : m < 605) (h0 : H (gr_F g p) i j = 0) (hu : i ≤ u) (huv : u ≤ v) (hvj : v ≤ j) (f : pu_F g H p i u v j (m + 1)) (lex : ∀ u' v', i ≤ u' → u' ≤ v' → v' ≤ j → (u < u' ∨ (u = u' ∧ v < v')) → ¬ pu_F g H p i u' v' j (m + 1)) (D : ∀ p', p' < p → dn p' i j) :
    xm_K g (up3 H (gr_F g p) i j (m + 1)) (upd hts (cx (gr_F g p) i j) (nI (m + 1))) (upd ch (cx (gr_F g p) i j) (nI p)) (upd fe (cx (gr_F g p) i j) (nI u)) (upd se (cx (gr_F g p) i j) (nI v)) (upd ord fl (nI (cx (gr_F g p) i j))) (fl + 1) ∧ xm_I g (up3 H (gr_F g p) i j (m + 1)) m dn ∧ up3 H (gr_F g p) i j (m + 1) (gr_F g p) i j ≠ 0 := by
  have hL := W.2.1
  have hv : pu_V g (gr_F g p) i j := ⟨W.2.2.1 p hp, hij, hj⟩
  have hlt := cx_lt W hv
  have A : pu_ag g H (up3 H (gr_F g p) i j (m + 1)) (m + 1) := by
    intro n' i' j' hv' k k0 k1
    by_cases z : n' = gr_F g p ∧ i' = i ∧ j' = j
    · obtain ⟨rfl, rfl, rfl⟩ := z
      rw [up3_s, h0]; omega
    · rw [up3_n z]
  obtain ⟨mH, efl, ch1, O⟩ := K
  obtain ⟨I1, I2, I3, I4⟩ := I
  have I1' : ∀ n i' j', pu_V g n i' j' → up3 H (gr_F g p) i j (m + 1) n i' j' ≤ m + 1 := by
    intro n' i' j' hv'
    by_cases z : n' = gr_F g p ∧ i' = i ∧ j' = j
    · obtain ⟨rfl, rfl, rfl⟩ := z
      rw [up3_s]; omega
    · rw [up3_n z]; exact I1 _ _ _ hv'
  refine ⟨⟨xm_H_up W mH hv (m + 1), ?_, ?_, ?_, ?_, ?_⟩, ⟨I1', ?_, ?_, ?_⟩, ?_⟩
  · have c1 : hts (cx (gr_F g p) i j) = 0 := by rw [mH _ _ _ hv, h0]; rfl
    rw [efl]
    refine (pu_cnt_add1 (x0 := cx (gr_F g p) i j) ?_ ?_ (fun x _ hx => ?_) hlt).symm
    · rw [c1]; rfl
    · rw [pk_us]; exact decide_eq_true (nI_ne0 (by omega) (by omega))
    · rw [pk_un hx]
  · intro n' i' j' hv' hpos
    by_cases z : n' = gr_F g p ∧ i' = i ∧ j' = j
    · obtain ⟨rfl, rfl, rfl⟩ := z
      refine ⟨p, u, v, pk_us, pk_us, pk_us, hp, rfl, hu, huv, hvj, ?_, ?_, ?_⟩
      · rw [up3_s]; exact pu_F_im W A hp hu huv hvj hj f
      · intro p' u' v' q1 q2 q3 q4 q5 q6
        rw [up3_s] at q6
        exact I4 p' i' j' (by omega) hij hj (D p' q1) (by rw [q2]; exact h0) u' v' q3 q4 q5 (pu_F_im W (pu_ag_sy A) (by omega) q3 q4 q5 hj q6)
      · intro u' v' q3 q4 q5 q7 q6
        rw [up3_s] at q6
        exact lex u' v' q3 q4 q5 q7 (pu_F_im W (pu_ag_sy A) hp q3 q4 q5 hj q6)
    · rw [up3_n z] at hpos
      obtain ⟨p', u', v', e1, e2, e3, c⟩ := ch1 n' i' j' hv' hpos
      have ne : cx n' i' j' ≠ cx (gr_F g p) i j := fun e => z (cx_inj W hv' hv (congrArg nI e))
      refine ⟨p', u', v', by rw [pk_un ne]; exact e1, by rw [pk_un ne]; exact e2, by rw [pk_un ne]; exact e3, ?_⟩
      exact pu_Ch_ag W hv'.2.2 (by rw [up3_n z]) (pu_ag_le A (I1 _ _ _ hv')) c
  · intro k hk
    by_cases z : k = fl
    · rw [z]
      exact ⟨gr_F g p, i, j, hv, pk_us, by rw [up3_s]; omega⟩
    · obtain ⟨n', i', j', hv', e', h0'⟩ := O.1 k (by omega)
      refine ⟨n', i', j', hv', by rw [pk_un z]; exact e', ?_⟩
      rw [up3_n (fun q => by obtain ⟨rfl, rfl, rfl⟩ := q; omega)]; exact h0'
  · intro k k' n1 i1 j1 n2 i2 j2 hkk hk' v1 v2 e1 e2
    by_cases z : k' = fl
    · rw [z, pk_us] at e2
      obtain ⟨rfl, rfl, rfl⟩ := cx_inj W hv v2 e2
      rw [up3_s]; exact I1' _ _ _ v1
    · rw [pk_un (by omega)] at e1 e2
      have q1 := xm_Oc W O (by omega) v1 e1
      have q2 := xm_Oc W O (by omega) v2 e2
      rw [up3_n (fun q => by obtain ⟨rfl, rfl, rfl⟩ := q; omega), up3_n (fun q => by obtain ⟨rfl, rfl, rfl⟩ := q; omega)]
      exact O.2.1 k k' _ _ _ _ _ _ hkk (by omega) v1 v2 e1 e2
  · intro n' i' j' hv' hpos
    by_cases z : n' = gr_F g p ∧ i' = i ∧ j' = j
    · obtain ⟨rfl, rfl, rfl⟩ := z
      exact ⟨fl, by omega, pk_us⟩
    · rw [up3_n z] at hpos
      obtain ⟨k, hk, e⟩ := O.2.2 n' i' j' hv' hpos
      exact ⟨k, by omega, by rw [pk_un (by omega)]; exact e⟩
  · intro n' i' j' hv' k ek
    by_cases z : n' = gr_F g p ∧ i' = i ∧ j' = j
    · obtain ⟨rfl, rfl, rfl⟩ := z
      rw [up3_s] at ek
      have : k = m := by omega
      subst this
      refine ⟨⟨by omega, p, u, v, hp, rfl, hu, huv, hvj, pu_F_im W A hp hu huv hvj hj f⟩, fun z => I3 _ _ _ hv h0 (pu_HT_im W (pu_ag_sy (pu_ag_le A (by omega))) hj z)⟩
    · rw [up3_n z] at ek
      have b := I1 _ _ _ hv'
      have a := I2 _ _ _ hv' k ek
      exact ⟨pu_HT_im W (pu_ag_le A (by omega)) hv'.2.2 a.1, fun z => a.2 (pu_HT_im W (pu_ag_sy (pu_ag_le A (by omega))) hv'.2.2 z)⟩
  · intro n' i' j' hv' e0
    have e1 : H n' i' j' = 0 := by
      by_cases z : n' = gr_F g p ∧ i' = i ∧ j' = j
      · obtain ⟨rfl, rfl, rfl⟩ := z; exact h0
      · rw [up3_n z] at e0; exact e0
    exact fun z => I3 _ _ _ hv' e1 (pu_HT_im W (pu_ag_sy (pu_ag_le A (by omega))) hv'.2.2 z)
  · intro p' i' j' h1 h2 h3 h4 h5 u' v' q1 q2 q3 q4
    have e1 : H (gr_F g p') i' j' = 0 := by
      by_cases z : gr_F g p' = gr_F g p ∧ i' = i ∧ j' = j
      · rw [z.1, z.2.1, z.2.2]; exact h0
      · rw [up3_n z] at h5; exact h5
    exact I4 p' i' j' h1 h2 h3 h4 e1 u' v' q1 q2 q3 (pu_F_im W (pu_ag_sy A) h1 q1 q2 q3 h3 q4)
  · rw [up3_s]; omega
theorem xm_L_dn {g : gr_G} {m B : Nat} {dn dn' : Nat → Nat → Nat → Prop} {hts ch fe se ord : Nat → Int32} {fl : Nat} (l : xm_L g m B dn hts ch fe se ord fl) (h : ∀ p i j, i ≤ j → j ≤ gr_L g → dn' p i j → dn p i j) : xm_L g m B dn' hts ch fe se ord fl := by
  obtain ⟨H, K, ⟨I1, I2, I3, I4⟩, b, c⟩ := l
  exact ⟨H, K, ⟨I1, I2, I3, fun p i j h1 h2 h3 h4 => I4 p i j h1 h2 h3 (h p i j h2 h3 h4)⟩, b, c⟩
section
variable {g : gr_G} {f_chartReady f_countsReady f_distancesReady f_followsReady f_filled : Int32} {a_lefts a_rights a_ops a_constants a_text a_heights a_chosen a_firstEnds a_secondEnds a_order a_counts a_distances a_follows a_sizes : Nat → Int32} {a_values a_operands : Nat → Int64} {a_productive a_used : Nat → Int32}
theorem xs_fh31 {post : Int32 → SX → Prop} {J7 J18 : Int32 → Int32 → Int32 → Int32 → Int32 → Int32 → Int32 → Int32 → (Nat → Int32) → (Nat → Int32) → (Nat → Int32) → (Nat → Int32) → (Nat → Int32) → (Nat → Int32) → (Nat → Int32) → (Nat → Int32) → (Nat → Int32) → (Nat → Int32) → (Nat → Int32) → (Nat → Int32) → (Nat → Int32) → (Nat → Int32) → (Nat → Int64) → (Nat → Int64) → (Nat → Int32) → (Nat → Int32) → Prop} {m B p i : Nat} (W : gr_W g) (hp : p < gr_P g) (hm : m < 605) (tx : xm_T g a_text) (mR : xm_R g a_rights) (mF : xm_F g a_lefts)
    (hJ : ∀ (fl : Nat) (a_heights a_chosen a_firstEnds a_secondEnds a_order : Nat → Int32), xm_L g m B (xm_dn p (i + 1) (i + 1)) a_heights a_chosen a_firstEnds a_secondEnds a_order fl → J18 (nI (i + 1)) (nI (gr_P g)) (nI (gr_L g)) f_chartReady f_countsReady f_distancesReady f_followsReady (nI fl) a_lefts a_rights a_ops a_constants a_text a_heights a_chosen a_firstEnds a_secondEnds a_order a_counts a_distances a_follows a_sizes a_values a_operands a_productive a_used) :
    ∀ d j, j + d = gr_L g + 1 → i ≤ j → ∀ (fl : Nat) (a_heights a_chosen a_firstEnds a_secondEnds a_order : Nat → Int32), xm_L g m B (xm_dn p i j) a_heights a_chosen a_firstEnds a_secondEnds a_order fl → wX_fillHeight_31 post J7 J18 (nI (m + 1)) (nI B) (nI p) (nI i) (d + 1) (nI j) (nI (gr_P g)) (nI (gr_L g)) f_chartReady f_countsReady f_distancesReady f_followsReady (nI fl) a_lefts a_rights a_ops a_constants a_text a_heights a_chosen a_firstEnds a_secondEnds a_order a_counts a_distances a_follows a_sizes a_values a_operands a_productive a_used := by
  have hL := W.2.1
  have hP := W.1
  intro d
  induction d with
  | zero =>
    intro j hj hij fl a_heights a_chosen a_firstEnds a_secondEnds a_order l
    refine br_t (nI_lt (by omega) (by omega)) (nm_r (nI_1 i) (hJ fl _ _ _ _ _ (xm_L_dn l (fun p' i' j' h1 h2 h3 => ?_))))
    unfold xm_dn at *; omega
  | succ d ih =>
    intro j hj hij fl a_heights a_chosen a_firstEnds a_secondEnds a_order l
    have hv : pu_V g (gr_F g p) i j := ⟨W.2.2.1 p hp, hij, by omega⟩
    have hl := cx_lt W hv
    refine br_f (nI_nlt (by omega) (by omega)) ⟨pk_in p 12 (by omega), xb_cell (gr_F g p) i j (xm_Fp W mF hp) rfl rfl ⟨pk_in (cx (gr_F g p) i j) 605 hl, ?_⟩⟩
    obtain ⟨H, K, I, b, c⟩ := l
    have hb : ∀ n i j, pu_V g n i j → H n i j ≤ 1000 := fun n i j h => by have := I.1 n i j h; omega
    have hbc := hb _ _ _ hv
    refine pk_eq (H (gr_F g p) i j) 0 (fun e => ?_) (fun e => ?_) (by rw [nI_clamp (by omega)]; exact K.1 _ _ _ hv)
    · have hfl : fl < 605 := by
        rw [K.2.1]
        refine pu_cnt_free hl ?_
        rw [K.1 _ _ _ hv, e]; rfl
      refine xs_choose (g := g) (H := H) (fl := fl) W hp hij (by omega) (by omega) tx mR mF K.1 hb rfl hfl (fun hn => ?_) (fun u v h1 h2 h3 h4 h5 => ?_)
      · refine nm_r (nI_1 j) (ih (j + 1) (by omega) (by omega) fl _ _ _ _ _ ⟨H, K, ⟨I.1, I.2.1, I.2.2.1, fun p' i' j' q1 q2 q3 q4 q5 => ?_⟩, b, c⟩)
        by_cases z : p' = p ∧ i' = i ∧ j' = j
        · obtain ⟨rfl, rfl, rfl⟩ := z; exact hn
        · exact I.2.2.2 p' i' j' q1 q2 q3 (by unfold xm_dn at *; omega) q5
      · obtain ⟨K', I', ne⟩ := xm_fill W K I hp hij (by omega) hm e h1 h2 h3 h4 h5 (fun p' hp' => Or.inl hp')
        refine nm_r (nI_1 j) (ih (j + 1) (by omega) (by omega) (fl + 1) _ _ _ _ _ ⟨_, K', ⟨I'.1, I'.2.1, I'.2.2.1, fun p' i' j' q1 q2 q3 q4 q5 => ?_⟩, by omega, fun q => by omega⟩)
        by_cases z : p' = p ∧ i' = i ∧ j' = j
        · obtain ⟨rfl, rfl, rfl⟩ := z; exact absurd q5 ne
        · exact I'.2.2.2 p' i' j' q1 q2 q3 (by unfold xm_dn at *; omega) q5
    · refine nm_r (nI_1 j) (ih (j + 1) (by omega) (by omega) fl _ _ _ _ _ ⟨H, K, ⟨I.1, I.2.1, I.2.2.1, fun p' i' j' q1 q2 q3 q4 q5 => ?_⟩, b, c⟩)
      by_cases z : p' = p ∧ i' = i ∧ j' = j
      · obtain ⟨rfl, rfl, rfl⟩ := z; exact absurd q5 e
      · exact I.2.2.2 p' i' j' q1 q2 q3 (by unfold xm_dn at *; omega) q5
theorem xs_fillHeight {post : Int32 → SX → Prop} {m B : Nat} (W : gr_W g) (hm : m < 605) (tx : xm_T g a_text) (mR : xm_R g a_rights) (mF : xm_F g a_lefts) (l0 : xm_L g m B (xm_dn 0 0 0) a_heights a_chosen a_firstEnds a_secondEnds a_order B)
    (hpost : ∀ (fl : Nat) (a_heights a_chosen a_firstEnds a_secondEnds a_order : Nat → Int32), xm_L g m B (xm_dn (gr_P g) 0 0) a_heights a_chosen a_firstEnds a_secondEnds a_order fl → (fl ≤ B → post 0 (nI (gr_P g), nI (gr_L g), f_chartReady, f_countsReady, f_distancesReady, f_followsReady, nI fl, a_lefts, a_rights, a_ops, a_constants, a_text, a_heights, a_chosen, a_firstEnds, a_secondEnds, a_order, a_counts, a_distances, a_follows, a_sizes, a_values, a_operands, a_productive, a_used)) ∧ (B < fl → post 1 (nI (gr_P g), nI (gr_L g), f_chartReady, f_countsReady, f_distancesReady, f_followsReady, nI fl, a_lefts, a_rights, a_ops, a_constants, a_text, a_heights, a_chosen, a_firstEnds, a_secondEnds, a_order, a_counts, a_distances, a_follows, a_sizes, a_values, a_operands, a_productive, a_used))) : wpX_fillHeight post (nI (gr_P g), nI (gr_L g), f_chartReady, f_countsReady, f_distancesReady, f_followsReady, nI B, a_lefts, a_rights, a_ops, a_constants, a_text, a_heights, a_chosen, a_firstEnds, a_secondEnds, a_order, a_counts, a_distances, a_follows, a_sizes, a_values, a_operands, a_productive, a_used) (nI (m + 1)) := by
  have hL := W.2.1
  have hP := W.1
  have flb : ∀ {dn fl} {a_heights a_chosen a_firstEnds a_secondEnds a_order : Nat → Int32}, xm_L g m B dn a_heights a_chosen a_firstEnds a_secondEnds a_order fl → fl ≤ 605 ∧ B ≤ fl := by
    intro dn fl a1 a2 a3 a4 a5 l
    obtain ⟨H, K, I, b, c⟩ := l
    exact ⟨by rw [K.2.1]; exact pu_cnt_le _ _, b⟩
  have K18 : ∀ (n7 p : Nat), p < gr_P g → (∀ (fl : Nat) (a_heights a_chosen a_firstEnds a_secondEnds a_order : Nat → Int32), xm_L g m B (xm_dn (p + 1) 0 0) a_heights a_chosen a_firstEnds a_secondEnds a_order fl → wX_fillHeight_7 post (nI (m + 1)) (nI B) n7 (nI (p + 1)) (nI (gr_P g)) (nI (gr_L g)) f_chartReady f_countsReady f_distancesReady f_followsReady (nI fl) a_lefts a_rights a_ops a_constants a_text a_heights a_chosen a_firstEnds a_secondEnds a_order a_counts a_distances a_follows a_sizes a_values a_operands a_productive a_used) → ∀ d i, i + d = gr_L g + 1 → ∀ (fl : Nat) (a_heights a_chosen a_firstEnds a_secondEnds a_order : Nat → Int32), xm_L g m B (xm_dn p i i) a_heights a_chosen a_firstEnds a_secondEnds a_order fl → wX_fillHeight_18 post (wX_fillHeight_7 post (nI (m + 1)) (nI B) n7) (nI (m + 1)) (nI B) (nI p) (d + 1) (nI i) (nI (gr_P g)) (nI (gr_L g)) f_chartReady f_countsReady f_distancesReady f_followsReady (nI fl) a_lefts a_rights a_ops a_constants a_text a_heights a_chosen a_firstEnds a_secondEnds a_order a_counts a_distances a_follows a_sizes a_values a_operands a_productive a_used := by
    intro n7 p hp hJ d
    induction d with
    | zero =>
      intro i hi fl a_heights a_chosen a_firstEnds a_secondEnds a_order l
      refine br_t (nI_lt (by omega) (by omega)) (nm_r (nI_1 p) (hJ fl _ _ _ _ _ (xm_L_dn l (fun p' i' j' h1 h2 h3 => ?_))))
      unfold xm_dn at *; omega
    | succ d ih =>
      intro i hi fl a_heights a_chosen a_firstEnds a_secondEnds a_order l
      refine br_f (nI_nlt (by omega) (by omega)) ⟨d + 1 + 1, ?_⟩
      exact xs_fh31 (g := g) W hp hm tx mR mF (fun fl a1 a2 a3 a4 a5 l' => ih (i + 1) (by omega) fl a1 a2 a3 a4 a5 l') (d + 1) i (by omega) (by omega) fl _ _ _ _ _ l
  have K7 : ∀ d p, p + d = gr_P g → ∀ (fl : Nat) (a_heights a_chosen a_firstEnds a_secondEnds a_order : Nat → Int32), xm_L g m B (xm_dn p 0 0) a_heights a_chosen a_firstEnds a_secondEnds a_order fl → wX_fillHeight_7 post (nI (m + 1)) (nI B) (d + 1) (nI p) (nI (gr_P g)) (nI (gr_L g)) f_chartReady f_countsReady f_distancesReady f_followsReady (nI fl) a_lefts a_rights a_ops a_constants a_text a_heights a_chosen a_firstEnds a_secondEnds a_order a_counts a_distances a_follows a_sizes a_values a_operands a_productive a_used := by
    intro d
    induction d with
    | zero =>
      intro p hp fl a_heights a_chosen a_firstEnds a_secondEnds a_order l
      have e : p = gr_P g := by omega
      subst e
      have fb := flb l
      have h := hpost fl _ _ _ _ _ l
      exact br_t (nI_le (by omega) (by omega)) (pk_le fl B h.1 h.2)
    | succ d ih =>
      intro p hp fl a_heights a_chosen a_firstEnds a_secondEnds a_order l
      refine br_f (nI_ge (by omega) (by omega)) ⟨gr_L g + 1 + 1, ?_⟩
      exact K18 (d + 1) p (by omega) (fun fl a1 a2 a3 a4 a5 l' => ih (p + 1) (by omega) fl a1 a2 a3 a4 a5 l') (gr_L g + 1) 0 (by omega) fl _ _ _ _ _ l
  exact ⟨gr_P g + 1, K7 (gr_P g) 0 (by omega) B _ _ _ _ _ l0⟩
end
end
section
/-! the chart of the component: the whole -/
def xm_Chart (g : gr_G) (hts ch fe se ord : Nat → Int32) (fl : Nat) : Prop := pu_HS g (pu_HH g) ∧ xm_K g (pu_HH g) hts ch fe se ord fl
def xm_N (g : gr_G) (m : Nat) (gr : Int32) (hts ch fe se ord : Nat → Int32) (fl : Nat) : Prop := ∃ H, xm_K g H hts ch fe se ord fl ∧ (∀ n i j, pu_V g n i j → H n i j ≤ m) ∧ (∀ n i j, pu_V g n i j → ∀ k, H n i j = k + 1 → pu_HT g H n i j (k + 1) ∧ ¬ pu_HT g H n i j k) ∧ (∀ n i j, pu_V g n i j → H n i j = 0 → ¬ pu_HT g H n i j m) ∧ ((gr = 1 ∧ m ≤ fl) ∨ (gr = 0 ∧ pu_HS g H))
theorem xm_K_eq {g : gr_G} {H H' : pu_C} {hts ch fe se ord : Nat → Int32} {fl : Nat} (W : gr_W g) (K : xm_K g H hts ch fe se ord fl) (e : ∀ n i j, pu_V g n i j → H n i j = H' n i j) : xm_K g H' hts ch fe se ord fl := by
  obtain ⟨mH, efl, ch1, O1, O2, O3⟩ := K
  refine ⟨fun n i j hv => by rw [mH n i j hv, e n i j hv], efl, fun n i j hv h0 => ?_, fun k hk => ?_, fun k k' n i j n' i' j' h1 h2 h3 h4 h5 h6 => ?_, fun n i j hv h0 => ?_⟩
  · obtain ⟨p, u, v, e1, e2, e3, c⟩ := ch1 n i j hv (by rw [e n i j hv]; exact h0)
    exact ⟨p, u, v, e1, e2, e3, pu_Ch_ag W hv.2.2 (e n i j hv) (pu_ag_eq e _) c⟩
  · obtain ⟨n, i, j, hv, e1, h0⟩ := O1 k hk
    exact ⟨n, i, j, hv, e1, by rw [← e n i j hv]; exact h0⟩
  · rw [← e n i j h3, ← e n' i' j' h4]; exact O2 k k' n i j n' i' j' h1 h2 h3 h4 h5 h6
  · exact O3 n i j hv (by rw [e n i j hv]; exact h0)
theorem xm_Chart_of {g : gr_G} {H : pu_C} {hts ch fe se ord : Nat → Int32} {fl : Nat} (W : gr_W g) (K : xm_K g H hts ch fe se ord fl) (S : pu_HS g H) : xm_Chart g hts ch fe se ord fl :=
  ⟨pu_HH_s S, xm_K_eq W K (fun _ _ _ hv => pu_HH_e W S hv)⟩
theorem pu_ps_cut {g : gr_G} {H : pu_C} {m s i j h : Nat} (b : ∀ n i j, pu_V g n i j → H n i j ≤ m) (ok : pu_ok s) (hij : i ≤ j) (hj : j ≤ gr_L g) (f : pu_ps g H s i j h) : pu_ps g H s i j (m + 1) := by
  by_cases c : 10 ≤ s ∧ s < 99
  · have := b _ _ _ (xb_ntV ok c hij hj)
    rw [pu_ps_n c] at *; omega
  · unfold pu_ps at *
    by_cases h99 : s = 99
    · rw [if_pos h99] at *; exact f
    · rw [if_neg h99] at *
      have h10 : s < 10 := by unfold pu_ok at ok; omega
      rw [if_pos h10] at *; exact f
theorem pu_HT_cut {g : gr_G} {H : pu_C} {m n i j h : Nat} (W : gr_W g) (b : ∀ n i j, pu_V g n i j → H n i j ≤ m) (hj : j ≤ gr_L g) (f : pu_HT g H n i j h) : pu_HT g H n i j (m + 1) := by
  obtain ⟨h0, p, u, v, hp, hn, a1, a2, a3, f1, f2, f3⟩ := f
  exact ⟨by omega, p, u, v, hp, hn, a1, a2, a3, pu_ps_cut b (pu_okR0 W hp) a1 (by omega) f1, pu_ps_cut b (pu_okR W hp (by decide)) a2 (by omega) f2, pu_ps_cut b (pu_okR W hp (by decide)) a3 hj f3⟩
theorem xm_N_of {g : gr_G} {m B fl : Nat} {hts ch fe se ord : Nat → Int32} (W : gr_W g) (hm : m < 605) (hB : m ≤ B) (l : xm_L g m B (xm_dn (gr_P g) 0 0) hts ch fe se ord fl) : (fl ≤ B → xm_N g (m + 1) 0 hts ch fe se ord fl) ∧ (B < fl → xm_N g (m + 1) 1 hts ch fe se ord fl) := by
  obtain ⟨H, K, ⟨I1, I2, I3, I4⟩, b, c⟩ := l
  have R : ∀ n i j, pu_V g n i j → H n i j = 0 → ¬ pu_HT g H n i j (m + 1) := by
    intro n i j hv e z
    obtain ⟨h0, p, u, v, hp, hn, a1, a2, a3, f⟩ := z
    exact I4 p i j hp hv.2.1 hv.2.2 (Or.inl hp) (by rw [hn]; exact e) u v a1 a2 a3 f
  refine ⟨fun q => ⟨H, K, I1, I2, R, Or.inr ⟨rfl, fun n i j hv => ⟨fun e h z => ?_, I2 n i j hv, ?_⟩⟩⟩, fun q => ⟨H, K, I1, I2, R, Or.inl ⟨rfl, by omega⟩⟩⟩
  · exact R n i j hv e (pu_HT_cut W (c q) hv.2.2 z)
  · have := I1 n i j hv; omega
section
variable {g : gr_G} {f_chartReady f_countsReady f_distancesReady f_followsReady f_filled : Int32} {a_lefts a_rights a_ops a_constants a_text a_heights a_chosen a_firstEnds a_secondEnds a_order a_counts a_distances a_follows a_sizes : Nat → Int32} {a_values a_operands : Nat → Int64} {a_productive a_used : Nat → Int32}
theorem xs_needChart {post : SX → Prop} (W : gr_W g) (tx : xm_T g a_text) (mR : xm_R g a_rights) (mF : xm_F g a_lefts) (hr : f_chartReady ≠ 0 → ∃ fl, f_filled = nI fl ∧ xm_Chart g a_heights a_chosen a_firstEnds a_secondEnds a_order fl)
    (hpost : ∀ (fl : Nat) (f_chartReady : Int32) (a_heights a_chosen a_firstEnds a_secondEnds a_order : Nat → Int32), f_chartReady ≠ 0 → xm_Chart g a_heights a_chosen a_firstEnds a_secondEnds a_order fl → post (nI (gr_P g), nI (gr_L g), f_chartReady, f_countsReady, f_distancesReady, f_followsReady, nI fl, a_lefts, a_rights, a_ops, a_constants, a_text, a_heights, a_chosen, a_firstEnds, a_secondEnds, a_order, a_counts, a_distances, a_follows, a_sizes, a_values, a_operands, a_productive, a_used)) : wpX_needChart post (nI (gr_P g), nI (gr_L g), f_chartReady, f_countsReady, f_distancesReady, f_followsReady, f_filled, a_lefts, a_rights, a_ops, a_constants, a_text, a_heights, a_chosen, a_firstEnds, a_secondEnds, a_order, a_counts, a_distances, a_follows, a_sizes, a_values, a_operands, a_productive, a_used) := by
  have K39 : ∀ d m, m + d = 605 → ∀ (gr : Int32) (fl : Nat) (a_heights a_chosen a_firstEnds a_secondEnds a_order : Nat → Int32), xm_N g m gr a_heights a_chosen a_firstEnds a_secondEnds a_order fl → wX_needChart_39 post (d + 1) gr (nI (m + 1)) (nI (gr_P g)) (nI (gr_L g)) f_chartReady f_countsReady f_distancesReady f_followsReady (nI fl) a_lefts a_rights a_ops a_constants a_text a_heights a_chosen a_firstEnds a_secondEnds a_order a_counts a_distances a_follows a_sizes a_values a_operands a_productive a_used := by
    intro d
    induction d with
    | zero =>
      intro m hm gr fl a_heights a_chosen a_firstEnds a_secondEnds a_order l
      have e : m = 605 := by omega
      subst e
      obtain ⟨H, K, I1, I2, I3, l⟩ := l
      refine br_t (nI_le (a := 606) (b := 606) (by decide) (by decide)) (hpost fl 1 _ _ _ _ _ (by decide) (xm_Chart_of W K ?_))
      obtain ⟨_, l⟩ | ⟨_, l⟩ := l
      · intro n i j hv
        refine ⟨fun e h => ?_, I2 n i j hv, I1 n i j hv⟩
        have := pu_cnt_full (by rw [← K.2.1]; exact l) (cx_lt W hv)
        rw [K.1 _ _ _ hv, e] at this
        exact absurd this (by decide)
      · exact l
    | succ d ih =>
      intro m hm gr fl a_heights a_chosen a_firstEnds a_secondEnds a_order l
      obtain ⟨H, K, I1, I2, I3, l⟩ := l
      refine br_f (nI_ge (b := 606) (by omega) (by decide)) ?_
      obtain ⟨rfl, l⟩ | ⟨rfl, l⟩ := l
      · refine br_f (by decide) ?_
        refine xs_fillHeight (g := g) (B := fl) W (by omega) tx mR mF ⟨H, K, ⟨fun n i j hv => by have := I1 n i j hv; omega, I2, I3, fun p i j _ _ _ h => by unfold xm_dn at h; omega⟩, Nat.le_refl _, fun _ => I1⟩ (fun fl' a1 a2 a3 a4 a5 l' => ?_)
        have z := xm_N_of W (by omega) l l'
        exact ⟨fun q => nm_r (nI_1 (m + 1)) (ih (m + 1) (by omega) 0 fl' _ _ _ _ _ (z.1 q)), fun q => nm_r (nI_1 (m + 1)) (ih (m + 1) (by omega) 1 fl' _ _ _ _ _ (z.2 q))⟩
      · exact br_t rfl (hpost fl 1 _ _ _ _ _ (by decide) (xm_Chart_of W K l))
  have K10 : ∀ d x, x + d = 605 → ∀ (a_heights : Nat → Int32), (∀ y, y < x → a_heights y = 0) → wX_needChart_10 post (nI (gr_P g)) (nI (gr_L g)) f_chartReady f_countsReady f_distancesReady f_followsReady f_filled (d + 1) (nI x) a_lefts a_rights a_ops a_constants a_text a_heights a_chosen a_firstEnds a_secondEnds a_order a_counts a_distances a_follows a_sizes a_values a_operands a_productive a_used := by
    intro d
    induction d with
    | zero =>
      intro x hx a_heights hz
      have e : x = 605 := by omega
      subst e
      refine br_t (nI_le (a := 605) (b := 605) (by decide) (by decide)) ⟨605 + 1, K39 605 0 rfl 1 0 _ _ _ _ _ ⟨fun _ _ _ => 0, ⟨fun n i j hv => hz _ (cx_lt W hv), ?_, fun n i j hv h => absurd h (Nat.lt_irrefl 0), fun k hk => absurd hk (by omega), fun k k' _ _ _ _ _ _ _ hk => absurd hk (by omega), fun n i j hv h => absurd h (Nat.lt_irrefl 0)⟩, fun _ _ _ _ => Nat.le_refl _, fun n i j hv k e => absurd e (Nat.succ_ne_zero k).symm, fun n i j hv e z => absurd z.1 (by decide), Or.inl ⟨rfl, by decide⟩⟩⟩
      have : ∀ n, n ≤ 605 → pu_cnt (fun x => decide (a_heights x ≠ 0)) n = 0 := by
        intro n
        induction n with
        | zero => intro _; rfl
        | succ n ih => intro hn; unfold pu_cnt; rw [ih (by omega), hz n (by omega)]; rfl
      exact (this 605 (by decide)).symm
    | succ d ih =>
      intro x hx a_heights hz
      refine br_f (nI_ge (b := 605) (by omega) (by decide)) ⟨pk_in x 605 (by omega), nm_r (e' := upd a_heights x 0) (by rw [nI_clamp (by omega)]) (nm_r (nI_1 x) (ih (x + 1) (by omega) _ (fun y hy => ?_)))⟩
      by_cases c : y = x
      · rw [c, pk_us]
      · rw [pk_un c]; exact hz y (by omega)
  refine br_c (fun _ => ⟨605 + 1, K10 605 0 rfl _ (fun y hy => absurd hy (by omega))⟩) (fun z => ?_)
  obtain ⟨fl, rfl, c⟩ := hr z
  exact hpost fl _ _ _ _ _ _ z c
end
end
section
/-! the component: what is what, edits, height, longest -/
theorem xb_lit {n : Nat} (x : Int32) (lo : Nat) (hl : lo < 2 ^ 31) (h : ¬ x < nI lo) (h2 : ¬ nI n ≤ x) (hn : n < 2 ^ 31) : ∃ k, lo ≤ k ∧ k < n ∧ x = nI k := by
  have h0 : ¬ x < 0 := by
    intro z
    apply h
    rw [Int32.lt_iff_toInt_lt] at *
    rw [nI_toInt hl]
    rw [show (0 : Int32).toInt = 0 from rfl] at z
    omega
  obtain ⟨k, hk, rfl⟩ := nI_of h0
  rw [nI_ltI hk hl] at h
  rw [nI_leI hn hk] at h2
  exact ⟨k, by omega, by omega, rfl⟩
theorem xb_nlt {x : Int32} {lo k : Nat} (hl : lo < 2 ^ 31) (h : x < nI lo) (hk : k < 2 ^ 31) (l : lo ≤ k) : x ≠ nI k := by
  intro e; rw [e, nI_ltI hk hl] at h; omega
theorem xb_nle {x : Int32} {hi k : Nat} (hh : hi < 2 ^ 31) (h : nI hi ≤ x) (l : k < hi) : x ≠ nI k := by
  intro e; rw [e, nI_leI hh (by omega)] at h; omega
theorem xb_ngt {x : Int32} {hi k : Nat} (hh : hi < 2 ^ 31) (h : nI hi < x) (l : k ≤ hi) : x ≠ nI k := by
  intro e; rw [e, nI_ltI hh (by omega)] at h; omega
theorem xb_nn {x : Int32} {hi k : Nat} (hh : hi < 2 ^ 31) (hk : k < 2 ^ 31) (h : ¬ x = nI hi) (l : k = hi) : x ≠ nI k := by
  intro e; rw [l] at e; exact h e
theorem xs_isNt {post : Int32 → Prop} {x : Int32} (ht : ∀ n, n < 5 → x = nI (10 + n) → post 1) (hf : (∀ n, n < 5 → x ≠ nI (10 + n)) → post 0) : wpX_isNonterminal post x := by
  refine br_c (fun h => hf (fun n hn => xb_nlt (lo := 10) (by decide) h (by omega) (by omega))) (fun h => br_c (fun h2 => hf (fun n hn => xb_nle (hi := 15) (by decide) h2 (by omega))) (fun h2 => ?_))
  obtain ⟨k, k1, k2, e⟩ := xb_lit (n := 15) x 10 (by decide) h h2 (by decide)
  exact ht (k - 10) (by omega) (by rw [e]; exact congrArg nI (by omega))
theorem xs_isTm {post : Int32 → Prop} {x : Int32} (ht : ∀ n, n < 6 → x = nI n → post 1) (hf : (∀ n, n < 6 → x ≠ nI n) → post 0) : wpX_isTerminal post x := by
  refine br_c (fun h => hf (fun n hn => xb_nlt (lo := 0) (by decide) h (by omega) (by omega))) (fun h => br_c (fun h2 => hf (fun n hn => xb_nle (hi := 6) (by decide) h2 (by omega))) (fun h2 => ?_))
  obtain ⟨k, k1, k2, e⟩ := xb_lit (n := 6) x 0 (by decide) h h2 (by decide)
  exact ht k k2 e
theorem xs_isSym {post : Int32 → Prop} {x : Int32} (ht : ∀ s, pu_ok s → x = sy_m s → post 1) (hf : (∀ s, pu_ok s → x ≠ sy_m s) → post 0) : wpX_isSymbolOrAbsent post x := by
  refine br_c (fun h => ht 99 (Or.inr (Or.inr rfl)) h) (fun h => ?_)
  refine xs_isTm (fun n hn e => br_f (by decide) (ht n (Or.inl hn) (by rw [sy_n (by omega)]; exact e))) (fun h1 => br_t rfl ?_)
  refine xs_isNt (fun n hn e => br_f (by decide) (ht (10 + n) (Or.inr (Or.inl ⟨by omega, by omega⟩)) (by rw [sy_n (by omega)]; exact e))) (fun h2 => br_t rfl (hf (fun s ok e => ?_)))
  by_cases c : s = 99
  · rw [c] at e; exact h e
  · rw [sy_n c] at e
    unfold pu_ok at ok
    by_cases c2 : s < 6
    · exact h1 s c2 e
    · exact h2 (s - 10) (by omega) (by rw [e]; exact congrArg nI (by omega))
def xm_rs (a b c : Nat) (p0 p1 p2 : Int32) : Prop := pu_ok a ∧ pu_ok b ∧ pu_ok c ∧ p0 = sy_m a ∧ p1 = sy_m b ∧ p2 = sy_m c ∧ (a = 99 → b = 99) ∧ (b = 99 → c = 99)
theorem xs_rs26 {post : Int32 → Prop} {p0 p1 p2 : Int32} {a b c : Nat} (oa : pu_ok a) (ob : pu_ok b) (oc : pu_ok c) (ea : p0 = sy_m a) (eb : p1 = sy_m b) (ec : p2 = sy_m c) (ht : xm_rs a b c p0 p1 p2 → post 1) (hf : ¬ ((a = 99 → b = 99) ∧ (b = 99 → c = 99)) → post 0) : wX_isRightSide_26 post p0 p1 p2 1 := by
  have K : ∀ z : Int32, (z = 1 → (a = 99 → b = 99) ∧ (b = 99 → c = 99)) → (z = 0 → ¬ ((a = 99 → b = 99) ∧ (b = 99 → c = 99))) → (z = 1 ∨ z = 0) → wX_isRightSide_52 post 1 z := by
    intro z h1 h0 h
    refine br_f (by decide) ?_
    obtain rfl | rfl := h
    · exact br_f (by decide) (ht ⟨oa, ob, oc, ea, eb, ec, h1 rfl⟩)
    · exact br_t rfl (hf (h0 rfl))
  have z0 : ¬ (0 : Int32) = 1 := by decide
  have z1 : ¬ (1 : Int32) = 0 := by decide
  subst ea eb ec
  have K37 : (a = 99 → b = 99) → wX_isRightSide_37 post (sy_m b) (sy_m c) 1 := fun hab =>
    ek_if (sy_e1 ob) (fun e => ek_if (sy_e1 oc) (fun e2 => K 1 (fun _ => ⟨hab, fun _ => e2⟩) (fun q => absurd q z1) (Or.inl rfl)) (fun e2 => K 0 (fun q => absurd q z0) (fun _ q => e2 (q.2 e)) (Or.inr rfl))) (fun e => K 1 (fun _ => ⟨hab, fun q => absurd q e⟩) (fun q => absurd q z1) (Or.inl rfl))
  exact ek_if (sy_e1 oa) (fun e => ek_if (sy_e1 ob) (fun e2 => K37 (fun _ => e2)) (fun e2 => K 0 (fun q => absurd q z0) (fun _ q => e2 (q.1 e)) (Or.inr rfl))) (fun e => K37 (fun q => absurd q e))
theorem xs_rs25 {post : Int32 → Prop} {p0 p1 p2 : Int32} (h : post 0) : wX_isRightSide_25 post p0 p1 p2 := by
  have K : ∀ z : Int32, wX_isRightSide_52 post 0 z := fun z => br_t rfl h
  have K37 : wX_isRightSide_37 post p1 p2 0 := br_c (fun _ => br_c (fun _ => K 1) (fun _ => K 0)) (fun _ => K 1)
  exact br_c (fun _ => br_c (fun _ => K37) (fun _ => K 0)) (fun _ => K37)
theorem xs_isRs {post : Int32 → Prop} {p0 p1 p2 : Int32} (ht : ∀ a b c, xm_rs a b c p0 p1 p2 → post 1) (hf : (∀ a b c, ¬ xm_rs a b c p0 p1 p2) → post 0) : wpX_isRightSide post p0 p1 p2 := by
  refine xs_isSym (fun a oa ea => br_f (by decide) ?_) (fun h => br_t rfl (xs_rs25 (hf (fun a b c q => h a q.1 q.2.2.2.1))))
  refine xs_isSym (fun b ob eb => br_f (by decide) ?_) (fun h => br_t rfl (xs_rs25 (hf (fun a b c q => h b q.2.1 q.2.2.2.2.1))))
  refine xs_isSym (fun c oc ec => br_f (by decide) ?_) (fun h => br_t rfl (xs_rs25 (hf (fun a b c q => h c q.2.2.1 q.2.2.2.2.2.1))))
  refine xs_rs26 oa ob oc ea eb ec (ht a b c) (fun q => hf (fun a' b' c' q' => q ?_))
  have f : ∀ s s', pu_ok s → pu_ok s' → sy_m s = sy_m s' → (s = 99 ↔ s' = 99) := fun s s' o o' e => by rw [← sy_e1 o, ← sy_e1 o', e]
  have ha := f a a' oa q'.1 (ea.symm.trans q'.2.2.2.1)
  have hb := f b b' ob q'.2.1 (eb.symm.trans q'.2.2.2.2.1)
  have hc := f c c' oc q'.2.2.1 (ec.symm.trans q'.2.2.2.2.2.1)
  have h1 := q'.2.2.2.2.2.2
  exact ⟨fun z => hb.mpr (h1.1 (ha.mp z)), fun z => hc.mpr (h1.2 (hb.mp z))⟩
section
variable {g : gr_G} {f_chartReady f_countsReady f_distancesReady f_followsReady f_filled : Int32} {a_lefts a_rights a_ops a_constants a_text a_heights a_chosen a_firstEnds a_secondEnds a_order a_counts a_distances a_follows a_sizes : Nat → Int32} {a_values a_operands : Nat → Int64} {a_productive a_used : Nat → Int32}
theorem xs_isPl {post : Int32 → Prop} {x : Int32} (W : gr_W g) (ht : ∀ n, n ≤ gr_L g → x = nI n → post 1) (hf : (∀ n, n ≤ gr_L g → x ≠ nI n) → post 0) : wpX_isPlace post (nI (gr_P g), nI (gr_L g), f_chartReady, f_countsReady, f_distancesReady, f_followsReady, f_filled, a_lefts, a_rights, a_ops, a_constants, a_text, a_heights, a_chosen, a_firstEnds, a_secondEnds, a_order, a_counts, a_distances, a_follows, a_sizes, a_values, a_operands, a_productive, a_used) x := by
  have hL := W.2.1
  refine br_c (fun h => hf (fun n hn => xb_nlt (lo := 0) (by decide) h (by omega) (by omega))) (fun h => br_c (fun h2 => hf (fun n hn => xb_ngt (by omega) h2 hn)) (fun h2 => ?_))
  obtain ⟨k, hk, rfl⟩ := nI_of h
  rw [nI_ltI (by omega) hk] at h2
  exact ht k (by omega) rfl
theorem xs_isTk {post : Int32 → Prop} {x : Int32} (W : gr_W g) (ht : ∀ n, n < gr_L g → x = nI n → post 1) (hf : (∀ n, n < gr_L g → x ≠ nI n) → post 0) : wpX_isToken post (nI (gr_P g), nI (gr_L g), f_chartReady, f_countsReady, f_distancesReady, f_followsReady, f_filled, a_lefts, a_rights, a_ops, a_constants, a_text, a_heights, a_chosen, a_firstEnds, a_secondEnds, a_order, a_counts, a_distances, a_follows, a_sizes, a_values, a_operands, a_productive, a_used) x := by
  have hL := W.2.1
  refine br_c (fun h => hf (fun n hn => xb_nlt (lo := 0) (by decide) h (by omega) (by omega))) (fun h => br_c (fun h2 => hf (fun n hn => xb_nle (by omega) h2 hn)) (fun h2 => ?_))
  obtain ⟨k, hk, rfl⟩ := nI_of h
  rw [nI_leI (by omega) hk] at h2
  exact ht k (by omega) rfl
theorem xs_isSp {post : Int32 → Prop} {p0 p1 p2 : Int32} (W : gr_W g) (ht : ∀ n i j, pu_V g n i j → p0 = nI (10 + n) → p1 = nI i → p2 = nI j → post 1) (hf : (∀ n i j, pu_V g n i j → ¬ (p0 = nI (10 + n) ∧ p1 = nI i ∧ p2 = nI j)) → post 0) : wpX_isSpan post (nI (gr_P g), nI (gr_L g), f_chartReady, f_countsReady, f_distancesReady, f_followsReady, f_filled, a_lefts, a_rights, a_ops, a_constants, a_text, a_heights, a_chosen, a_firstEnds, a_secondEnds, a_order, a_counts, a_distances, a_follows, a_sizes, a_values, a_operands, a_productive, a_used) p0 p1 p2 := by
  have hL := W.2.1
  unfold wpX_isSpan
  refine xs_isNt (fun n hn en => br_f (by decide) ?_) (fun h => br_t rfl (hf (fun n i j hv q => h n hv.1 q.1)))
  refine xs_isPl W (fun i hi ei => br_f (by decide) ?_) (fun h => br_t rfl (hf (fun n i j hv q => h i (by have := hv.2; omega) q.2.1)))
  refine xs_isPl W (fun j hj ej => br_f (by decide) ?_) (fun h => br_t rfl (hf (fun n i j hv q => h j hv.2.2 q.2.2)))
  refine pk_lt j i (fun h => hf (fun n' i' j' hv q => ?_)) (fun h => ht n i j ⟨hn, h, hj⟩ en ei ej) ej ei
  have e1 := ei.symm.trans q.2.1
  have e2 := ej.symm.trans q.2.2
  have hv2 := hv.2
  rw [nI_eq (by omega) (by omega)] at e1 e2
  omega
theorem xs_produce {post : Int32 → SX → Prop} {p0 p1 p2 p3 : Int32} (W : gr_W g) (bad : (∀ n a b c, ¬ (n < 5 ∧ p0 = nI (10 + n) ∧ xm_rs a b c p1 p2 p3)) → post (-1) (nI (gr_P g), nI (gr_L g), f_chartReady, f_countsReady, f_distancesReady, f_followsReady, f_filled, a_lefts, a_rights, a_ops, a_constants, a_text, a_heights, a_chosen, a_firstEnds, a_secondEnds, a_order, a_counts, a_distances, a_follows, a_sizes, a_values, a_operands, a_productive, a_used)) (full : (∃ n a b c, n < 5 ∧ p0 = nI (10 + n) ∧ xm_rs a b c p1 p2 p3) → gr_P g = 12 → post (-2) (nI (gr_P g), nI (gr_L g), f_chartReady, f_countsReady, f_distancesReady, f_followsReady, f_filled, a_lefts, a_rights, a_ops, a_constants, a_text, a_heights, a_chosen, a_firstEnds, a_secondEnds, a_order, a_counts, a_distances, a_follows, a_sizes, a_values, a_operands, a_productive, a_used))
    (good : (∃ n a b c, n < 5 ∧ p0 = nI (10 + n) ∧ xm_rs a b c p1 p2 p3) → gr_P g < 12 → post (nI (gr_P g)) (nI (gr_P g + 1), nI (gr_L g), 0, 0, 0, 0, f_filled, upd a_lefts (gr_P g) p0, upd (upd (upd a_rights (3 * gr_P g) p1) (3 * gr_P g + 1) p2) (3 * gr_P g + 2) p3, upd a_ops (gr_P g) 1, upd a_constants (gr_P g) 0, a_text, a_heights, a_chosen, a_firstEnds, a_secondEnds, a_order, a_counts, a_distances, a_follows, a_sizes, a_values, a_operands, a_productive, a_used)) : wpX_produce post (nI (gr_P g), nI (gr_L g), f_chartReady, f_countsReady, f_distancesReady, f_followsReady, f_filled, a_lefts, a_rights, a_ops, a_constants, a_text, a_heights, a_chosen, a_firstEnds, a_secondEnds, a_order, a_counts, a_distances, a_follows, a_sizes, a_values, a_operands, a_productive, a_used) p0 p1 p2 p3 := by
  have hP := W.1
  unfold wpX_produce
  refine xs_isNt (fun n hn en => br_f (by decide) ?_) (fun h => br_t rfl (bad (fun n a b c q => h n q.1 q.2.1)))
  refine xs_isRs (fun a b c h => br_f (by decide) ?_) (fun h => br_t rfl (bad (fun n a b c q => h a b c q.2.2)))
  refine pk_lt (gr_P g) 12 (fun l => ?_) (fun l => full ⟨n, a, b, c, hn, en, h⟩ (by omega))
  refine ⟨vp_in_nI l (by decide), nm_r (e' := upd a_lefts (gr_P g) p0) (by rw [nI_clamp (by omega)]) ⟨xb_i0 l, nm_r (by rw [xb_r0 l]) ⟨xb_i1 l, nm_r (by rw [xb_r1 l]) ⟨xb_i2 l, nm_r (by rw [xb_r2 l]) ⟨vp_in_nI l (by decide), nm_r (e' := upd a_ops (gr_P g) 1) (by rw [nI_clamp (by omega)]) ⟨vp_in_nI l (by decide), nm_r (e' := upd a_constants (gr_P g) 0) (by rw [nI_clamp (by omega)]) (nm_r (nI_1 _) ?_)⟩⟩⟩⟩⟩⟩
  exact good ⟨n, a, b, c, hn, en, h⟩ l
theorem xs_retract {post : Int32 → SX → Prop} (W : gr_W g) (none : gr_P g = 0 → post 0 (nI (gr_P g), nI (gr_L g), f_chartReady, f_countsReady, f_distancesReady, f_followsReady, f_filled, a_lefts, a_rights, a_ops, a_constants, a_text, a_heights, a_chosen, a_firstEnds, a_secondEnds, a_order, a_counts, a_distances, a_follows, a_sizes, a_values, a_operands, a_productive, a_used)) (good : ∀ p, gr_P g = p + 1 → post 1 (nI p, nI (gr_L g), 0, 0, 0, 0, f_filled, a_lefts, a_rights, a_ops, a_constants, a_text, a_heights, a_chosen, a_firstEnds, a_secondEnds, a_order, a_counts, a_distances, a_follows, a_sizes, a_values, a_operands, a_productive, a_used)) : wpX_retract post (nI (gr_P g), nI (gr_L g), f_chartReady, f_countsReady, f_distancesReady, f_followsReady, f_filled, a_lefts, a_rights, a_ops, a_constants, a_text, a_heights, a_chosen, a_firstEnds, a_secondEnds, a_order, a_counts, a_distances, a_follows, a_sizes, a_values, a_operands, a_productive, a_used) := by
  have hP := W.1
  refine pk_eq (gr_P g) 0 none (fun h => ?_)
  obtain ⟨p, ep⟩ : ∃ p, gr_P g = p + 1 := ⟨gr_P g - 1, by omega⟩
  refine nm_r (e' := nI p) (by rw [ep]; exact nI_pred p) (good p ep)
theorem xs_action {post : Int32 → SX → Prop} {p0 p1 p2 : Int32} (W : gr_W g) (bad : (∀ p o, ¬ (p < gr_P g ∧ o < 8 ∧ p0 = nI p ∧ p1 = nI o)) → post 0 (nI (gr_P g), nI (gr_L g), f_chartReady, f_countsReady, f_distancesReady, f_followsReady, f_filled, a_lefts, a_rights, a_ops, a_constants, a_text, a_heights, a_chosen, a_firstEnds, a_secondEnds, a_order, a_counts, a_distances, a_follows, a_sizes, a_values, a_operands, a_productive, a_used)) (good : ∀ p o, p < gr_P g → o < 8 → p0 = nI p → p1 = nI o → post 1 (nI (gr_P g), nI (gr_L g), f_chartReady, f_countsReady, f_distancesReady, f_followsReady, f_filled, a_lefts, a_rights, upd a_ops p (nI o), upd a_constants p p2, a_text, a_heights, a_chosen, a_firstEnds, a_secondEnds, a_order, a_counts, a_distances, a_follows, a_sizes, a_values, a_operands, a_productive, a_used)) : wpX_action post (nI (gr_P g), nI (gr_L g), f_chartReady, f_countsReady, f_distancesReady, f_followsReady, f_filled, a_lefts, a_rights, a_ops, a_constants, a_text, a_heights, a_chosen, a_firstEnds, a_secondEnds, a_order, a_counts, a_distances, a_follows, a_sizes, a_values, a_operands, a_productive, a_used) p0 p1 p2 := by
  have hP := W.1
  refine br_c (fun h => bad (fun p o q => xb_nlt (lo := 0) (k := p) (by decide) h (by omega) (by omega) q.2.2.1)) (fun h => br_c (fun h2 => bad (fun p o q => xb_nle (by omega) h2 q.1 q.2.2.1)) (fun h2 => br_c (fun h3 => bad (fun p o q => xb_nlt (lo := 0) (k := o) (by decide) h3 (by omega) (by omega) q.2.2.2)) (fun h3 => br_c (fun h4 => ?_) (fun h4 => bad (fun p o q => ?_)))))
  · obtain ⟨p, hp, rfl⟩ := nI_of h
    obtain ⟨o, ho, rfl⟩ := nI_of h3
    rw [nI_leI (by omega) hp] at h2
    rw [show (8 : Int32) = nI 8 from rfl, nI_ltI ho (by decide)] at h4
    refine ⟨vp_in_nI (by omega) (by decide), nm_r (e' := upd a_ops p (nI o)) (by rw [nI_clamp hp]) ⟨vp_in_nI (by omega) (by decide), nm_r (e' := upd a_constants p p2) (by rw [nI_clamp hp]) (good p o (by omega) h4 rfl rfl)⟩⟩
  · apply h4
    rw [q.2.2.2, show (8 : Int32) = nI 8 from rfl]
    exact nI_lt q.2.1 (by decide)
theorem xs_set {post : Int32 → SX → Prop} {p0 p1 : Int32} (W : gr_W g) (bad : (∀ i t, ¬ (i < gr_L g ∧ t < 6 ∧ p0 = nI i ∧ p1 = nI t)) → post 0 (nI (gr_P g), nI (gr_L g), f_chartReady, f_countsReady, f_distancesReady, f_followsReady, f_filled, a_lefts, a_rights, a_ops, a_constants, a_text, a_heights, a_chosen, a_firstEnds, a_secondEnds, a_order, a_counts, a_distances, a_follows, a_sizes, a_values, a_operands, a_productive, a_used)) (good : ∀ i t, i < gr_L g → t < 6 → p0 = nI i → p1 = nI t → post 1 (nI (gr_P g), nI (gr_L g), 0, 0, 0, 0, f_filled, a_lefts, a_rights, a_ops, a_constants, upd a_text i (nI t), a_heights, a_chosen, a_firstEnds, a_secondEnds, a_order, a_counts, a_distances, a_follows, a_sizes, a_values, a_operands, a_productive, a_used)) : wpX_set post (nI (gr_P g), nI (gr_L g), f_chartReady, f_countsReady, f_distancesReady, f_followsReady, f_filled, a_lefts, a_rights, a_ops, a_constants, a_text, a_heights, a_chosen, a_firstEnds, a_secondEnds, a_order, a_counts, a_distances, a_follows, a_sizes, a_values, a_operands, a_productive, a_used) p0 p1 := by
  have hL := W.2.1
  unfold wpX_set
  refine xs_isTk W (fun i hi ei => br_f (by decide) ?_) (fun h => br_t rfl (bad (fun i t q => h i q.1 q.2.2.1)))
  refine xs_isTm (fun t ht et => br_f (by decide) ?_) (fun h => br_t rfl (bad (fun i t q => h t q.2.1 q.2.2.2)))
  refine ⟨by rw [ei]; exact vp_in_nI (by omega) (by decide), nm_r (e' := upd a_text i (nI t)) (by rw [ei, et, nI_clamp (by omega)]) (good i t hi ht ei et)⟩
end
def ed_ins (a : Nat → Int32) (L at' : Nat) (t : Int32) : Nat → Int32 := fun k => if k = at' then t else if at' < k ∧ k ≤ L then a (k - 1) else a k
def ed_era (a : Nat → Int32) (L at' : Nat) : Nat → Int32 := fun k => if at' ≤ k ∧ k + 1 < L then a (k + 1) else a k
section
variable {g : gr_G} {f_chartReady f_countsReady f_distancesReady f_followsReady f_filled : Int32} {a_lefts a_rights a_ops a_constants a_text a_heights a_chosen a_firstEnds a_secondEnds a_order a_counts a_distances a_follows a_sizes : Nat → Int32} {a_values a_operands : Nat → Int64} {a_productive a_used : Nat → Int32}
theorem xs_insert {post : Int32 → SX → Prop} {p0 p1 : Int32} (W : gr_W g) (bad : (∀ i t, ¬ (i ≤ gr_L g ∧ t < 6 ∧ gr_L g < 10 ∧ p0 = nI i ∧ p1 = nI t)) → post 0 (nI (gr_P g), nI (gr_L g), f_chartReady, f_countsReady, f_distancesReady, f_followsReady, f_filled, a_lefts, a_rights, a_ops, a_constants, a_text, a_heights, a_chosen, a_firstEnds, a_secondEnds, a_order, a_counts, a_distances, a_follows, a_sizes, a_values, a_operands, a_productive, a_used)) (good : ∀ i t, i ≤ gr_L g → t < 6 → gr_L g < 10 → p0 = nI i → p1 = nI t → post 1 (nI (gr_P g), nI (gr_L g + 1), 0, 0, 0, 0, f_filled, a_lefts, a_rights, a_ops, a_constants, ed_ins a_text (gr_L g) i (nI t), a_heights, a_chosen, a_firstEnds, a_secondEnds, a_order, a_counts, a_distances, a_follows, a_sizes, a_values, a_operands, a_productive, a_used)) : wpX_insert post (nI (gr_P g), nI (gr_L g), f_chartReady, f_countsReady, f_distancesReady, f_followsReady, f_filled, a_lefts, a_rights, a_ops, a_constants, a_text, a_heights, a_chosen, a_firstEnds, a_secondEnds, a_order, a_counts, a_distances, a_follows, a_sizes, a_values, a_operands, a_productive, a_used) p0 p1 := by
  have hL := W.2.1
  unfold wpX_insert
  refine xs_isPl W (fun i hi ei => br_f (by decide) ?_) (fun h => br_t rfl (bad (fun i t q => h i q.1 q.2.2.2.1)))
  refine xs_isTm (fun t ht et => br_f (by decide) ?_) (fun h => br_t rfl (bad (fun i t q => h t q.2.1 q.2.2.2.2)))
  refine pk_lt (gr_L g) 10 (fun l => ?_) (fun l => bad (fun i t q => by omega))
  subst ei et
  have G := good i t hi ht l rfl rfl
  have K : ∀ d k, k = i + d → k ≤ gr_L g → ∀ (a : Nat → Int32), (∀ x, a x = if k < x ∧ x ≤ gr_L g then a_text (x - 1) else a_text x) → wX_insert_31 post (nI i) (nI t) (nI (gr_P g)) (nI (gr_L g)) f_chartReady f_countsReady f_distancesReady f_followsReady f_filled (d + 1) (nI k) a_lefts a_rights a_ops a_constants a a_heights a_chosen a_firstEnds a_secondEnds a_order a_counts a_distances a_follows a_sizes a_values a_operands a_productive a_used := by
    intro d
    induction d with
    | zero =>
      intro k hk hkL a ha
      refine br_t (nI_le (by omega) (by omega)) ⟨vp_in_nI (by omega) (by decide), nm_r (e' := ed_ins a_text (gr_L g) i (nI t)) ?_ (nm_r (nI_1 _) G)⟩
      rw [nI_clamp (by omega)]
      funext x
      unfold upd ed_ins
      rw [ha x]
      by_cases c : x = i
      · rw [if_pos c, if_pos c]
      · rw [if_neg c, if_neg c, show k = i by omega]
    | succ d ih =>
      intro k hk hkL a ha
      obtain ⟨q, rfl⟩ : ∃ q, k = q + 1 := ⟨k - 1, by omega⟩
      refine br_f (nI_ge (by omega) (by omega)) ⟨by rw [nI_pred]; exact vp_in_nI (by omega) (by decide), vp_in_nI (by omega) (by decide), nm_r (e' := upd a (q + 1) (a q)) (by rw [nI_pred, nI_clamp (by omega), nI_clamp (by omega)]) (nm_r (pk_m1 q) (ih q (by omega) (by omega) _ (fun x => ?_)))⟩
      unfold upd
      by_cases c : x = q + 1
      · rw [if_pos c, ha q, if_neg (by omega), if_pos (by omega), c]; rfl
      · rw [if_neg c, ha x]
        by_cases c2 : q + 1 < x ∧ x ≤ gr_L g
        · rw [if_pos c2, if_pos (by omega)]
        · rw [if_neg c2, if_neg (by omega)]
  refine ⟨gr_L g - i + 1, K (gr_L g - i) (gr_L g) (by omega) (by omega) _ (fun x => ?_)⟩
  rw [if_neg (by omega)]
theorem xs_erase {post : Int32 → SX → Prop} {p0 : Int32} (W : gr_W g) (bad : (∀ i, ¬ (i < gr_L g ∧ p0 = nI i)) → post 0 (nI (gr_P g), nI (gr_L g), f_chartReady, f_countsReady, f_distancesReady, f_followsReady, f_filled, a_lefts, a_rights, a_ops, a_constants, a_text, a_heights, a_chosen, a_firstEnds, a_secondEnds, a_order, a_counts, a_distances, a_follows, a_sizes, a_values, a_operands, a_productive, a_used)) (good : ∀ i l, i < gr_L g → gr_L g = l + 1 → p0 = nI i → post 1 (nI (gr_P g), nI l, 0, 0, 0, 0, f_filled, a_lefts, a_rights, a_ops, a_constants, ed_era a_text (gr_L g) i, a_heights, a_chosen, a_firstEnds, a_secondEnds, a_order, a_counts, a_distances, a_follows, a_sizes, a_values, a_operands, a_productive, a_used)) : wpX_erase post (nI (gr_P g), nI (gr_L g), f_chartReady, f_countsReady, f_distancesReady, f_followsReady, f_filled, a_lefts, a_rights, a_ops, a_constants, a_text, a_heights, a_chosen, a_firstEnds, a_secondEnds, a_order, a_counts, a_distances, a_follows, a_sizes, a_values, a_operands, a_productive, a_used) p0 := by
  have hL := W.2.1
  unfold wpX_erase
  refine xs_isTk W (fun i hi ei => br_f (by decide) ?_) (fun h => br_t rfl (bad (fun i q => h i q.1 q.2)))
  subst ei
  obtain ⟨l, el⟩ : ∃ l, gr_L g = l + 1 := ⟨gr_L g - 1, by omega⟩
  have G := good i l hi el rfl
  have K : ∀ d k, k + d = l → i ≤ k → ∀ (a : Nat → Int32), (∀ x, a x = if i ≤ x ∧ x < k then a_text (x + 1) else a_text x) → wX_erase_12 post (nI (gr_P g)) (nI (gr_L g)) f_chartReady f_countsReady f_distancesReady f_followsReady f_filled (d + 1) (nI k) a_lefts a_rights a_ops a_constants a a_heights a_chosen a_firstEnds a_secondEnds a_order a_counts a_distances a_follows a_sizes a_values a_operands a_productive a_used := by
    intro d
    induction d with
    | zero =>
      intro k hk hik a ha
      refine br_t (by rw [el, nI_pred]; exact nI_le (by omega) (by omega)) (nm_r (e' := nI l) (by rw [el, nI_pred]) ?_)
      have e : a = ed_era a_text (gr_L g) i := by
        funext x
        unfold ed_era
        rw [ha x]
        by_cases c : i ≤ x ∧ x < k
        · rw [if_pos c, if_pos (by omega)]
        · rw [if_neg c, if_neg (by omega)]
      rw [e]; exact G
    | succ d ih =>
      intro k hk hik a ha
      refine br_f (by rw [el, nI_pred]; exact nI_ge (by omega) (by omega)) ⟨by rw [nI_1]; exact vp_in_nI (by omega) (by decide), vp_in_nI (by omega) (by decide), nm_r (e' := upd a k (a (k + 1))) (by rw [nI_1, nI_clamp (by omega), nI_clamp (by omega)]) (nm_r (nI_1 k) (ih (k + 1) (by omega) (by omega) _ (fun x => ?_)))⟩
      unfold upd
      by_cases c : x = k
      · rw [if_pos c, ha (k + 1), if_neg (by omega), if_pos (by omega), c]
      · rw [if_neg c, ha x]
        by_cases c2 : i ≤ x ∧ x < k
        · rw [if_pos c2, if_pos (by omega)]
        · rw [if_neg c2, if_neg (by omega)]
  refine ⟨l - i + 1, K (l - i) i (by omega) (by omega) _ (fun x => ?_)⟩
  rw [if_neg (by omega)]
end
end
section
/-! how many trees: pure -/
def pu_cap (x : Nat) : Nat := if x < 1000000000 then x else 1000000000
theorem pu_cap_le (x : Nat) : pu_cap x ≤ 1000000000 := by unfold pu_cap; split <;> omega
theorem pu_cap_add (a b : Nat) : pu_cap (pu_cap a + b) = pu_cap (a + b) := by unfold pu_cap; (repeat' split) <;> omega
theorem pu_cap_add2 (a b : Nat) : pu_cap (pu_cap a + pu_cap b) = pu_cap (a + b) := by
  rw [pu_cap_add, Nat.add_comm, pu_cap_add, Nat.add_comm]
theorem pu_cap_pos {a : Nat} (h : 0 < a) : 0 < pu_cap a := by unfold pu_cap; split <;> omega
def pu_pt (f : pu_C) (s i j : Nat) : Nat := if 10 ≤ s ∧ s < 99 then f (s - 10) i j else 1
def pu_tm (g : gr_G) (f : pu_C) (p i u v j : Nat) : Nat := pu_cap (pu_cap (pu_pt f (gr_R g (3 * p)) i u * pu_pt f (gr_R g (3 * p + 1)) u v) * pu_pt f (gr_R g (3 * p + 2)) v j)
def pu_G (g : gr_G) (p i u v j : Nat) : Prop := pu_F g (pu_HH g) p i u v j 1000
noncomputable def pu_tF (g : gr_G) (f : pu_C) (p i u v j : Nat) : Nat := @ite _ (pu_G g p i u v j) (Classical.propDecidable _) (pu_tm g f p i u v j) 0
theorem pu_tF_t {g : gr_G} {f : pu_C} {p i u v j : Nat} (h : pu_G g p i u v j) : pu_tF g f p i u v j = pu_tm g f p i u v j := if_pos h
theorem pu_tF_f {g : gr_G} {f : pu_C} {p i u v j : Nat} (h : ¬ pu_G g p i u v j) : pu_tF g f p i u v j = 0 := if_neg h
noncomputable def pu_s1 (g : gr_G) (f : pu_C) (p i u j : Nat) : Nat → Nat := pu_sum (fun v => if u ≤ v then pu_tF g f p i u v j else 0)
noncomputable def pu_s2 (g : gr_G) (f : pu_C) (p i j : Nat) : Nat → Nat := pu_sum (fun u => if i ≤ u then pu_s1 g f p i u j (j + 1) else 0)
noncomputable def pu_s3 (g : gr_G) (f : pu_C) (n i j : Nat) : Nat → Nat := pu_sum (fun p => if gr_F g p = n then pu_s2 g f p i j (j + 1) else 0)
def pu_cd (S : Nat → Nat → Nat → Prop) (s i j : Nat) : Prop := 10 ≤ s ∧ s < 99 → S (s - 10) i j
def pu_c3 (g : gr_G) (S : Nat → Nat → Nat → Prop) (p i u v j : Nat) : Prop := pu_cd S (gr_R g (3 * p)) i u ∧ pu_cd S (gr_R g (3 * p + 1)) u v ∧ pu_cd S (gr_R g (3 * p + 2)) v j
def pu_al (g : gr_G) (S : Nat → Nat → Nat → Prop) (n i j : Nat) : Prop := ∀ p u v, p < gr_P g → gr_F g p = n → i ≤ u → u ≤ v → v ≤ j → pu_G g p i u v j → pu_c3 g S p i u v j
def pu_ps' (f : pu_C) : Nat → Nat → Nat → Prop := fun n i j => 0 < f n i j
def pu_ccl (g : gr_G) (S : Nat → Nat → Nat → Prop) : Prop := ∀ n i j, pu_V g n i j → 0 < pu_HH g n i j → pu_al g S n i j → S n i j
/-- what holds at any time -/
def pu_CI (g : gr_G) (f : pu_C) : Prop := (∀ n i j, pu_V g n i j → pu_HH g n i j = 0 → f n i j = 0) ∧ (∀ n i j, pu_V g n i j → 0 < f n i j → pu_al g (pu_ps' f) n i j ∧ f n i j = pu_cap (pu_s3 g f n i j (gr_P g))) ∧ (∀ S, pu_ccl g S → ∀ n i j, pu_V g n i j → 0 < f n i j → S n i j)
def pu_CS (g : gr_G) (f : pu_C) : Prop := pu_CI g f ∧ pu_ccl g (pu_ps' f)
theorem pu_sum_ge {f : Nat → Nat} {x : Nat} : ∀ {n : Nat}, x < n → f x ≤ pu_sum f n
  | 0, h => absurd h (Nat.not_lt_zero _)
  | n + 1, h => by
    unfold pu_sum
    by_cases c : x = n
    · rw [c]; omega
    · have := pu_sum_ge (f := f) (x := x) (n := n) (by omega); omega
section
variable {g : gr_G} {f f' : pu_C}
theorem pu_pt_pos {s i j : Nat} : 0 < pu_pt f s i j ↔ pu_cd (pu_ps' f) s i j := by
  unfold pu_pt pu_cd pu_ps'
  by_cases c : 10 ≤ s ∧ s < 99
  · rw [if_pos c]; exact ⟨fun h _ => h, fun h => h c⟩
  · rw [if_neg c]; exact ⟨fun h z => absurd z c, fun h => by omega⟩
theorem pu_tm_pos {p i u v j : Nat} (h : pu_c3 g (pu_ps' f) p i u v j) : 0 < pu_tm g f p i u v j :=
  pu_cap_pos (Nat.mul_pos (pu_cap_pos (Nat.mul_pos (pu_pt_pos.mpr h.1) (pu_pt_pos.mpr h.2.1))) (pu_pt_pos.mpr h.2.2))
theorem pu_s3_pos {n i j p u v : Nat} (hp : p < gr_P g) (hn : gr_F g p = n) (h1 : i ≤ u) (h2 : u ≤ v) (h3 : v ≤ j) (G : pu_G g p i u v j) (h : pu_c3 g (pu_ps' f) p i u v j) : 0 < pu_s3 g f n i j (gr_P g) := by
  have a1 : 0 < pu_s1 g f p i u j (j + 1) := by
    refine Nat.lt_of_lt_of_le ?_ (pu_sum_ge (x := v) (by omega))
    show 0 < if u ≤ v then pu_tF g f p i u v j else 0
    rw [if_pos h2, pu_tF_t G]; exact pu_tm_pos h
  have a2 : 0 < pu_s2 g f p i j (j + 1) := by
    refine Nat.lt_of_lt_of_le ?_ (pu_sum_ge (x := u) (by omega))
    show 0 < if i ≤ u then pu_s1 g f p i u j (j + 1) else 0
    rw [if_pos h1]; exact a1
  refine Nat.lt_of_lt_of_le ?_ (pu_sum_ge (x := p) hp)
  show 0 < if gr_F g p = n then pu_s2 g f p i j (j + 1) else 0
  rw [if_pos hn]; exact a2
def pu_ex (g : gr_G) (f f' : pu_C) : Prop := ∀ n i j, pu_V g n i j → 0 < f n i j → f' n i j = f n i j
theorem pu_cd_ex (E : pu_ex g f f') {s i j : Nat} (ok : pu_ok s) (hij : i ≤ j) (hj : j ≤ gr_L g) (h : pu_cd (pu_ps' f) s i j) : pu_cd (pu_ps' f') s i j ∧ pu_pt f' s i j = pu_pt f s i j := by
  by_cases c : 10 ≤ s ∧ s < 99
  · have := E _ _ _ (xb_ntV ok c hij hj) (h c)
    have h' : 0 < f (s - 10) i j := h c
    refine ⟨fun _ => ?_, ?_⟩
    · show 0 < f' (s - 10) i j
      omega
    · unfold pu_pt; rw [if_pos c, if_pos c]; exact this
  · exact ⟨fun z => absurd z c, by unfold pu_pt; rw [if_neg c, if_neg c]⟩
theorem pu_c3_ex (W : gr_W g) (E : pu_ex g f f') {p i u v j : Nat} (hp : p < gr_P g) (h1 : i ≤ u) (h2 : u ≤ v) (h3 : v ≤ j) (hj : j ≤ gr_L g) (h : pu_c3 g (pu_ps' f) p i u v j) : pu_c3 g (pu_ps' f') p i u v j ∧ pu_tm g f' p i u v j = pu_tm g f p i u v j := by
  have a := pu_cd_ex E (pu_okR0 W hp) h1 (by omega) h.1
  have b := pu_cd_ex E (pu_okR W hp (by decide)) h2 (by omega) h.2.1
  have c := pu_cd_ex E (pu_okR W hp (by decide)) h3 (by omega) h.2.2
  refine ⟨⟨a.1, b.1, c.1⟩, ?_⟩
  unfold pu_tm; rw [a.2, b.2, c.2]
theorem pu_al_ex (W : gr_W g) (E : pu_ex g f f') {n i j : Nat} (hj : j ≤ gr_L g) (h : pu_al g (pu_ps' f) n i j) : pu_al g (pu_ps' f') n i j ∧ pu_s3 g f' n i j (gr_P g) = pu_s3 g f n i j (gr_P g) := by
  refine ⟨fun p u v hp hn h1 h2 h3 G => (pu_c3_ex W E hp h1 h2 h3 hj (h p u v hp hn h1 h2 h3 G)).1, ?_⟩
  refine pu_sum_congr (fun p hp => ?_)
  by_cases hn : gr_F g p = n
  · rw [if_pos hn, if_pos hn]
    refine pu_sum_congr (fun u hu => ?_)
    by_cases h1 : i ≤ u
    · rw [if_pos h1, if_pos h1]
      refine pu_sum_congr (fun v hv => ?_)
      by_cases h2 : u ≤ v
      · rw [if_pos h2, if_pos h2]
        by_cases G : pu_G g p i u v j
        · rw [pu_tF_t G, pu_tF_t G]
          exact (pu_c3_ex W E hp h1 h2 (by omega) hj (h p u v hp hn h1 h2 (by omega) G)).2
        · rw [pu_tF_f G, pu_tF_f G]
      · rw [if_neg h2, if_neg h2]
    · rw [if_neg h1, if_neg h1]
  · rw [if_neg hn, if_neg hn]
theorem pu_CS_1 (W : gr_W g) (a : pu_CS g f) (b : pu_CS g f') {n i j : Nat} (hv : pu_V g n i j) (h : 0 < f n i j) : f n i j = f' n i j := by
  refine (a.1.2.2 (fun n i j => pu_V g n i j → (0 < f n i j ∧ f n i j = f' n i j)) ?_ n i j hv h hv).2
  intro n i j hv h0 al hv'
  have E : pu_ex g (fun n i j => if f n i j = f' n i j then f n i j else 0) f := by
    intro n i j _ h
    by_cases c : f n i j = f' n i j
    · exact (if_pos c).symm
    · have h2 : 0 < if f n i j = f' n i j then f n i j else 0 := h
      rw [if_neg c] at h2; omega
  have E' : pu_ex g (fun n i j => if f n i j = f' n i j then f n i j else 0) f' := by
    intro n i j _ h
    by_cases c : f n i j = f' n i j
    · exact (c.symm.trans (if_pos c).symm)
    · have h2 : 0 < if f n i j = f' n i j then f n i j else 0 := h
      rw [if_neg c] at h2; omega
  have al2 : pu_al g (pu_ps' (fun n i j => if f n i j = f' n i j then f n i j else 0)) n i j := by
    intro p u v hp hn h1 h2 h3 G
    have z := al p u v hp hn h1 h2 h3 G
    have hL := hv.2.2
    have Q : ∀ {s x y : Nat}, pu_ok s → x ≤ y → y ≤ gr_L g → pu_cd (fun n i j => pu_V g n i j → (0 < f n i j ∧ f n i j = f' n i j)) s x y → pu_cd (pu_ps' (fun n i j => if f n i j = f' n i j then f n i j else 0)) s x y := by
      intro s x y ok hxy hy d c
      have e := d c (xb_ntV ok c hxy hy)
      show 0 < if f (s - 10) x y = f' (s - 10) x y then f (s - 10) x y else 0
      rw [if_pos e.2]; exact e.1
    exact ⟨Q (pu_okR0 W hp) h1 (by omega) z.1, Q (pu_okR W hp (by decide)) h2 (by omega) z.2.1, Q (pu_okR W hp (by decide)) h3 (by omega) z.2.2⟩
  have q := pu_al_ex W E hv.2.2 al2
  have q' := pu_al_ex W E' hv.2.2 al2
  have p1 : 0 < f n i j := a.2 n i j hv h0 q.1
  have p2 : 0 < f' n i j := b.2 n i j hv h0 q'.1
  refine ⟨p1, ?_⟩
  rw [(a.1.2.1 n i j hv p1).2, (b.1.2.1 n i j hv p2).2, q.2, q'.2]
theorem pu_CS_eq (W : gr_W g) (a : pu_CS g f) (b : pu_CS g f') {n i j : Nat} (hv : pu_V g n i j) : f n i j = f' n i j := by
  by_cases h : 0 < f n i j
  · exact pu_CS_1 W a b hv h
  · by_cases h' : 0 < f' n i j
    · exact (pu_CS_1 W b a hv h').symm
    · omega
/-- one more cell is counted -/
theorem pu_CI_up (W : gr_W g) (I : pu_CI g f) {n i j : Nat} (hv : pu_V g n i j) (h0 : 0 < pu_HH g n i j) (f0 : f n i j = 0) (al : pu_al g (pu_ps' f) n i j) : pu_CI g (up3 f n i j (pu_cap (pu_s3 g f n i j (gr_P g)))) ∧ pu_ex g f (up3 f n i j (pu_cap (pu_s3 g f n i j (gr_P g)))) := by
  have E : pu_ex g f (up3 f n i j (pu_cap (pu_s3 g f n i j (gr_P g)))) := by
    intro a b c _ h
    exact up3_n (fun z => by obtain ⟨rfl, rfl, rfl⟩ := z; omega)
  refine ⟨⟨fun a b c hv' e => ?_, fun a b c hv' h => ?_, fun S cl a b c hv' h => ?_⟩, E⟩
  · rw [up3_n (fun z => by obtain ⟨rfl, rfl, rfl⟩ := z; omega)]; exact I.1 a b c hv' e
  · by_cases z : a = n ∧ b = i ∧ c = j
    · obtain ⟨rfl, rfl, rfl⟩ := z
      have q := pu_al_ex W E hv'.2.2 al
      rw [q.2]
      exact ⟨q.1, up3_s⟩
    · rw [up3_n z] at h
      have w := I.2.1 a b c hv' h
      have q := pu_al_ex W E hv'.2.2 w.1
      rw [q.2, up3_n z]
      exact ⟨q.1, w.2⟩
  · by_cases z : a = n ∧ b = i ∧ c = j
    · obtain ⟨rfl, rfl, rfl⟩ := z
      refine cl _ _ _ hv' h0 (fun p u v hp hn h1 h2 h3 G => ?_)
      have w := al p u v hp hn h1 h2 h3 G
      have hL := hv'.2.2
      have Q : ∀ {s x y : Nat}, pu_ok s → x ≤ y → y ≤ gr_L g → pu_cd (pu_ps' f) s x y → pu_cd S s x y := fun ok h1 h2 d cc => I.2.2 S cl _ _ _ (xb_ntV ok cc h1 h2) (d cc)
      exact ⟨Q (pu_okR0 W hp) h1 (by omega) w.1, Q (pu_okR W hp (by decide)) h2 (by omega) w.2.1, Q (pu_okR W hp (by decide)) h3 (by omega) w.2.2⟩
    · rw [up3_n z] at h
      exact I.2.2 S cl a b c hv' h
theorem pu_tree (W : gr_W g) (S : pu_HS g (pu_HH g)) {n i j : Nat} (hv : pu_V g n i j) (h0 : 0 < pu_HH g n i j) : ∃ p u v, p < gr_P g ∧ gr_F g p = n ∧ i ≤ u ∧ u ≤ v ∧ v ≤ j ∧ pu_G g p i u v j := by
  obtain ⟨h, e⟩ : ∃ h, pu_HH g n i j = h + 1 := ⟨pu_HH g n i j - 1, by omega⟩
  obtain ⟨_, p, u, v, hp, hn, a, b, c, F⟩ := ((S n i j hv).2.1 h e).1
  have := (S n i j hv).2.2
  exact ⟨p, u, v, hp, hn, a, b, c, pu_F_mono (by omega) F⟩
end
noncomputable def pu_CC (g : gr_G) : pu_C := Classical.epsilon (pu_CS g)
theorem pu_CC_s {g : gr_G} {f : pu_C} (S : pu_CS g f) : pu_CS g (pu_CC g) := Classical.epsilon_spec (p := pu_CS g) ⟨f, S⟩
theorem pu_CC_e {g : gr_G} {f : pu_C} (W : gr_W g) (S : pu_CS g f) {n i j : Nat} (hv : pu_V g n i j) : f n i j = pu_CC g n i j := pu_CS_eq W S (pu_CC_s S) hv
end
section
/-! the component: how many trees -/
def xc_v (h f : Nat) : Int32 := if h = 0 then 0 else if f = 0 then (-3) else nI f
def xm_c (g : gr_G) (a : Nat → Int32) (f : pu_C) : Prop := ∀ n i j, pu_V g n i j → a (cx n i j) = xc_v (pu_HH g n i j) (f n i j)
theorem xb_neg3 (n : Nat) (h : n < 2 ^ 31) : ¬ nI n = -3 := by
  intro e
  have := congrArg Int32.toInt e
  rw [nI_toInt h, show ((-3 : Int32)).toInt = -3 from by decide] at this
  omega
theorem xs_atMost {post : Int64 → Prop} {x : Nat} {x' : Int64} (e : x' = lN x) (hx : x < 2 ^ 63) (h : post (lN (pu_cap x))) : wpX_atMost post x' := by
  subst e
  refine ek_if (d := 1000000000 ≤ x) (pk_lLE (a := 1000000000) (by decide) hx) (fun c => ?_) (fun c => ?_)
  · have e : pu_cap x = 1000000000 := if_neg (by omega)
    rw [e] at h; exact h
  · have e : pu_cap x = x := if_pos (by omega)
    rw [e] at h; exact h
theorem pu_psH {g : gr_G} {s i j : Nat} (S : pu_HS g (pu_HH g)) (ok : pu_ok s) (c : 10 ≤ s ∧ s < 99) (hij : i ≤ j) (hj : j ≤ gr_L g) {h : Nat} (hh : 606 ≤ h) : pu_ps g (pu_HH g) s i j h ↔ 0 < pu_HH g (s - 10) i j := by
  rw [pu_ps_n c]
  have := (S _ _ _ (xb_ntV ok c hij hj)).2.2
  omega
section
variable {g : gr_G} {f_chartReady f_countsReady f_distancesReady f_followsReady f_filled : Int32} {a_lefts a_rights a_ops a_constants a_text a_heights a_chosen a_firstEnds a_secondEnds a_order a_counts a_distances a_follows a_sizes : Nat → Int32} {a_values a_operands : Nat → Int64} {a_productive a_used : Nat → Int32}
theorem xs_countPart {post : Int32 → Prop} {f : pu_C} {s i j : Nat} {s' i' j' : Int32} (es : s' = sy_m s) (ei : i' = nI i) (ej : j' = nI j) (ok : pu_ok s) (hij : i ≤ j) (hj : j ≤ gr_L g) (W : gr_W g) (tx : xm_T g a_text) (S : pu_HS g (pu_HH g)) (mc : xm_c g a_counts f) (hb : ∀ n i j, pu_V g n i j → f n i j ≤ 1000000000)
    (h0 : ¬ pu_ps g (pu_HH g) s i j 1000 → post 0) (h3 : pu_ps g (pu_HH g) s i j 1000 → pu_pt f s i j = 0 → post (-3)) (hp : pu_ps g (pu_HH g) s i j 1000 → 0 < pu_pt f s i j → pu_pt f s i j ≤ 1000000000 → post (nI (pu_pt f s i j))) : wpX_countPart post (nI (gr_P g), nI (gr_L g), f_chartReady, f_countsReady, f_distancesReady, f_followsReady, f_filled, a_lefts, a_rights, a_ops, a_constants, a_text, a_heights, a_chosen, a_firstEnds, a_secondEnds, a_order, a_counts, a_distances, a_follows, a_sizes, a_values, a_operands, a_productive, a_used) s' i' j' := by
  subst es ei ej
  refine ek_if (sy_lt ok) (fun c => ?_) (fun c => ?_)
  · have c' : ¬ (10 ≤ s ∧ s < 99) := by omega
    have e1 : pu_pt f s i j = 1 := if_neg c'
    refine xs_treeless (g := g) (H := pu_HH g) 1000 rfl rfl rfl ok c' hij hj W tx (fun t => br_f (by decide) ?_) (fun t => br_t rfl (h0 t))
    have := hp t (by omega) (by omega)
    rw [e1] at this; exact this
  · have c' : 10 ≤ s ∧ s < 99 := by unfold pu_ok at ok; omega
    have hv := xb_ntV ok c' hij hj
    have e1 : pu_pt f s i j = f (s - 10) i j := if_pos c'
    have hl := cx_lt W hv
    refine xb_cell (s - 10) i j (sy_nt c') rfl rfl ⟨vp_in_nI hl (by decide), ?_⟩
    rw [nI_clamp (by omega), mc _ _ _ hv]
    rw [e1] at h3 hp
    rw [pu_psH S ok c' hij hj (by decide)] at h0 h3 hp
    unfold xc_v
    by_cases z : pu_HH g (s - 10) i j = 0
    · rw [if_pos z]; exact h0 (by omega)
    · rw [if_neg z]
      by_cases y : f (s - 10) i j = 0
      · rw [if_pos y]; exact h3 (by omega) y
      · rw [if_neg y]; exact hp (by omega) (by omega) (hb _ _ _ hv)
theorem xs_cd45 {post : Int32 → Prop} {J17 : Int64 → Int32 → Prop} {f : pu_C} {p i j a Q : Nat} {x8 : Int32} (W : gr_W g) (hp : p < gr_P g) (hia : i ≤ a) (haj : a ≤ j) (hj : j ≤ gr_L g) (tx : xm_T g a_text) (mR : xm_R g a_rights) (S : pu_HS g (pu_HH g)) (mc : xm_c g a_counts f) (hb : ∀ n i j, pu_V g n i j → f n i j ≤ 1000000000)
    (t1 : pu_ps g (pu_HH g) (gr_R g (3 * p)) i a 1000) (e8 : (pu_pt f (gr_R g (3 * p)) i a = 0 ∧ x8 = -3) ∨ (0 < pu_pt f (gr_R g (3 * p)) i a ∧ pu_pt f (gr_R g (3 * p)) i a ≤ 1000000000 ∧ x8 = nI (pu_pt f (gr_R g (3 * p)) i a)))
    (hE : ∀ v, a ≤ v → v ≤ j → pu_G g p i a v j → ¬ pu_c3 g (pu_ps' f) p i a v j → post (-3))
    (hJ : (∀ v, a ≤ v → v ≤ j → pu_G g p i a v j → pu_c3 g (pu_ps' f) p i a v j) → J17 (lN (pu_cap (Q + pu_s1 g f p i a j (j + 1)))) (nI (a + 1))) :
    ∀ d b, b + d = j + 1 → a ≤ b → (∀ v, a ≤ v → v < b → pu_G g p i a v j → pu_c3 g (pu_ps' f) p i a v j) → wX_countDivisions_45 post J17 (nI p) (nI i) (nI j) (nI a) x8 (nI (gr_P g)) (nI (gr_L g)) f_chartReady f_countsReady f_distancesReady f_followsReady f_filled a_lefts a_rights a_ops a_constants a_text a_heights a_chosen a_firstEnds a_secondEnds a_order a_counts a_distances a_follows a_sizes a_values a_operands a_productive a_used (d + 1) (lN (pu_cap (Q + pu_s1 g f p i a j b))) (nI b) := by
  have hL := W.2.1
  have hP := W.1
  intro d
  induction d with
  | zero =>
    intro b hb1 hab hist
    have e : b = j + 1 := by omega
    subst e
    exact br_t (nI_lt (by omega) (by omega)) (nm_r (nI_1 a) (hJ (fun v h1 h2 => hist v h1 (by omega))))
  | succ d ih =>
    intro b hb1 hab hist
    have x0 : ¬ x8 = 0 := by
      obtain ⟨_, rfl⟩ | ⟨h1, h2, rfl⟩ := e8
      · decide
      · exact nI_ne0 h1 (by omega)
    have sb : pu_s1 g f p i a j (b + 1) = pu_s1 g f p i a j b + pu_tF g f p i a b j := by
      show pu_s1 g f p i a j b + (if a ≤ b then pu_tF g f p i a b j else 0) = _
      rw [if_pos hab]
    have skip : ¬ pu_G g p i a b j → wX_countDivisions_45 post J17 (nI p) (nI i) (nI j) (nI a) x8 (nI (gr_P g)) (nI (gr_L g)) f_chartReady f_countsReady f_distancesReady f_followsReady f_filled a_lefts a_rights a_ops a_constants a_text a_heights a_chosen a_firstEnds a_secondEnds a_order a_counts a_distances a_follows a_sizes a_values a_operands a_productive a_used (d + 1) (lN (pu_cap (Q + pu_s1 g f p i a j b))) (nI (b + 1)) := by
      intro hG
      have := ih (b + 1) (by omega) (by omega) (fun v h1 h2 G => by
        by_cases c : v = b
        · rw [c] at G; exact absurd G hG
        · exact hist v h1 (by omega) G)
      rw [sb, pu_tF_f hG] at this
      exact this
    refine br_f (nI_nlt (by omega) (by omega)) (br_f x0 ⟨xb_i1 (by omega), ?_⟩)
    refine xs_countPart (g := g) (f := f) (xm_R1 W mR hp) rfl rfl (pu_okR W hp (by decide)) (by omega) (by omega) W tx S mc hb (fun n2 => ⟨xb_i2 (by omega), ?_⟩) (fun t2 z2 => ⟨xb_i2 (by omega), ?_⟩) (fun t2 z2 w2 => ⟨xb_i2 (by omega), ?_⟩)
    · have sk := skip (fun G => n2 G.2.1)
      exact xs_countPart (g := g) (f := f) (xm_R2 W mR hp) rfl rfl (pu_okR W hp (by decide)) (by omega) (by omega) W tx S mc hb (fun n3 => br_t rfl (nm_r (nI_1 b) sk)) (fun t3 z3 => br_t rfl (nm_r (nI_1 b) sk)) (fun t3 z3 w3 => br_t rfl (nm_r (nI_1 b) sk))
    · refine xs_countPart (g := g) (f := f) (xm_R2 W mR hp) rfl rfl (pu_okR W hp (by decide)) (by omega) (by omega) W tx S mc hb (fun n3 => br_f (by decide) (br_t rfl (nm_r (nI_1 b) (skip (fun G => n3 G.2.2))))) (fun t3 z3 => br_f (by decide) (br_f (by decide) ?_)) (fun t3 z3 w3 => br_f (by decide) (br_f (nI_ne0 z3 (by omega)) ?_))
      · have hh := hE b hab (by omega) ⟨t1, t2, t3⟩ (fun z => by have := pu_pt_pos.mpr z.2.1; omega)
        exact br_c (fun _ => hh) (fun _ => br_t rfl hh)
      · have hh := hE b hab (by omega) ⟨t1, t2, t3⟩ (fun z => by have := pu_pt_pos.mpr z.2.1; omega)
        exact br_c (fun _ => hh) (fun _ => br_t rfl hh)
    · refine xs_countPart (g := g) (f := f) (xm_R2 W mR hp) rfl rfl (pu_okR W hp (by decide)) (by omega) (by omega) W tx S mc hb (fun n3 => br_f (nI_ne0 z2 (by omega)) (br_t rfl (nm_r (nI_1 b) (skip (fun G => n3 G.2.2))))) (fun t3 z3 => br_f (nI_ne0 z2 (by omega)) (br_f (by decide) ?_)) (fun t3 z3 w3 => br_f (nI_ne0 z2 (by omega)) (br_f (nI_ne0 z3 (by omega)) ?_))
      · have hh := hE b hab (by omega) ⟨t1, t2, t3⟩ (fun z => by have := pu_pt_pos.mpr z.2.2; omega)
        exact br_c (fun _ => hh) (fun _ => br_c (fun _ => hh) (fun _ => br_t rfl hh))
      · obtain ⟨z1, rfl⟩ | ⟨z1, w1, rfl⟩ := e8
        · exact br_t rfl (hE b hab (by omega) ⟨t1, t2, t3⟩ (fun z => by have := pu_pt_pos.mpr z.1; omega))
        · have c3 : pu_c3 g (pu_ps' f) p i a b j := ⟨pu_pt_pos.mp z1, pu_pt_pos.mp z2, pu_pt_pos.mp z3⟩
          have G : pu_G g p i a b j := ⟨t1, t2, t3⟩
          refine br_f (xb_neg3 _ (by omega)) (br_f (xb_neg3 _ (by omega)) (br_f (xb_neg3 _ (by omega)) ?_))
          have m1 : pu_pt f (gr_R g (3 * p)) i a * pu_pt f (gr_R g (3 * p + 1)) a b ≤ 1000000000 * 1000000000 := Nat.mul_le_mul w1 w2
          have k1 := pu_cap_le (pu_pt f (gr_R g (3 * p)) i a * pu_pt f (gr_R g (3 * p + 1)) a b)
          have m2 : pu_cap (pu_pt f (gr_R g (3 * p)) i a * pu_pt f (gr_R g (3 * p + 1)) a b) * pu_pt f (gr_R g (3 * p + 2)) b j ≤ 1000000000 * 1000000000 := Nat.mul_le_mul k1 w3
          have k2 := pu_cap_le (Q + pu_s1 g f p i a j b)
          have k3 := pu_cap_le (pu_cap (pu_pt f (gr_R g (3 * p)) i a * pu_pt f (gr_R g (3 * p + 1)) a b) * pu_pt f (gr_R g (3 * p + 2)) b j)
          refine xs_atMost (x := pu_pt f (gr_R g (3 * p)) i a * pu_pt f (gr_R g (3 * p + 1)) a b) (by rw [nI_l (by omega), nI_l (by omega), lN_mul]) (by omega) ?_
          refine xs_atMost (x := pu_cap (pu_pt f (gr_R g (3 * p)) i a * pu_pt f (gr_R g (3 * p + 1)) a b) * pu_pt f (gr_R g (3 * p + 2)) b j) (by rw [nI_l (by omega), lN_mul]) (by omega) ?_
          refine xs_atMost (x := pu_cap (Q + pu_s1 g f p i a j b) + pu_tm g f p i a b j) (by rw [lN_add]; rfl) (by unfold pu_tm; omega) (nm_r (nI_1 b) ?_)
          rw [pu_cap_add, Nat.add_assoc]
          have := ih (b + 1) (by omega) (by omega) (fun v h1 h2 G' => by
            by_cases c : v = b
            · rw [c]; exact c3
            · exact hist v h1 (by omega) G')
          rw [sb, pu_tF_t G] at this
          exact this
end
end
section
/-! the component: how many trees, the rounds -/
theorem xb_up {a : Nat → Int32} {k : Nat} {x : Int32} (h : a k = x) : upd a k x = a := by
  funext j
  unfold upd
  by_cases c : j = k
  · rw [if_pos c, c, h]
  · rw [if_neg c]
theorem xs_beginOf {post : Int32 → Prop} {n i j : Nat} (hn : n < 5) (hi : i ≤ 10) (hj : j ≤ 10) (h : post (nI i)) : wpX_beginOf post (nI (cx n i j)) := by
  have e : nI (cx n i j) / 11 = nI (11 * n + i) := by
    rw [show (11 : Int32) = nI 11 from rfl, pk_div (by unfold cx; omega) (by decide) (by decide)]
    exact congrArg nI (by unfold cx; omega)
  refine ⟨by decide, by decide, ?_⟩
  rw [e, show (11 : Int32) = nI 11 from rfl, pk_rem (by omega) (by decide) (by decide), show (11 * n + i) % 11 = i by omega]
  exact h
theorem xs_endOf {post : Int32 → Prop} {n i j : Nat} (hn : n < 5) (hi : i ≤ 10) (hj : j ≤ 10) (h : post (nI j)) : wpX_endOf post (nI (cx n i j)) := by
  refine ⟨by decide, ?_⟩
  rw [show (11 : Int32) = nI 11 from rfl, pk_rem (by unfold cx; omega) (by decide) (by decide), show cx n i j % 11 = j by unfold cx; omega]
  exact h
theorem xb_121 {n i j : Nat} (hn : n < 5) (hi : i ≤ 10) (hj : j ≤ 10) : 10 + nI (cx n i j) / 121 = nI (10 + n) := by
  rw [show (121 : Int32) = nI 121 from rfl, pk_div (by unfold cx; omega) (by decide) (by decide), show cx n i j / 121 = n by unfold cx; omega]
  exact nI_add 10 n
theorem pu_CI_le {g : gr_G} {f : pu_C} (I : pu_CI g f) {n i j : Nat} (hv : pu_V g n i j) : f n i j ≤ 1000000000 := by
  by_cases h : 0 < f n i j
  · rw [(I.2.1 n i j hv h).2]; exact pu_cap_le _
  · omega
theorem pu_s1_0 {g : gr_G} {f : pu_C} {p i u j : Nat} : pu_s1 g f p i u j u = 0 := pu_sum_zero (fun v hv => if_neg (by omega))
theorem pu_s2_0 {g : gr_G} {f : pu_C} {p i j : Nat} : pu_s2 g f p i j i = 0 := pu_sum_zero (fun v hv => if_neg (by omega))
theorem pu_s2_s {g : gr_G} {f : pu_C} {p i j u : Nat} (h : i ≤ u) : pu_s2 g f p i j (u + 1) = pu_s2 g f p i j u + pu_s1 g f p i u j (j + 1) := by
  show pu_s2 g f p i j u + (if i ≤ u then pu_s1 g f p i u j (j + 1) else 0) = _
  rw [if_pos h]
theorem pu_s3_s {g : gr_G} {f : pu_C} {n i j p : Nat} (h : gr_F g p = n) : pu_s3 g f n i j (p + 1) = pu_s3 g f n i j p + pu_s2 g f p i j (j + 1) := by
  show pu_s3 g f n i j p + (if gr_F g p = n then pu_s2 g f p i j (j + 1) else 0) = _
  rw [if_pos h]
theorem pu_s3_n {g : gr_G} {f : pu_C} {n i j p : Nat} (h : ¬ gr_F g p = n) : pu_s3 g f n i j (p + 1) = pu_s3 g f n i j p := by
  show pu_s3 g f n i j p + (if gr_F g p = n then pu_s2 g f p i j (j + 1) else 0) = _
  rw [if_neg h]; rfl
section
variable {g : gr_G} {f_chartReady f_countsReady f_distancesReady f_followsReady f_filled : Int32} {a_lefts a_rights a_ops a_constants a_text a_heights a_chosen a_firstEnds a_secondEnds a_order a_counts a_distances a_follows a_sizes : Nat → Int32} {a_values a_operands : Nat → Int64} {a_productive a_used : Nat → Int32}
theorem xs_countDiv {post : Int32 → Prop} {f : pu_C} {p n i j : Nat} (W : gr_W g) (hp : p < gr_P g) (hv : pu_V g n i j) (tx : xm_T g a_text) (mR : xm_R g a_rights) (S : pu_HS g (pu_HH g)) (mc : xm_c g a_counts f) (hb : ∀ n i j, pu_V g n i j → f n i j ≤ 1000000000)
    (hE : ∀ u v, i ≤ u → u ≤ v → v ≤ j → pu_G g p i u v j → ¬ pu_c3 g (pu_ps' f) p i u v j → post (-3))
    (hV : (∀ u v, i ≤ u → u ≤ v → v ≤ j → pu_G g p i u v j → pu_c3 g (pu_ps' f) p i u v j) → post (nI (pu_cap (pu_s2 g f p i j (j + 1))))) : wpX_countDivisions post (nI (gr_P g), nI (gr_L g), f_chartReady, f_countsReady, f_distancesReady, f_followsReady, f_filled, a_lefts, a_rights, a_ops, a_constants, a_text, a_heights, a_chosen, a_firstEnds, a_secondEnds, a_order, a_counts, a_distances, a_follows, a_sizes, a_values, a_operands, a_productive, a_used) (nI p) (nI (cx n i j)) := by
  have hL := W.2.1
  have hP := W.1
  obtain ⟨hn, hij, hj⟩ := hv
  have K17 : ∀ d a, a + d = j + 1 → i ≤ a → (∀ u v, i ≤ u → u < a → u ≤ v → v ≤ j → pu_G g p i u v j → pu_c3 g (pu_ps' f) p i u v j) → wX_countDivisions_17 post (nI p) (nI i) (nI j) (nI (gr_P g)) (nI (gr_L g)) f_chartReady f_countsReady f_distancesReady f_followsReady f_filled a_lefts a_rights a_ops a_constants a_text a_heights a_chosen a_firstEnds a_secondEnds a_order a_counts a_distances a_follows a_sizes a_values a_operands a_productive a_used (d + 1) (lN (pu_cap (pu_s2 g f p i j a))) (nI a) := by
    intro d
    induction d with
    | zero =>
      intro a ha hia hist
      have e : a = j + 1 := by omega
      subst e
      refine br_t (nI_lt (by omega) (by omega)) ?_
      rw [lN_i]
      exact hV (fun u v h1 h2 h3 => hist u v h1 (by omega) h2 h3)
    | succ d ih =>
      intro a ha hia hist
      refine br_f (nI_nlt (by omega) (by omega)) ⟨xb_i0 (by omega), ?_⟩
      have go : pu_ps g (pu_HH g) (gr_R g (3 * p)) i a 1000 → ∀ x8 : Int32, ((pu_pt f (gr_R g (3 * p)) i a = 0 ∧ x8 = -3) ∨ (0 < pu_pt f (gr_R g (3 * p)) i a ∧ pu_pt f (gr_R g (3 * p)) i a ≤ 1000000000 ∧ x8 = nI (pu_pt f (gr_R g (3 * p)) i a))) → ∃ n45, wX_countDivisions_45 post (wX_countDivisions_17 post (nI p) (nI i) (nI j) (nI (gr_P g)) (nI (gr_L g)) f_chartReady f_countsReady f_distancesReady f_followsReady f_filled a_lefts a_rights a_ops a_constants a_text a_heights a_chosen a_firstEnds a_secondEnds a_order a_counts a_distances a_follows a_sizes a_values a_operands a_productive a_used (d + 1)) (nI p) (nI i) (nI j) (nI a) x8 (nI (gr_P g)) (nI (gr_L g)) f_chartReady f_countsReady f_distancesReady f_followsReady f_filled a_lefts a_rights a_ops a_constants a_text a_heights a_chosen a_firstEnds a_secondEnds a_order a_counts a_distances a_follows a_sizes a_values a_operands a_productive a_used n45 (lN (pu_cap (pu_s2 g f p i j a))) (nI a) := by
        intro t1 x8 e8
        have Z := xs_cd45 (g := g) (f_chartReady := f_chartReady) (f_countsReady := f_countsReady) (f_distancesReady := f_distancesReady) (f_followsReady := f_followsReady) (f_filled := f_filled) (a_lefts := a_lefts) (a_ops := a_ops) (a_constants := a_constants) (a_heights := a_heights) (a_chosen := a_chosen) (a_firstEnds := a_firstEnds) (a_secondEnds := a_secondEnds) (a_order := a_order) (a_distances := a_distances) (a_follows := a_follows) (a_sizes := a_sizes) (a_values := a_values) (a_operands := a_operands) (a_productive := a_productive) (a_used := a_used) (post := post) (J17 := wX_countDivisions_17 post (nI p) (nI i) (nI j) (nI (gr_P g)) (nI (gr_L g)) f_chartReady f_countsReady f_distancesReady f_followsReady f_filled a_lefts a_rights a_ops a_constants a_text a_heights a_chosen a_firstEnds a_secondEnds a_order a_counts a_distances a_follows a_sizes a_values a_operands a_productive a_used (d + 1)) (Q := pu_s2 g f p i j a) W hp hia (show a ≤ j by omega) hj tx mR S mc hb t1 e8 (fun v h1 h2 => hE a v hia h1 h2) (fun al => by
          have := ih (a + 1) (by omega) (by omega) (fun u v h1 h2 h3 h4 G => by
            by_cases c : u = a
            · rw [c]; rw [c] at G h3; exact al v h3 h4 G
            · exact hist u v h1 (by omega) h3 h4 G)
          rw [pu_s2_s hia] at this
          exact this) (j + 1 - a) a (by omega) (Nat.le_refl _) (fun v h1 h2 => by omega)
        rw [pu_s1_0, Nat.add_zero] at Z
        exact ⟨_, Z⟩
      refine xs_countPart (g := g) (f := f) (xm_R0 W mR hp) rfl rfl (pu_okR0 W hp) hia (by omega) W tx S mc hb (fun n1 => ⟨1, ?_⟩) (fun t1 z1 => go t1 (-3) (Or.inl ⟨z1, rfl⟩)) (fun t1 z1 w1 => go t1 _ (Or.inr ⟨z1, w1, rfl⟩))
      refine br_f (nI_nlt (by omega) (by omega)) (br_t rfl (nm_r (nI_1 a) ?_))
      have := ih (a + 1) (by omega) (by omega) (fun u v h1 h2 h3 h4 G => by
        by_cases c : u = a
        · rw [c] at G; exact absurd G.1 n1
        · exact hist u v h1 (by omega) h3 h4 G)
      rw [pu_s2_s hia, show pu_s1 g f p i a j (j + 1) = 0 from pu_sum_zero (fun v _ => by rw [pu_tF_f (fun G => n1 G.1)]; exact ite_self 0)] at this
      exact this
  unfold wpX_countDivisions
  refine xs_beginOf hn (by omega) (by omega) (xs_endOf hn (by omega) (by omega) ⟨j + 1 - i + 1, ?_⟩)
  have Z := K17 (j + 1 - i) i (by omega) (Nat.le_refl _) (fun u v h1 h2 => by omega)
  rw [pu_s2_0] at Z
  exact Z
theorem xs_countCell {post : Int32 → Prop} {f : pu_C} {n i j : Nat} (W : gr_W g) (hv : pu_V g n i j) (tx : xm_T g a_text) (mR : xm_R g a_rights) (mF : xm_F g a_lefts) (S : pu_HS g (pu_HH g)) (mc : xm_c g a_counts f) (hb : ∀ n i j, pu_V g n i j → f n i j ≤ 1000000000)
    (hE : ¬ pu_al g (pu_ps' f) n i j → post (-3)) (hV : pu_al g (pu_ps' f) n i j → post (nI (pu_cap (pu_s3 g f n i j (gr_P g))))) : wpX_countCell post (nI (gr_P g), nI (gr_L g), f_chartReady, f_countsReady, f_distancesReady, f_followsReady, f_filled, a_lefts, a_rights, a_ops, a_constants, a_text, a_heights, a_chosen, a_firstEnds, a_secondEnds, a_order, a_counts, a_distances, a_follows, a_sizes, a_values, a_operands, a_productive, a_used) (nI (cx n i j)) := by
  have hL := W.2.1
  have hP := W.1
  have hv' := hv
  obtain ⟨hn, hij, hj⟩ := hv
  have K5 : ∀ d p, p + d = gr_P g → (∀ q u v, q < p → gr_F g q = n → i ≤ u → u ≤ v → v ≤ j → pu_G g q i u v j → pu_c3 g (pu_ps' f) q i u v j) → wX_countCell_5 post (nI (cx n i j)) (nI (gr_P g)) (nI (gr_L g)) f_chartReady f_countsReady f_distancesReady f_followsReady f_filled a_lefts a_rights a_ops a_constants a_text a_heights a_chosen a_firstEnds a_secondEnds a_order a_counts a_distances a_follows a_sizes a_values a_operands a_productive a_used (d + 1) (lN (pu_cap (pu_s3 g f n i j p))) (nI p) := by
    intro d
    induction d with
    | zero =>
      intro p hp hist
      have e : p = gr_P g := by omega
      subst e
      refine br_t (nI_le (Nat.le_refl _) (by omega)) ?_
      rw [lN_i]
      exact hV hist
    | succ d ih =>
      intro p hp hist
      refine br_f (nI_ge (by omega) (by omega)) ⟨vp_in_nI (by omega) (by decide), by decide, ?_⟩
      have hF := W.2.2.1 p (by omega)
      refine ek_if (d := gr_F g p = n) (by rw [xm_Fp W mF (by omega), xb_121 hn (by omega) (by omega), nI_eq (by omega) (by omega)]; omega) (fun c => ?_) (fun c => ?_)
      · refine xs_countDiv (g := g) (f := f) W (by omega) hv' tx mR S mc hb (fun u v h1 h2 h3 G z => br_t rfl (hE (fun al => z (al p u v (by omega) c h1 h2 h3 G)))) (fun al => br_f (xb_neg3 _ (by have := pu_cap_le (pu_s2 g f p i j (j + 1)); omega)) ?_)
        have k1 := pu_cap_le (pu_s3 g f n i j p)
        have k2 := pu_cap_le (pu_s2 g f p i j (j + 1))
        refine xs_atMost (x := pu_cap (pu_s3 g f n i j p) + pu_cap (pu_s2 g f p i j (j + 1))) (by rw [nI_l (by omega), lN_add]) (by omega) (nm_r (nI_1 p) ?_)
        have Z := ih (p + 1) (by omega) (fun q u v hq h0 h1 h2 h3 G => by
          by_cases cc : q = p
          · rw [cc]; rw [cc] at G; exact al u v h1 h2 h3 G
          · exact hist q u v (by omega) h0 h1 h2 h3 G)
        rw [pu_s3_s c] at Z
        rw [pu_cap_add2]
        exact Z
      · refine nm_r (nI_1 p) ?_
        have Z := ih (p + 1) (by omega) (fun q u v hq h0 h1 h2 h3 G => by
          by_cases cc : q = p
          · rw [cc] at h0; exact absurd h0 c
          · exact hist q u v (by omega) h0 h1 h2 h3 G)
        rw [pu_s3_n c] at Z
        exact Z
  exact ⟨gr_P g + 1, K5 (gr_P g) 0 (by omega) (fun q u v hq => by omega)⟩
end
end
section
/-! the component: how many trees, until nothing changes -/
def xm_Cts (g : gr_G) (cts : Nat → Int32) : Prop := pu_CS g (pu_CC g) ∧ xm_c g cts (pu_CC g)
def xc_mu (cts : Nat → Int32) : Nat := pu_cnt (fun x => decide (cts x = -3)) 605
theorem xm_c_up {g : gr_G} {cts : Nat → Int32} {f : pu_C} (W : gr_W g) (mc : xm_c g cts f) {n i j v : Nat} (hv : pu_V g n i j) (h0 : 0 < pu_HH g n i j) (hp : 0 < v) : xm_c g (upd cts (cx n i j) (nI v)) (up3 f n i j v) := by
  intro a b c hv'
  by_cases z : a = n ∧ b = i ∧ c = j
  · obtain ⟨rfl, rfl, rfl⟩ := z
    rw [pk_us, up3_s]; unfold xc_v; rw [if_neg (by omega), if_neg (by omega)]
  · rw [up3_n z, pk_un (fun e => z (cx_inj W hv' hv (congrArg nI e)))]
    exact mc a b c hv'
/-- the pass over the filled cells, at k -/
def xc_P (g : gr_G) (ord : Nat → Int32) (m0 k : Nat) (x1 : Int32) (cts : Nat → Int32) : Prop := ∃ f, pu_CI g f ∧ xm_c g cts f ∧ ((x1 = 0 ∧ xc_mu cts ≤ m0 ∧ ∀ k', k' < k → ∀ n i j, pu_V g n i j → ord k' = nI (cx n i j) → f n i j = 0 → ¬ pu_al g (pu_ps' f) n i j) ∨ (x1 = 1 ∧ xc_mu cts < m0))
section
variable {g : gr_G} {f_chartReady f_countsReady f_distancesReady f_followsReady f_filled : Int32} {a_lefts a_rights a_ops a_constants a_text a_heights a_chosen a_firstEnds a_secondEnds a_order a_counts a_distances a_follows a_sizes : Nat → Int32} {a_values a_operands : Nat → Int64} {a_productive a_used : Nat → Int32}
theorem xs_nc63 {post : SX → Prop} {J48 : Int32 → Int32 → (Nat → Int32) → (Nat → Int32) → (Nat → Int32) → (Nat → Int32) → (Nat → Int32) → (Nat → Int32) → (Nat → Int32) → (Nat → Int32) → (Nat → Int32) → (Nat → Int32) → (Nat → Int32) → (Nat → Int32) → (Nat → Int32) → (Nat → Int32) → (Nat → Int64) → (Nat → Int64) → (Nat → Int32) → (Nat → Int32) → Prop} {m0 r fl : Nat} (W : gr_W g) (tx : xm_T g a_text) (mR : xm_R g a_rights) (mF : xm_F g a_lefts) (C : xm_Chart g a_heights a_chosen a_firstEnds a_secondEnds a_order fl)
    (hJ : ∀ (x1 : Int32) (a_counts : Nat → Int32), xc_P g a_order m0 fl x1 a_counts → J48 x1 (nI (r + 1)) a_lefts a_rights a_ops a_constants a_text a_heights a_chosen a_firstEnds a_secondEnds a_order a_counts a_distances a_follows a_sizes a_values a_operands a_productive a_used) :
    ∀ d k, k + d = fl → ∀ (x1 : Int32) (a_counts : Nat → Int32), xc_P g a_order m0 k x1 a_counts → wX_needCounts_63 post J48 (nI r) (nI (gr_P g)) (nI (gr_L g)) f_chartReady f_countsReady f_distancesReady f_followsReady (nI fl) (d + 1) x1 (nI k) a_lefts a_rights a_ops a_constants a_text a_heights a_chosen a_firstEnds a_secondEnds a_order a_counts a_distances a_follows a_sizes a_values a_operands a_productive a_used := by
  have hL := W.2.1
  obtain ⟨S, K⟩ := C
  have hfl : fl ≤ 605 := by rw [K.2.1]; exact pu_cnt_le _ _
  intro d
  induction d with
  | zero =>
    intro k hk x1 a_counts I
    have e : k = fl := by omega
    subst e
    exact br_t (nI_le (Nat.le_refl _) (by omega)) (nm_r (nI_1 r) (hJ x1 a_counts I))
  | succ d ih =>
    intro k hk x1 a_counts I
    obtain ⟨n, i, j, hv, eo, h0⟩ := K.2.2.2.1 k (by omega)
    have hl := cx_lt W hv
    have hin : vp_in (nI (cx n i j)) 605 := vp_in_nI hl (by decide)
    have ec : (nI (cx n i j)).toNatClampNeg = cx n i j := nI_clamp (by omega)
    refine br_f (nI_ge (by omega) (by omega)) ⟨vp_in_nI (by omega) (by decide), nm_r (e' := nI (cx n i j)) (by rw [nI_clamp (by omega)]; exact eo) ⟨hin, ?_⟩⟩
    obtain ⟨f, CI, mc, fl1⟩ := I
    have cv := mc n i j hv
    by_cases f0 : f n i j = 0
    · have cv3 : a_counts (cx n i j) = -3 := by rw [cv]; unfold xc_v; rw [if_neg (by omega), if_pos f0]
      refine br_t (by rw [ec]; exact cv3) ?_
      refine xs_countCell (g := g) (f := f) W hv tx mR mF S mc (fun _ _ _ h => pu_CI_le CI h) (fun na => ⟨hin, nm_r (e' := a_counts) (by rw [ec]; exact xb_up cv3) ?_⟩) (fun al => ?_)
      · obtain ⟨rfl, mu, hi⟩ | ⟨rfl, mu⟩ := fl1
        · refine br_t rfl ⟨hin, br_t (by rw [ec]; exact cv3) (nm_r (nI_1 k) (ih (k + 1) (by omega) 0 a_counts ⟨f, CI, mc, Or.inl ⟨rfl, mu, fun k' hk' n' i' j' hv' e' => ?_⟩⟩))⟩
          by_cases c : k' = k
          · rw [c, eo] at e'
            obtain ⟨rfl, rfl, rfl⟩ := cx_inj W hv hv' e'
            exact fun _ => na
          · exact hi k' (by omega) n' i' j' hv' e'
        · exact br_f (by decide) (nm_r (nI_1 k) (ih (k + 1) (by omega) 1 a_counts ⟨f, CI, mc, Or.inr ⟨rfl, mu⟩⟩))
      · obtain ⟨p, u, v, hp, hn, h1, h2, h3, G⟩ := pu_tree W S hv h0
        have pos : 0 < pu_cap (pu_s3 g f n i j (gr_P g)) := pu_cap_pos (pu_s3_pos hp hn h1 h2 h3 G (al p u v hp hn h1 h2 h3 G))
        have cl := pu_cap_le (pu_s3 g f n i j (gr_P g))
        have n3 := xb_neg3 (pu_cap (pu_s3 g f n i j (gr_P g))) (by omega)
        have CI' := (pu_CI_up W CI hv h0 f0 al).1
        have mc' := xm_c_up W mc hv h0 pos
        have mu' : xc_mu (upd a_counts (cx n i j) (nI (pu_cap (pu_s3 g f n i j (gr_P g))))) < xc_mu a_counts := by
          refine pu_cnt_lt (x0 := cx n i j) (by rw [pk_us]; exact decide_eq_false n3) (by rw [cv3]; rfl) (fun x _ hx => ?_) hl
          by_cases c : x = cx n i j
          · rw [c, cv3]; rfl
          · rw [pk_un c] at hx; exact hx
        have st : wX_needCounts_63 post J48 (nI r) (nI (gr_P g)) (nI (gr_L g)) f_chartReady f_countsReady f_distancesReady f_followsReady (nI fl) (d + 1) 1 (nI (k + 1)) a_lefts a_rights a_ops a_constants a_text a_heights a_chosen a_firstEnds a_secondEnds a_order (upd a_counts (cx n i j) (nI (pu_cap (pu_s3 g f n i j (gr_P g))))) a_distances a_follows a_sizes a_values a_operands a_productive a_used := ih (k + 1) (by omega) 1 _ ⟨_, CI', mc', Or.inr ⟨rfl, by obtain ⟨_, mu, _⟩ | ⟨_, mu⟩ := fl1 <;> omega⟩⟩
        refine ⟨hin, nm_r (e' := upd a_counts (cx n i j) (nI (pu_cap (pu_s3 g f n i j (gr_P g))))) (by rw [ec]) (br_c (fun _ => ⟨hin, br_f (by rw [ec, pk_us]; exact n3) (nm_r (nI_1 k) st)⟩) (fun _ => nm_r (nI_1 k) st))⟩
    · have cvn : a_counts (cx n i j) = nI (f n i j) := by rw [cv]; unfold xc_v; rw [if_neg (by omega), if_neg f0]
      refine br_f (by rw [ec, cvn]; exact xb_neg3 _ (by have := pu_CI_le CI hv; omega)) (nm_r (nI_1 k) (ih (k + 1) (by omega) x1 a_counts ⟨f, CI, mc, ?_⟩))
      obtain ⟨rfl, mu, hi⟩ | q := fl1
      · refine Or.inl ⟨rfl, mu, fun k' hk' n' i' j' hv' e' => ?_⟩
        by_cases c : k' = k
        · rw [c, eo] at e'
          obtain ⟨rfl, rfl, rfl⟩ := cx_inj W hv hv' e'
          exact fun z => absurd z f0
        · exact hi k' (by omega) n' i' j' hv' e'
      · exact Or.inr q
theorem xs_needCounts {post : SX → Prop} {fl : Nat} (W : gr_W g) (tx : xm_T g a_text) (mR : xm_R g a_rights) (mF : xm_F g a_lefts) (C : xm_Chart g a_heights a_chosen a_firstEnds a_secondEnds a_order fl) (hr : f_countsReady ≠ 0 → xm_Cts g a_counts)
    (hpost : ∀ (f_countsReady : Int32) (a_counts : Nat → Int32), f_countsReady ≠ 0 → xm_Cts g a_counts → post (nI (gr_P g), nI (gr_L g), f_chartReady, f_countsReady, f_distancesReady, f_followsReady, nI fl, a_lefts, a_rights, a_ops, a_constants, a_text, a_heights, a_chosen, a_firstEnds, a_secondEnds, a_order, a_counts, a_distances, a_follows, a_sizes, a_values, a_operands, a_productive, a_used)) : wpX_needCounts post (nI (gr_P g), nI (gr_L g), f_chartReady, f_countsReady, f_distancesReady, f_followsReady, nI fl, a_lefts, a_rights, a_ops, a_constants, a_text, a_heights, a_chosen, a_firstEnds, a_secondEnds, a_order, a_counts, a_distances, a_follows, a_sizes, a_values, a_operands, a_productive, a_used) := by
  have S := C.1
  have K48 : ∀ d r, r + d = 606 → ∀ (x1 : Int32) (a_counts : Nat → Int32), (∃ f, pu_CI g f ∧ xm_c g a_counts f ∧ ((x1 = 0 ∧ pu_ccl g (pu_ps' f)) ∨ (x1 = 1 ∧ xc_mu a_counts + r ≤ 605))) → wX_needCounts_48 post (nI (gr_P g)) (nI (gr_L g)) f_chartReady f_countsReady f_distancesReady f_followsReady (nI fl) (d + 1) x1 (nI r) a_lefts a_rights a_ops a_constants a_text a_heights a_chosen a_firstEnds a_secondEnds a_order a_counts a_distances a_follows a_sizes a_values a_operands a_productive a_used := by
    have fin : ∀ (a_counts : Nat → Int32) f, pu_CI g f → xm_c g a_counts f → pu_ccl g (pu_ps' f) → post (nI (gr_P g), nI (gr_L g), f_chartReady, 1, f_distancesReady, f_followsReady, nI fl, a_lefts, a_rights, a_ops, a_constants, a_text, a_heights, a_chosen, a_firstEnds, a_secondEnds, a_order, a_counts, a_distances, a_follows, a_sizes, a_values, a_operands, a_productive, a_used) := by
      intro a_counts f CI mc cl
      refine hpost 1 a_counts (by decide) ⟨pu_CC_s ⟨CI, cl⟩, fun n i j hv => ?_⟩
      rw [mc n i j hv, pu_CC_e W ⟨CI, cl⟩ hv]
    intro d
    induction d with
    | zero =>
      intro r hr x1 a_counts I
      have e : r = 606 := by omega
      subst e
      obtain ⟨f, CI, mc, ⟨rfl, cl⟩ | ⟨rfl, mu⟩⟩ := I
      · exact br_t (nI_lt (a := 605) (by decide) (by decide)) (fin a_counts f CI mc cl)
      · omega
    | succ d ih =>
      intro r hr x1 a_counts I
      refine br_f (nI_nlt (a := 605) (by omega) (by omega)) ?_
      obtain ⟨f, CI, mc, ⟨rfl, cl⟩ | ⟨rfl, mu⟩⟩ := I
      · exact br_t rfl (fin a_counts f CI mc cl)
      · refine br_f (by decide) ⟨fl + 1, ?_⟩
        refine xs_nc63 (g := g) (m0 := xc_mu a_counts) W tx mR mF C (fun x1 a_counts' I => ih (r + 1) (by omega) x1 a_counts' ?_) fl 0 (by omega) 0 a_counts ⟨f, CI, mc, Or.inl ⟨rfl, Nat.le_refl _, fun k' hk' => by omega⟩⟩
        obtain ⟨f', CI', mc', ⟨rfl, mu', hi⟩ | ⟨rfl, mu'⟩⟩ := I
        · refine ⟨f', CI', mc', Or.inl ⟨rfl, fun n i j hv h0 al => ?_⟩⟩
          obtain ⟨k, hk, e⟩ := C.2.2.2.2.2.2 n i j hv h0
          by_cases c : f' n i j = 0
          · exact absurd al (hi k hk n i j hv e c)
          · show 0 < f' n i j
            omega
        · exact ⟨f', CI', mc', Or.inr ⟨rfl, by omega⟩⟩
  have K10 : ∀ d x, x + d = 605 → ∀ (a_counts : Nat → Int32), (∀ y, y < x → a_counts y = if a_heights y ≤ 0 then 0 else -3) → wX_needCounts_10 post (nI (gr_P g)) (nI (gr_L g)) f_chartReady f_countsReady f_distancesReady f_followsReady (nI fl) (d + 1) (nI x) a_lefts a_rights a_ops a_constants a_text a_heights a_chosen a_firstEnds a_secondEnds a_order a_counts a_distances a_follows a_sizes a_values a_operands a_productive a_used := by
    intro d
    induction d with
    | zero =>
      intro x hx a_counts hz
      have e : x = 605 := by omega
      subst e
      refine br_t (nI_le (a := 605) (b := 605) (by decide) (by decide)) ⟨606 + 1, K48 606 0 (by decide) 1 a_counts ⟨fun _ _ _ => 0, ⟨fun _ _ _ _ _ => rfl, fun n i j hv h => absurd h (Nat.lt_irrefl 0), fun Q cl n i j hv h => absurd h (Nat.lt_irrefl 0)⟩, fun n i j hv => ?_, Or.inr ⟨rfl, pu_cnt_le _ _⟩⟩⟩
      have hb := (S n i j hv).2.2
      rw [hz _ (cx_lt W hv), C.2.1 n i j hv]
      unfold xc_v
      by_cases c : pu_HH g n i j = 0
      · rw [if_pos c, c]; rfl
      · rw [if_neg c, if_pos rfl, if_neg (nI_nle (by omega) (by omega))]
    | succ d ih =>
      intro x hx a_counts hz
      have hin : vp_in (nI x) 605 := vp_in_nI (by omega) (by decide)
      have ec : (nI x).toNatClampNeg = x := nI_clamp (by omega)
      refine br_f (nI_ge (b := 605) (by omega) (by decide)) ⟨hin, br_c (fun c => ⟨hin, nm_r (e' := upd a_counts x 0) (by rw [ec]) (nm_r (nI_1 x) (ih (x + 1) (by omega) _ (fun y hy => ?_)))⟩) (fun c => ⟨hin, nm_r (e' := upd a_counts x (-3)) (by rw [ec]) (nm_r (nI_1 x) (ih (x + 1) (by omega) _ (fun y hy => ?_)))⟩)⟩
      · by_cases q : y = x
        · rw [q, pk_us]; rw [ec] at c; rw [if_pos c]
        · rw [pk_un q]; exact hz y (by omega)
      · by_cases q : y = x
        · rw [q, pk_us]; rw [ec] at c; rw [if_neg c]
        · rw [pk_un q]; exact hz y (by omega)
  exact br_c (fun _ => ⟨605 + 1, K10 605 0 rfl _ (fun y hy => absurd hy (by omega))⟩) (fun z => hpost _ _ z (hr z))
end
end
section
/-! the chosen tree: sizes, nodes, values; pure -/
noncomputable def pu_cp (g : gr_G) (n i j : Nat) : Nat := (pu_ch g n i j).1
noncomputable def pu_s (g : gr_G) (n i j m : Nat) : Nat := gr_R g (3 * (pu_ch g n i j).1 + m)
noncomputable def pu_b (g : gr_G) (n i j m : Nat) : Nat := if m = 0 then i else if m = 1 then (pu_ch g n i j).2.1 else (pu_ch g n i j).2.2
noncomputable def pu_e (g : gr_G) (n i j m : Nat) : Nat := if m = 0 then (pu_ch g n i j).2.1 else if m = 1 then (pu_ch g n i j).2.2 else j
def pu_nt (s : Nat) : Prop := 10 ≤ s ∧ s < 99
def pu_CHX (g : gr_G) : Prop := ∀ n i j, pu_V g n i j → 0 < pu_HH g n i j → pu_Ch g (pu_HH g) n i j (pu_ch g n i j).1 (pu_ch g n i j).2.1 (pu_ch g n i j).2.2
theorem pu_part {g : gr_G} (W : gr_W g) (X : pu_CHX g) {n i j m : Nat} (hv : pu_V g n i j) (h0 : 0 < pu_HH g n i j) (hm : m < 3) : pu_cp g n i j < gr_P g ∧ pu_ok (pu_s g n i j m) ∧ pu_b g n i j m ≤ pu_e g n i j m ∧ pu_e g n i j m ≤ gr_L g ∧ (pu_nt (pu_s g n i j m) → pu_V g (pu_s g n i j m - 10) (pu_b g n i j m) (pu_e g n i j m) ∧ 0 < pu_HH g (pu_s g n i j m - 10) (pu_b g n i j m) (pu_e g n i j m) ∧ pu_HH g (pu_s g n i j m - 10) (pu_b g n i j m) (pu_e g n i j m) < pu_HH g n i j) := by
  obtain ⟨c1, c2, c3, c4, c5, c6, _, _⟩ := X n i j hv h0
  have hj := hv.2.2
  have ok : pu_ok (pu_s g n i j m) := pu_okR W c1 hm
  have b : pu_b g n i j m ≤ pu_e g n i j m ∧ pu_e g n i j m ≤ gr_L g := by
    unfold pu_b pu_e
    by_cases m0 : m = 0
    · rw [if_pos m0, if_pos m0]; omega
    · rw [if_neg m0, if_neg m0]
      by_cases m1 : m = 1
      · rw [if_pos m1, if_pos m1]; omega
      · rw [if_neg m1, if_neg m1]; omega
  refine ⟨c1, ok, b.1, b.2, fun nt => ⟨xb_ntV ok nt b.1 b.2, ?_⟩⟩
  have f : pu_ps g (pu_HH g) (pu_s g n i j m) (pu_b g n i j m) (pu_e g n i j m) (pu_HH g n i j) := by
    have : m = 0 ∨ m = 1 ∨ m = 2 := by omega
    obtain rfl | rfl | rfl := this
    · exact c6.1
    · exact c6.2.1
    · exact c6.2.2
  exact (pu_ps_n nt).mp f
noncomputable def pu_pz (g : gr_G) (z : pu_C) (n i j m : Nat) : Nat := @ite _ (pu_nt (pu_s g n i j m)) (Classical.propDecidable _) (z (pu_s g n i j m - 10) (pu_b g n i j m) (pu_e g n i j m)) 0
theorem pu_pz_t {g : gr_G} {z : pu_C} {n i j m : Nat} (h : pu_nt (pu_s g n i j m)) : pu_pz g z n i j m = z (pu_s g n i j m - 10) (pu_b g n i j m) (pu_e g n i j m) := if_pos h
theorem pu_pz_f {g : gr_G} {z : pu_C} {n i j m : Nat} (h : ¬ pu_nt (pu_s g n i j m)) : pu_pz g z n i j m = 0 := if_neg h
noncomputable def pu_szf (g : gr_G) : Nat → pu_C
  | 0 => fun _ _ _ => 0
  | f + 1 => fun n i j => 1 + pu_pz g (pu_szf g f) n i j 0 + pu_pz g (pu_szf g f) n i j 1 + pu_pz g (pu_szf g f) n i j 2
noncomputable def pu_SZ (g : gr_G) : pu_C := fun n i j => pu_szf g (pu_HH g n i j) n i j
theorem pu_szf_st {g : gr_G} (W : gr_W g) (X : pu_CHX g) : ∀ f n i j, pu_V g n i j → 0 < pu_HH g n i j → pu_HH g n i j ≤ f → pu_szf g f n i j = pu_SZ g n i j := by
  intro f
  induction f using Nat.strongRecOn with
  | _ f ih =>
    intro n i j hv h0 hf
    obtain ⟨h, eh⟩ : ∃ h, pu_HH g n i j = h + 1 := ⟨pu_HH g n i j - 1, by omega⟩
    obtain ⟨f0, rfl⟩ : ∃ f0, f = f0 + 1 := ⟨f - 1, by omega⟩
    have Q : ∀ m, m < 3 → pu_pz g (pu_szf g f0) n i j m = pu_pz g (pu_szf g h) n i j m := by
      intro m hm
      by_cases c : pu_nt (pu_s g n i j m)
      · obtain ⟨v', h0', hl⟩ := (pu_part W X hv h0 hm).2.2.2.2 c
        rw [pu_pz_t c, pu_pz_t c, ih f0 (by omega) _ _ _ v' h0' (by omega), ih h (by omega) _ _ _ v' h0' (by omega)]
      · rw [pu_pz_f c, pu_pz_f c]
    unfold pu_SZ
    rw [eh]
    show 1 + pu_pz g (pu_szf g f0) n i j 0 + pu_pz g (pu_szf g f0) n i j 1 + pu_pz g (pu_szf g f0) n i j 2 = 1 + pu_pz g (pu_szf g h) n i j 0 + pu_pz g (pu_szf g h) n i j 1 + pu_pz g (pu_szf g h) n i j 2
    rw [Q 0 (by decide), Q 1 (by decide), Q 2 (by decide)]
theorem pu_SZ_eq {g : gr_G} (W : gr_W g) (X : pu_CHX g) {n i j : Nat} (hv : pu_V g n i j) (h0 : 0 < pu_HH g n i j) : pu_SZ g n i j = 1 + pu_pz g (pu_SZ g) n i j 0 + pu_pz g (pu_SZ g) n i j 1 + pu_pz g (pu_SZ g) n i j 2 := by
  obtain ⟨h, eh⟩ : ∃ h, pu_HH g n i j = h + 1 := ⟨pu_HH g n i j - 1, by omega⟩
  have Q : ∀ m, m < 3 → pu_pz g (pu_szf g h) n i j m = pu_pz g (pu_SZ g) n i j m := by
    intro m hm
    by_cases c : pu_nt (pu_s g n i j m)
    · obtain ⟨v', h0', hl⟩ := (pu_part W X hv h0 hm).2.2.2.2 c
      rw [pu_pz_t c, pu_pz_t c, pu_szf_st W X h _ _ _ v' h0' (by omega)]
    · rw [pu_pz_f c, pu_pz_f c]
  have : pu_SZ g n i j = pu_szf g (h + 1) n i j := by unfold pu_SZ; rw [eh]
  rw [this]
  show 1 + pu_pz g (pu_szf g h) n i j 0 + pu_pz g (pu_szf g h) n i j 1 + pu_pz g (pu_szf g h) n i j 2 = _
  rw [Q 0 (by decide), Q 1 (by decide), Q 2 (by decide)]
theorem pu_SZ_pos {g : gr_G} (W : gr_W g) (X : pu_CHX g) {n i j : Nat} (hv : pu_V g n i j) (h0 : 0 < pu_HH g n i j) : 0 < pu_SZ g n i j := by rw [pu_SZ_eq W X hv h0]; omega
theorem pu_SZ_pt {g : gr_G} (W : gr_W g) (X : pu_CHX g) {n i j m : Nat} (hv : pu_V g n i j) (h0 : 0 < pu_HH g n i j) (hm : m < 3) : pu_pz g (pu_SZ g) n i j m < pu_SZ g n i j := by
  rw [pu_SZ_eq W X hv h0]
  have : m = 0 ∨ m = 1 ∨ m = 2 := by omega
  obtain rfl | rfl | rfl := this <;> omega
/-! nodes -/
abbrev pu_N4 : Type := Nat × Nat × Nat × Nat
noncomputable def pu_sl (g : gr_G) (n i j : Nat) : Nat → Nat → pu_N4
  | 0, k => (n, i, j, k)
  | d + 1, k => @ite _ (pu_nt (pu_s g n i j (2 - d))) (Classical.propDecidable _) (if k < pu_SZ g (pu_s g n i j (2 - d) - 10) (pu_b g n i j (2 - d)) (pu_e g n i j (2 - d)) then (pu_s g n i j (2 - d) - 10, pu_b g n i j (2 - d), pu_e g n i j (2 - d), k) else pu_sl g n i j d (k - pu_SZ g (pu_s g n i j (2 - d) - 10) (pu_b g n i j (2 - d)) (pu_e g n i j (2 - d)))) (pu_sl g n i j d k)
noncomputable def pu_nd (g : gr_G) : Nat → Nat → Nat → Nat → Nat → Nat × Nat × Nat
  | 0, n, i, j, _ => (n, i, j)
  | f + 1, n, i, j, k => if k = 0 then (n, i, j) else pu_nd g f (pu_sl g n i j 3 (k - 1)).1 (pu_sl g n i j 3 (k - 1)).2.1 (pu_sl g n i j 3 (k - 1)).2.2.1 (pu_sl g n i j 3 (k - 1)).2.2.2
noncomputable def pu_ND (g : gr_G) (n i j k : Nat) : Nat × Nat × Nat := pu_nd g (pu_HH g n i j) n i j k
theorem pu_sl_t {g : gr_G} {n i j d k : Nat} (c : pu_nt (pu_s g n i j (2 - d))) (l : k < pu_SZ g (pu_s g n i j (2 - d) - 10) (pu_b g n i j (2 - d)) (pu_e g n i j (2 - d))) : pu_sl g n i j (d + 1) k = (pu_s g n i j (2 - d) - 10, pu_b g n i j (2 - d), pu_e g n i j (2 - d), k) := (if_pos c).trans (if_pos l)
theorem pu_sl_m {g : gr_G} {n i j d k : Nat} (c : pu_nt (pu_s g n i j (2 - d))) (l : ¬ k < pu_SZ g (pu_s g n i j (2 - d) - 10) (pu_b g n i j (2 - d)) (pu_e g n i j (2 - d))) : pu_sl g n i j (d + 1) k = pu_sl g n i j d (k - pu_SZ g (pu_s g n i j (2 - d) - 10) (pu_b g n i j (2 - d)) (pu_e g n i j (2 - d))) := (if_pos c).trans (if_neg l)
theorem pu_sl_f {g : gr_G} {n i j d k : Nat} (c : ¬ pu_nt (pu_s g n i j (2 - d))) : pu_sl g n i j (d + 1) k = pu_sl g n i j d k := if_neg c
def pu_lft (f : Nat → Nat) : Nat → Nat
  | 0 => 0
  | d + 1 => f (2 - d) + pu_lft f d
theorem pu_sl_ok {g : gr_G} {n i j : Nat} : ∀ d k, d ≤ 3 → k < pu_lft (pu_pz g (pu_SZ g) n i j) d → ∃ m, m < 3 ∧ pu_nt (pu_s g n i j m) ∧ ∃ k', k' ≤ k ∧ k' < pu_SZ g (pu_s g n i j m - 10) (pu_b g n i j m) (pu_e g n i j m) ∧ pu_sl g n i j d k = (pu_s g n i j m - 10, pu_b g n i j m, pu_e g n i j m, k') := by
  intro d
  induction d with
  | zero => intro k _ h; exact absurd h (Nat.not_lt_zero _)
  | succ d ih =>
    intro k hd h
    by_cases c : pu_nt (pu_s g n i j (2 - d))
    · have h' : k < pu_pz g (pu_SZ g) n i j (2 - d) + pu_lft (pu_pz g (pu_SZ g) n i j) d := h
      rw [pu_pz_t c] at h'
      by_cases l : k < pu_SZ g (pu_s g n i j (2 - d) - 10) (pu_b g n i j (2 - d)) (pu_e g n i j (2 - d))
      · exact ⟨2 - d, by omega, c, k, Nat.le_refl _, l, pu_sl_t c l⟩
      · obtain ⟨m, hm, c', k', hk, l', e⟩ := ih (k - pu_SZ g (pu_s g n i j (2 - d) - 10) (pu_b g n i j (2 - d)) (pu_e g n i j (2 - d))) (by omega) (by omega)
        exact ⟨m, hm, c', k', by omega, l', (pu_sl_m c l).trans e⟩
    · have h' : k < pu_pz g (pu_SZ g) n i j (2 - d) + pu_lft (pu_pz g (pu_SZ g) n i j) d := h
      rw [pu_pz_f c] at h'
      obtain ⟨m, hm, c', k', hk, l', e⟩ := ih k (by omega) (by omega)
      exact ⟨m, hm, c', k', hk, l', (pu_sl_f c).trans e⟩
theorem pu_lft3 {g : gr_G} (W : gr_W g) (X : pu_CHX g) {n i j k : Nat} (hv : pu_V g n i j) (h0 : 0 < pu_HH g n i j) (hk : 0 < k) (l : k < pu_SZ g n i j) : k - 1 < pu_lft (pu_pz g (pu_SZ g) n i j) 3 := by
  rw [pu_SZ_eq W X hv h0] at l
  show k - 1 < pu_pz g (pu_SZ g) n i j 0 + (pu_pz g (pu_SZ g) n i j 1 + (pu_pz g (pu_SZ g) n i j 2 + 0))
  omega
theorem pu_nd_st {g : gr_G} (W : gr_W g) (X : pu_CHX g) : ∀ f n i j k, pu_V g n i j → 0 < pu_HH g n i j → pu_HH g n i j ≤ f → k < pu_SZ g n i j → pu_nd g f n i j k = pu_ND g n i j k := by
  intro f
  induction f using Nat.strongRecOn with
  | _ f ih =>
    intro n i j k hv h0 hf hk
    obtain ⟨h, eh⟩ : ∃ h, pu_HH g n i j = h + 1 := ⟨pu_HH g n i j - 1, by omega⟩
    obtain ⟨f0, rfl⟩ : ∃ f0, f = f0 + 1 := ⟨f - 1, by omega⟩
    unfold pu_ND
    rw [eh]
    unfold pu_nd
    by_cases k0 : k = 0
    · rw [if_pos k0, if_pos k0]
    · rw [if_neg k0, if_neg k0]
      obtain ⟨m, hm, c, k', hk', l, e⟩ := pu_sl_ok 3 (k - 1) (by decide) (pu_lft3 W X hv h0 (by omega) hk)
      obtain ⟨v', h0', hl⟩ := (pu_part W X hv h0 hm).2.2.2.2 c
      rw [e]
      show pu_nd g f0 (pu_s g n i j m - 10) (pu_b g n i j m) (pu_e g n i j m) k' = pu_nd g h (pu_s g n i j m - 10) (pu_b g n i j m) (pu_e g n i j m) k'
      rw [ih f0 (by omega) _ _ _ _ v' h0' (by omega) l, ih h (by omega) _ _ _ _ v' h0' (by omega) l]
theorem pu_ND_0 {g : gr_G} {n i j : Nat} : pu_ND g n i j 0 = (n, i, j) := by
  unfold pu_ND
  cases pu_HH g n i j with
  | zero => rfl
  | succ h => rfl
theorem pu_ND_s {g : gr_G} (W : gr_W g) (X : pu_CHX g) {n i j k : Nat} (hv : pu_V g n i j) (h0 : 0 < pu_HH g n i j) (hk : 0 < k) (l : k < pu_SZ g n i j) : ∃ m, m < 3 ∧ pu_nt (pu_s g n i j m) ∧ ∃ k', k' < k ∧ k' < pu_SZ g (pu_s g n i j m - 10) (pu_b g n i j m) (pu_e g n i j m) ∧ pu_sl g n i j 3 (k - 1) = (pu_s g n i j m - 10, pu_b g n i j m, pu_e g n i j m, k') ∧ pu_ND g n i j k = pu_ND g (pu_s g n i j m - 10) (pu_b g n i j m) (pu_e g n i j m) k' := by
  obtain ⟨m, hm, c, k', hk', l', e⟩ := pu_sl_ok 3 (k - 1) (by decide) (pu_lft3 W X hv h0 hk l)
  obtain ⟨v', h0', hl⟩ := (pu_part W X hv h0 hm).2.2.2.2 c
  refine ⟨m, hm, c, k', by omega, l', e, ?_⟩
  obtain ⟨h, eh⟩ : ∃ h, pu_HH g n i j = h + 1 := ⟨pu_HH g n i j - 1, by omega⟩
  have : pu_ND g n i j k = pu_nd g (h + 1) n i j k := by unfold pu_ND; rw [eh]
  rw [this]
  unfold pu_nd
  rw [if_neg (by omega), e]
  exact pu_nd_st W X h (pu_s g n i j m - 10) (pu_b g n i j m) (pu_e g n i j m) k' v' h0' (by omega) l'
/-! values -/
def ev_fold (f : Int64 → Int64 → Int64) (x : Nat → Int64) : Nat → Nat → Int64 → Int64
  | 0, _, s => s
  | d + 1, m, s => ev_fold f x d (m + 1) (f s (x m))
def ev_N : Int64 := -9223372036854775808
def ev_gr (s y : Int64) : Int64 := if y ≤ s then s else y
def ev_act (op : Int32) (c : Int64) (k : Nat) (x : Nat → Int64) : Int64 :=
  if op = 1 then c + ev_fold (fun s y => s + y) x k 0 0
  else if op = 2 then ev_fold (fun s y => s * y) x k 0 c
  else if op = 3 then (if k = 0 then -c else x 0 - c - ev_fold (fun s y => s + y) x (k - 1) 1 0)
  else if op = 4 then ev_fold (fun s y => 10 * s + y) x k 0 c
  else if op = 5 then ev_fold ev_gr x k 0 c
  else if op = 6 then (if k = 0 then c else if c + ev_fold (fun s y => s + y) x (k - 1) 1 0 = 0 then ev_N else x 0 / (c + ev_fold (fun s y => s + y) x (k - 1) 1 0))
  else if op = 7 then (if k = 0 then c else if x 0 ≤ c then x 0 else x (k - 1))
  else c
def ev_bad (k : Nat) (x : Nat → Int64) : Prop := ∃ m, m < k ∧ x m = ev_N
noncomputable def ev_v (op : Int32) (c : Int64) (k : Nat) (x : Nat → Int64) : Int64 := @ite _ (ev_bad k x) (Classical.propDecidable _) ev_N (ev_act op c k x)
def pu_k (g : gr_G) (p : Nat) : Nat := if gr_R g (3 * p) = 99 then 0 else if gr_R g (3 * p + 1) = 99 then 1 else if gr_R g (3 * p + 2) = 99 then 2 else 3
abbrev pu_C6 : Type := Nat → Nat → Nat → Int64
noncomputable def pu_pv (g : gr_G) (z : pu_C6) (n i j m : Nat) : Int64 := @ite _ (m < 3 ∧ pu_nt (pu_s g n i j m)) (Classical.propDecidable _) (z (pu_s g n i j m - 10) (pu_b g n i j m) (pu_e g n i j m)) (sy_m (pu_s g n i j m)).toInt64
theorem pu_pv_t {g : gr_G} {z : pu_C6} {n i j m : Nat} (hm : m < 3) (h : pu_nt (pu_s g n i j m)) : pu_pv g z n i j m = z (pu_s g n i j m - 10) (pu_b g n i j m) (pu_e g n i j m) := if_pos ⟨hm, h⟩
theorem pu_pv_f {g : gr_G} {z : pu_C6} {n i j m : Nat} (h : ¬ (m < 3 ∧ pu_nt (pu_s g n i j m))) : pu_pv g z n i j m = (sy_m (pu_s g n i j m)).toInt64 := if_neg h
noncomputable def pu_vlf (g : gr_G) (ops cs : Nat → Int32) : Nat → pu_C6
  | 0 => fun _ _ _ => ev_N
  | f + 1 => fun n i j => ev_v (ops (pu_cp g n i j)) (cs (pu_cp g n i j)).toInt64 (pu_k g (pu_cp g n i j)) (pu_pv g (pu_vlf g ops cs f) n i j)
noncomputable def pu_VL (g : gr_G) (ops cs : Nat → Int32) : pu_C6 := fun n i j => pu_vlf g ops cs (pu_HH g n i j) n i j
theorem pu_vlf_st {g : gr_G} {ops cs : Nat → Int32} (W : gr_W g) (X : pu_CHX g) : ∀ f n i j, pu_V g n i j → 0 < pu_HH g n i j → pu_HH g n i j ≤ f → pu_vlf g ops cs f n i j = pu_VL g ops cs n i j := by
  intro f
  induction f using Nat.strongRecOn with
  | _ f ih =>
    intro n i j hv h0 hf
    obtain ⟨h, eh⟩ : ∃ h, pu_HH g n i j = h + 1 := ⟨pu_HH g n i j - 1, by omega⟩
    obtain ⟨f0, rfl⟩ : ∃ f0, f = f0 + 1 := ⟨f - 1, by omega⟩
    have Q : pu_pv g (pu_vlf g ops cs f0) n i j = pu_pv g (pu_vlf g ops cs h) n i j := by
      funext m
      by_cases c : m < 3 ∧ pu_nt (pu_s g n i j m)
      · obtain ⟨v', h0', hl⟩ := (pu_part W X hv h0 c.1).2.2.2.2 c.2
        rw [pu_pv_t c.1 c.2, pu_pv_t c.1 c.2, ih f0 (by omega) _ _ _ v' h0' (by omega), ih h (by omega) _ _ _ v' h0' (by omega)]
      · rw [pu_pv_f c, pu_pv_f c]
    unfold pu_VL
    rw [eh]
    unfold pu_vlf
    rw [Q]
theorem pu_VL_eq {g : gr_G} {ops cs : Nat → Int32} (W : gr_W g) (X : pu_CHX g) {n i j : Nat} (hv : pu_V g n i j) (h0 : 0 < pu_HH g n i j) : pu_VL g ops cs n i j = ev_v (ops (pu_cp g n i j)) (cs (pu_cp g n i j)).toInt64 (pu_k g (pu_cp g n i j)) (pu_pv g (pu_VL g ops cs) n i j) := by
  obtain ⟨h, eh⟩ : ∃ h, pu_HH g n i j = h + 1 := ⟨pu_HH g n i j - 1, by omega⟩
  have Q : pu_pv g (pu_vlf g ops cs h) n i j = pu_pv g (pu_VL g ops cs) n i j := by
    funext m
    by_cases c : m < 3 ∧ pu_nt (pu_s g n i j m)
    · obtain ⟨v', h0', hl⟩ := (pu_part W X hv h0 c.1).2.2.2.2 c.2
      rw [pu_pv_t c.1 c.2, pu_pv_t c.1 c.2, pu_vlf_st W X h _ _ _ v' h0' (by omega)]
    · rw [pu_pv_f c, pu_pv_f c]
  have : pu_VL g ops cs n i j = pu_vlf g ops cs (h + 1) n i j := by unfold pu_VL; rw [eh]
  rw [this, ← Q]; rfl
theorem pu_VL_0 {g : gr_G} {ops cs : Nat → Int32} {n i j : Nat} (h0 : pu_HH g n i j = 0) : pu_VL g ops cs n i j = ev_N := by
  unfold pu_VL; rw [h0]; rfl
end
section
/-! the component: sizes, nodes -/
def xm_ch (g : gr_G) (ch fe se : Nat → Int32) : Prop := ∀ n i j, pu_V g n i j → 0 < pu_HH g n i j → ch (cx n i j) = nI (pu_ch g n i j).1 ∧ fe (cx n i j) = nI (pu_ch g n i j).2.1 ∧ se (cx n i j) = nI (pu_ch g n i j).2.2
theorem xm_chs {g : gr_G} {hts ch fe se ord : Nat → Int32} {fl : Nat} (C : xm_Chart g hts ch fe se ord fl) : pu_CHX g ∧ xm_ch g ch fe se := by
  refine ⟨fun n i j hv h0 => ?_, fun n i j hv h0 => ?_⟩
  · obtain ⟨p, u, v, e1, e2, e3, c⟩ := C.2.2.2.1 n i j hv h0
    rw [pu_ch_s c]; exact c
  · obtain ⟨p, u, v, e1, e2, e3, c⟩ := C.2.2.2.1 n i j hv h0
    rw [pu_ch_s c]; exact ⟨e1, e2, e3⟩
def pu_cz (x : Nat) : Nat := if x ≤ 1000000000 then x else 1000000001
theorem pu_cz_le (x : Nat) : pu_cz x ≤ 1000000001 := by unfold pu_cz; split <;> omega
theorem pu_cz_3 (a b c : Nat) : pu_cz (1 + pu_cz a + pu_cz b + pu_cz c) = pu_cz (1 + a + b + c) := by unfold pu_cz; (repeat' split) <;> omega
def xm_Sz (g : gr_G) (szs : Nat → Int32) : Prop := ∀ n i j, pu_V g n i j → szs (cx n i j) = nI (pu_cz (pu_SZ g n i j))
def xz_P (g : gr_G) (ord : Nat → Int32) (k : Nat) (szs : Nat → Int32) : Prop := (∀ n i j, pu_V g n i j → pu_HH g n i j = 0 → szs (cx n i j) = 0) ∧ (∀ k', k' < k → ∀ n i j, pu_V g n i j → ord k' = nI (cx n i j) → szs (cx n i j) = nI (pu_cz (pu_SZ g n i j)))
theorem pu_SZ_0 {g : gr_G} {n i j : Nat} (h : pu_HH g n i j = 0) : pu_SZ g n i j = 0 := by unfold pu_SZ; rw [h]; rfl
noncomputable def pu_Zc (g : gr_G) : pu_C := fun n i j => pu_cz (pu_SZ g n i j)
theorem pu_Zc_pz {g : gr_G} {n i j m : Nat} : pu_pz g (pu_Zc g) n i j m = pu_cz (pu_pz g (pu_SZ g) n i j m) := by
  by_cases c : pu_nt (pu_s g n i j m)
  · rw [pu_pz_t c, pu_pz_t c]; rfl
  · rw [pu_pz_f c, pu_pz_f c]; rfl
/-- a part of the cell at k stands before k -/
theorem xm_before {g : gr_G} {hts ch fe se ord : Nat → Int32} {fl : Nat} (C : xm_Chart g hts ch fe se ord fl) {k n i j n' i' j' : Nat} (hk : k < fl) (hv : pu_V g n i j) (eo : ord k = nI (cx n i j)) (hv' : pu_V g n' i' j') (h0 : 0 < pu_HH g n' i' j') (l : pu_HH g n' i' j' < pu_HH g n i j) : ∃ k', k' < k ∧ ord k' = nI (cx n' i' j') := by
  obtain ⟨k', hk', e'⟩ := C.2.2.2.2.2.2 n' i' j' hv' h0
  by_cases c : k' < k
  · exact ⟨k', c, e'⟩
  · have := C.2.2.2.2.2.1 k k' n i j n' i' j' (by omega) hk' hv hv' eo e'
    omega
section
variable {g : gr_G} {f_chartReady f_countsReady f_distancesReady f_followsReady f_filled : Int32} {a_lefts a_rights a_ops a_constants a_text a_heights a_chosen a_firstEnds a_secondEnds a_order a_counts a_distances a_follows a_sizes : Nat → Int32} {a_values a_operands : Nat → Int64} {a_productive a_used : Nat → Int32}
theorem xs_inner {post : Int32 → Prop} {n i j m : Nat} {m' : Int32} (W : gr_W g) (X : pu_CHX g) (mR : xm_R g a_rights) (mC : xm_ch g a_chosen a_firstEnds a_secondEnds) (hv : pu_V g n i j) (h0 : 0 < pu_HH g n i j) (hm : m < 3) (em : m' = nI m) (hA : ¬ pu_nt (pu_s g n i j m) → post (-1)) (hN : pu_nt (pu_s g n i j m) → post (nI (cx (pu_s g n i j m - 10) (pu_b g n i j m) (pu_e g n i j m)))) : wpX_inner post (nI (gr_P g), nI (gr_L g), f_chartReady, f_countsReady, f_distancesReady, f_followsReady, f_filled, a_lefts, a_rights, a_ops, a_constants, a_text, a_heights, a_chosen, a_firstEnds, a_secondEnds, a_order, a_counts, a_distances, a_follows, a_sizes, a_values, a_operands, a_productive, a_used) (nI (cx n i j)) m' := by
  subst em
  have hl := cx_lt W hv
  have hin : vp_in (nI (cx n i j)) 605 := vp_in_nI hl (by decide)
  have ec : (nI (cx n i j)).toNatClampNeg = cx n i j := nI_clamp (by omega)
  have hL := W.2.1
  have hP := W.1
  obtain ⟨e1, e2, e3⟩ := mC n i j hv h0
  obtain ⟨hp, ok, hbe, heL, hpt⟩ := pu_part W X hv h0 hm
  have hp' : (pu_ch g n i j).1 < gr_P g := hp
  have hvv := hv
  obtain ⟨hn, hij, hj⟩ := hv
  refine ⟨hin, ?_, nm_r (e' := sy_m (pu_s g n i j m)) ?_ ?_⟩
  · rw [ec, e1]; exact xb_i (by omega) hm
  · rw [ec, e1]; exact xm_Rm W mR hp' hm
  · refine ek_if (sy_ge ok) (fun c => ?_) (fun c => hA c)
    have fin := hN c
    have hmm : m = 0 ∨ m = 1 ∨ m = 2 := by omega
    obtain rfl | rfl | rfl := hmm
    · refine br_t rfl (xs_beginOf hn (by omega) (by omega) (br_t rfl ⟨hin, ?_⟩))
      exact xb_cell (post := post) (pu_s g n i j 0 - 10) i (pu_ch g n i j).2.1 (sy_nt c) rfl (by rw [ec]; exact e2) fin
    · refine br_f (by decide) (br_t rfl ⟨hin, br_f (by decide) (br_t rfl ⟨hin, ?_⟩)⟩)
      exact xb_cell (post := post) (pu_s g n i j 1 - 10) (pu_ch g n i j).2.1 (pu_ch g n i j).2.2 (sy_nt c) (by rw [ec]; exact e2) (by rw [ec]; exact e3) fin
    · refine br_f (by decide) (br_f (by decide) ⟨hin, br_f (by decide) (br_f (by decide) (xs_endOf hn (by omega) (by omega) ?_))⟩)
      exact xb_cell (post := post) (pu_s g n i j 2 - 10) (pu_ch g n i j).2.2 j (sy_nt c) (by rw [ec]; exact e3) rfl fin
theorem xs_fz44 {post : SX → Prop} {J24 : Int32 → (Nat → Int32) → (Nat → Int32) → (Nat → Int32) → (Nat → Int32) → (Nat → Int32) → (Nat → Int32) → (Nat → Int32) → (Nat → Int32) → (Nat → Int32) → (Nat → Int32) → (Nat → Int32) → (Nat → Int32) → (Nat → Int32) → (Nat → Int32) → (Nat → Int64) → (Nat → Int64) → (Nat → Int32) → (Nat → Int32) → Prop} {k n i j fl : Nat} (W : gr_W g) (mR : xm_R g a_rights) (C : xm_Chart g a_heights a_chosen a_firstEnds a_secondEnds a_order fl) (hk : k < fl) (hv : pu_V g n i j) (eo : a_order k = nI (cx n i j)) (I : xz_P g a_order k a_sizes)
    (hJ : J24 (nI (k + 1)) a_lefts a_rights a_ops a_constants a_text a_heights a_chosen a_firstEnds a_secondEnds a_order a_counts a_distances a_follows (upd a_sizes (cx n i j) (nI (pu_cz (pu_SZ g n i j)))) a_values a_operands a_productive a_used) :
    ∀ d m, m + d = 3 → wX_fillSizes_44 post J24 (nI k) (nI (cx n i j)) (nI (gr_P g)) (nI (gr_L g)) f_chartReady f_countsReady f_distancesReady f_followsReady (nI fl) a_lefts a_rights a_ops a_constants a_text a_heights a_chosen a_firstEnds a_secondEnds a_order a_counts a_distances a_follows a_sizes a_values a_operands a_productive a_used (d + 1) (lN (1 + pu_sum (pu_pz g (pu_Zc g) n i j) m)) (nI m) := by
  have hl := cx_lt W hv
  have hin : vp_in (nI (cx n i j)) 605 := vp_in_nI hl (by decide)
  have ec : (nI (cx n i j)).toNatClampNeg = cx n i j := nI_clamp (by omega)
  obtain ⟨X, mC⟩ := xm_chs C
  have h0 := xm_Oc W C.2.2.2.2 hk hv eo
  have pb : ∀ m, pu_pz g (pu_Zc g) n i j m ≤ 1000000001 := fun m => by rw [pu_Zc_pz]; exact pu_cz_le _
  have sb : ∀ m, pu_sum (pu_pz g (pu_Zc g) n i j) m ≤ m * 1000000001 := by
    intro m
    induction m with
    | zero => exact Nat.le_refl _
    | succ m ih => have := pb m; unfold pu_sum; omega
  intro d
  induction d with
  | zero =>
    intro m hm
    have e : m = 3 := by omega
    subst e
    refine br_t (nI_le (a := 3) (b := 3) (by decide) (by decide)) ?_
    have s3 := sb 3
    have ev : pu_cz (1 + pu_sum (pu_pz g (pu_Zc g) n i j) 3) = pu_cz (pu_SZ g n i j) := by
      rw [pu_SZ_eq W X hv h0]
      show pu_cz (1 + (0 + pu_pz g (pu_Zc g) n i j 0 + pu_pz g (pu_Zc g) n i j 1 + pu_pz g (pu_Zc g) n i j 2)) = _
      rw [pu_Zc_pz, pu_Zc_pz, pu_Zc_pz, ← pu_cz_3]
      exact congrArg pu_cz (by omega)
    refine ek_if (d := 1 + pu_sum (pu_pz g (pu_Zc g) n i j) 3 ≤ 1000000000) (pk_lLE (b := 1000000000) (by omega) (by decide)) (fun c => ⟨hin, nm_r (e' := upd a_sizes (cx n i j) (nI (pu_cz (pu_SZ g n i j)))) ?_ (nm_r (nI_1 k) hJ)⟩) (fun c => ⟨hin, nm_r (e' := upd a_sizes (cx n i j) (nI (pu_cz (pu_SZ g n i j)))) ?_ (nm_r (nI_1 k) hJ)⟩)
    · rw [ec, lN_i, ← ev]; unfold pu_cz; rw [if_pos c]
    · rw [ec, ← ev]; unfold pu_cz; rw [if_neg c]; rfl
  | succ d ih =>
    intro m hm
    have nx := ih (m + 1) (by omega)
    refine br_f (nI_ge (b := 3) (by omega) (by decide)) ?_
    refine xs_inner (g := g) W X mR mC hv h0 (m := m) (by omega) rfl (fun c => br_t rfl (nm_r (e' := lN (1 + pu_sum (pu_pz g (pu_Zc g) n i j) (m + 1))) ?_ (nm_r (nI_1 m) nx))) (fun c => ?_)
    · rw [Int64.add_zero]
      show _ = lN (1 + (pu_sum (pu_pz g (pu_Zc g) n i j) m + pu_pz g (pu_Zc g) n i j m))
      rw [pu_pz_f c]; rfl
    · obtain ⟨v', h0', hlt⟩ := (pu_part W X hv h0 (m := m) (by omega)).2.2.2.2 c
      have hl' := cx_lt W v'
      obtain ⟨k', hk', e'⟩ := xm_before C hk hv eo v' h0' hlt
      refine br_f (xb_neg1 _ (by omega)) ⟨vp_in_nI hl' (by decide), nm_r (e' := lN (1 + pu_sum (pu_pz g (pu_Zc g) n i j) (m + 1))) ?_ (nm_r (nI_1 m) nx)⟩
      rw [nI_clamp (by omega), I.2 k' hk' _ _ _ v' e', nI_l (by have := pu_cz_le (pu_SZ g (pu_s g n i j m - 10) (pu_b g n i j m) (pu_e g n i j m)); omega), lN_add]
      show _ = lN (1 + (pu_sum (pu_pz g (pu_Zc g) n i j) m + pu_pz g (pu_Zc g) n i j m))
      rw [pu_pz_t c, Nat.add_assoc]; rfl
theorem xs_fillSizes {post : SX → Prop} {fl : Nat} (W : gr_W g) (mR : xm_R g a_rights) (C : xm_Chart g a_heights a_chosen a_firstEnds a_secondEnds a_order fl)
    (hpost : ∀ (a_sizes : Nat → Int32), xm_Sz g a_sizes → post (nI (gr_P g), nI (gr_L g), f_chartReady, f_countsReady, f_distancesReady, f_followsReady, nI fl, a_lefts, a_rights, a_ops, a_constants, a_text, a_heights, a_chosen, a_firstEnds, a_secondEnds, a_order, a_counts, a_distances, a_follows, a_sizes, a_values, a_operands, a_productive, a_used)) : wpX_fillSizes post (nI (gr_P g), nI (gr_L g), f_chartReady, f_countsReady, f_distancesReady, f_followsReady, nI fl, a_lefts, a_rights, a_ops, a_constants, a_text, a_heights, a_chosen, a_firstEnds, a_secondEnds, a_order, a_counts, a_distances, a_follows, a_sizes, a_values, a_operands, a_productive, a_used) := by
  have hfl : fl ≤ 605 := by rw [C.2.2.1]; exact pu_cnt_le _ _
  have K24 : ∀ d k, k + d = fl → ∀ (a_sizes : Nat → Int32), xz_P g a_order k a_sizes → wX_fillSizes_24 post (nI (gr_P g)) (nI (gr_L g)) f_chartReady f_countsReady f_distancesReady f_followsReady (nI fl) (d + 1) (nI k) a_lefts a_rights a_ops a_constants a_text a_heights a_chosen a_firstEnds a_secondEnds a_order a_counts a_distances a_follows a_sizes a_values a_operands a_productive a_used := by
    intro d
    induction d with
    | zero =>
      intro k hk a_sizes I
      have e : k = fl := by omega
      subst e
      refine br_t (nI_le (Nat.le_refl _) (by omega)) (hpost a_sizes (fun n i j hv => ?_))
      by_cases c : pu_HH g n i j = 0
      · rw [I.1 n i j hv c, pu_SZ_0 c]; rfl
      · obtain ⟨k', hk', e⟩ := C.2.2.2.2.2.2 n i j hv (by omega)
        exact I.2 k' hk' n i j hv e
    | succ d ih =>
      intro k hk a_sizes I
      obtain ⟨n, i, j, hv, eo, h0⟩ := C.2.2.2.2.1 k (by omega)
      refine br_f (nI_ge (by omega) (by omega)) ⟨vp_in_nI (by omega) (by decide), nm_r (e' := nI (cx n i j)) (by rw [nI_clamp (by omega)]; exact eo) ⟨3 + 1, ?_⟩⟩
      refine xs_fz44 (g := g) W mR C (by omega) hv eo I (ih (k + 1) (by omega) _ ⟨fun n' i' j' hv' c => ?_, fun k' hk' n' i' j' hv' e' => ?_⟩) 3 0 rfl
      · rw [pk_un (fun e => by obtain ⟨rfl, rfl, rfl⟩ := cx_inj W hv' hv (congrArg nI e); omega)]; exact I.1 n' i' j' hv' c
      · by_cases z : cx n' i' j' = cx n i j
        · obtain ⟨rfl, rfl, rfl⟩ := cx_inj W hv' hv (congrArg nI z)
          exact pk_us
        · rw [pk_un z]
          by_cases q : k' = k
          · rw [q, eo] at e'
            exact absurd (by obtain ⟨rfl, rfl, rfl⟩ := cx_inj W hv hv' e'; rfl) z
          · exact I.2 k' (by omega) n' i' j' hv' e'
  have K2 : ∀ d x, x + d = 605 → ∀ (a_sizes : Nat → Int32), (∀ y, y < x → a_sizes y = 0) → wX_fillSizes_2 post (nI (gr_P g)) (nI (gr_L g)) f_chartReady f_countsReady f_distancesReady f_followsReady (nI fl) (d + 1) (nI x) a_lefts a_rights a_ops a_constants a_text a_heights a_chosen a_firstEnds a_secondEnds a_order a_counts a_distances a_follows a_sizes a_values a_operands a_productive a_used := by
    intro d
    induction d with
    | zero =>
      intro x hx a_sizes hz
      have e : x = 605 := by omega
      subst e
      exact br_t (nI_le (a := 605) (b := 605) (by decide) (by decide)) ⟨fl + 1, K24 fl 0 (by omega) a_sizes ⟨fun n i j hv _ => hz _ (cx_lt W hv), fun k' hk' => by omega⟩⟩
    | succ d ih =>
      intro x hx a_sizes hz
      refine br_f (nI_ge (b := 605) (by omega) (by decide)) ⟨vp_in_nI (by omega) (by decide), nm_r (e' := upd a_sizes x 0) (by rw [nI_clamp (by omega)]) (nm_r (nI_1 x) (ih (x + 1) (by omega) _ (fun y hy => ?_)))⟩
      by_cases c : y = x
      · rw [c, pk_us]
      · rw [pk_un c]; exact hz y (by omega)
  exact ⟨605 + 1, K2 605 0 rfl _ (fun y hy => absurd hy (by omega))⟩
theorem xs_fn30 {post : Int32 → Prop} {J8 : Int32 → Int32 → Int32 → Prop} {n i j dep : Nat} (W : gr_W g) (X : pu_CHX g) (mR : xm_R g a_rights) (mC : xm_ch g a_chosen a_firstEnds a_secondEnds) (mZ : xm_Sz g a_sizes) (hv : pu_V g n i j) (h0 : 0 < pu_HH g n i j) (hz : pu_SZ g n i j ≤ 1000000000) :
    ∀ d m, m + d = 3 → ∀ k, k < 1000000000 → k < pu_lft (pu_pz g (pu_SZ g) n i j) d → (∀ a b c k', pu_sl g n i j d k = (a, b, c, k') → J8 (nI (cx a b c)) (nI k') (nI (dep + 1))) → wX_findNode_30 post J8 (nI (cx n i j)) (nI dep) (nI (cx n i j)) (nI (gr_P g)) (nI (gr_L g)) f_chartReady f_countsReady f_distancesReady f_followsReady f_filled a_lefts a_rights a_ops a_constants a_text a_heights a_chosen a_firstEnds a_secondEnds a_order a_counts a_distances a_follows a_sizes a_values a_operands a_productive a_used (d + 1) (nI k) (nI m) := by
  intro d
  induction d with
  | zero => intro m hm k hk1 hk; exact absurd hk (Nat.not_lt_zero _)
  | succ d ih =>
    intro m hm k hk1 hk hJ
    have em : m = 2 - d := by omega
    subst em
    have hk' : k < pu_pz g (pu_SZ g) n i j (2 - d) + pu_lft (pu_pz g (pu_SZ g) n i j) d := hk
    refine br_f (nI_ge (b := 3) (by omega) (by decide)) ?_
    refine xs_inner (g := g) W X mR mC hv h0 (m := 2 - d) (by omega) rfl (fun c => br_t rfl (nm_r (nI_1 (2 - d)) (ih (2 - d + 1) (by omega) k hk1 ?_ (fun a b e k' z => hJ a b e k' ((pu_sl_f c).trans z))))) (fun c => ?_)
    · rw [pu_pz_f c] at hk'; omega
    · obtain ⟨v', h0', hlt⟩ := (pu_part W X hv h0 (m := 2 - d) (by omega)).2.2.2.2 c
      have hl' := cx_lt W v'
      have sl := pu_SZ_pt W X hv h0 (m := 2 - d) (by omega)
      rw [pu_pz_t c] at sl hk'
      have ez : a_sizes (nI (cx (pu_s g n i j (2 - d) - 10) (pu_b g n i j (2 - d)) (pu_e g n i j (2 - d)))).toNatClampNeg = nI (pu_SZ g (pu_s g n i j (2 - d) - 10) (pu_b g n i j (2 - d)) (pu_e g n i j (2 - d))) := by
        rw [nI_clamp (by omega), mZ _ _ _ v']
        unfold pu_cz; rw [if_pos (by omega)]
      refine br_f (xb_neg1 _ (by omega)) ⟨vp_in_nI hl' (by decide), ?_⟩
      refine pk_le (pu_SZ g (pu_s g n i j (2 - d) - 10) (pu_b g n i j (2 - d)) (pu_e g n i j (2 - d))) k (fun l => ⟨vp_in_nI hl' (by decide), nm_r (e' := nI (k - pu_SZ g (pu_s g n i j (2 - d) - 10) (pu_b g n i j (2 - d)) (pu_e g n i j (2 - d)))) (by rw [ez]; exact pk_sub l) (nm_r (nI_1 (2 - d)) (ih (2 - d + 1) (by omega) _ (by omega) (by omega) (fun a b e k' z => hJ a b e k' ((pu_sl_m c (by omega)).trans z))))⟩) (fun l => nm_r (nI_1 dep) (hJ _ _ _ _ (pu_sl_t c l))) ez rfl
theorem xs_findNode {post : Int32 → Prop} {n i j k : Nat} (W : gr_W g) (S : pu_HS g (pu_HH g)) (X : pu_CHX g) (mR : xm_R g a_rights) (mC : xm_ch g a_chosen a_firstEnds a_secondEnds) (mZ : xm_Sz g a_sizes) (hv : pu_V g n i j) (h0 : 0 < pu_HH g n i j) (hz : pu_SZ g n i j ≤ 1000000000) (hk : k < pu_SZ g n i j) (hp : post (nI (cx (pu_ND g n i j k).1 (pu_ND g n i j k).2.1 (pu_ND g n i j k).2.2))) : wpX_findNode post (nI (gr_P g), nI (gr_L g), f_chartReady, f_countsReady, f_distancesReady, f_followsReady, f_filled, a_lefts, a_rights, a_ops, a_constants, a_text, a_heights, a_chosen, a_firstEnds, a_secondEnds, a_order, a_counts, a_distances, a_follows, a_sizes, a_values, a_operands, a_productive, a_used) (nI (cx n i j)) (nI k) := by
  have K8 : ∀ d dep, dep + d = 605 → ∀ n i j k, pu_V g n i j → 0 < pu_HH g n i j → pu_HH g n i j ≤ d → pu_SZ g n i j ≤ 1000000000 → k < pu_SZ g n i j → post (nI (cx (pu_ND g n i j k).1 (pu_ND g n i j k).2.1 (pu_ND g n i j k).2.2)) → wX_findNode_8 post (nI (gr_P g)) (nI (gr_L g)) f_chartReady f_countsReady f_distancesReady f_followsReady f_filled a_lefts a_rights a_ops a_constants a_text a_heights a_chosen a_firstEnds a_secondEnds a_order a_counts a_distances a_follows a_sizes a_values a_operands a_productive a_used (d + 1) (nI (cx n i j)) (nI k) (nI dep) := by
    intro d
    induction d with
    | zero => intro dep hd n i j k hv h0 hh; omega
    | succ d ih =>
      intro dep hd n i j k hv h0 hh hz hk hp
      refine br_f (nI_ge (b := 605) (by omega) (by decide)) (pk_le k 0 (fun l => ?_) (fun l => nm_r (e' := nI (k - 1)) (sb_m1 l) ⟨3 + 1, ?_⟩))
      · have : k = 0 := by omega
        subst this
        rw [pu_ND_0] at hp; exact hp
      · obtain ⟨m, hm, c, k', hk', l', e, eN⟩ := pu_ND_s W X hv h0 l hk
        obtain ⟨v', h0', hlt⟩ := (pu_part W X hv h0 hm).2.2.2.2 c
        have sl := pu_SZ_pt W X hv h0 hm
        rw [pu_pz_t c] at sl
        refine xs_fn30 (g := g) W X mR mC mZ hv h0 hz 3 0 rfl (k - 1) (by omega) (pu_lft3 W X hv h0 l hk) (fun a b cc k2 z => ?_)
        rw [e] at z
        cases z
        exact ih (dep + 1) (by omega) _ _ _ _ v' h0' (by omega) (by omega) l' (by rw [← eN]; exact hp)
  exact ⟨605 + 1, K8 605 0 rfl n i j k hv h0 (S n i j hv).2.2 hz hk hp⟩
end
end
section
/-! the component: values -/
theorem pu_k_le (g : gr_G) (p : Nat) : pu_k g p ≤ 3 := by unfold pu_k; (repeat' split) <;> omega
theorem pu_k_a {g : gr_G} {p m : Nat} (hm : m < 3) (h : gr_R g (3 * p + m) = 99) : pu_k g p ≤ m := by
  have : m = 0 ∨ m = 1 ∨ m = 2 := by omega
  obtain rfl | rfl | rfl := this
  · unfold pu_k; rw [if_pos (show gr_R g (3 * p) = 99 from h)]; exact Nat.le_refl _
  · unfold pu_k; rw [if_pos h]; split <;> omega
  · unfold pu_k; rw [if_pos h]; split <;> (try split) <;> omega
theorem pu_k_n {g : gr_G} {p m : Nat} (hm : m < 3) (h : gr_R g (3 * p + m) ≠ 99) (l : m ≤ pu_k g p) : m + 1 ≤ pu_k g p := by
  have : m = 0 ∨ m = 1 ∨ m = 2 := by omega
  obtain rfl | rfl | rfl := this
  · unfold pu_k; rw [if_neg (show ¬ gr_R g (3 * p) = 99 from h)]; split <;> (try split) <;> omega
  · unfold pu_k at *
    rw [if_neg h] at *
    split at l <;> split <;> (try split) <;> omega
  · unfold pu_k at *
    rw [if_neg h] at *
    split at l
    · omega
    · split at l
      · omega
      · rw [if_neg (by assumption), if_neg (by assumption)]; omega
theorem ev_v_t {op : Int32} {c : Int64} {k : Nat} {x : Nat → Int64} (h : ev_bad k x) : ev_v op c k x = ev_N := if_pos h
theorem ev_v_f {op : Int32} {c : Int64} {k : Nat} {x : Nat → Int64} (h : ¬ ev_bad k x) : ev_v op c k x = ev_act op c k x := if_neg h
section
variable {g : gr_G} {f_chartReady f_countsReady f_distancesReady f_followsReady f_filled : Int32} {a_lefts a_rights a_ops a_constants a_text a_heights a_chosen a_firstEnds a_secondEnds a_order a_counts a_distances a_follows a_sizes : Nat → Int32} {a_values a_operands : Nat → Int64} {a_productive a_used : Nat → Int32}
theorem xs_sumFrom {post : Int64 → Prop} {a k : Nat} {x : Nat → Int64} (hk : k ≤ 3) (ha : a ≤ k) (ho : ∀ m, m < k → a_operands m = x m) (h : post (ev_fold (fun s y => s + y) x (k - a) a 0)) : wpX_sumFrom post (nI (gr_P g), nI (gr_L g), f_chartReady, f_countsReady, f_distancesReady, f_followsReady, f_filled, a_lefts, a_rights, a_ops, a_constants, a_text, a_heights, a_chosen, a_firstEnds, a_secondEnds, a_order, a_counts, a_distances, a_follows, a_sizes, a_values, a_operands, a_productive, a_used) (nI a) (nI k) := by
  have K : ∀ d m s, m + d = k → post (ev_fold (fun s y => s + y) x d m s) → wX_sumFrom_5 post (nI k) (nI (gr_P g)) (nI (gr_L g)) f_chartReady f_countsReady f_distancesReady f_followsReady f_filled a_lefts a_rights a_ops a_constants a_text a_heights a_chosen a_firstEnds a_secondEnds a_order a_counts a_distances a_follows a_sizes a_values a_operands a_productive a_used (d + 1) s (nI m) := by
    intro d
    induction d with
    | zero => intro m s hm hp; exact br_t (nI_le (by omega) (by omega)) hp
    | succ d ih =>
      intro m s hm hp
      exact br_f (nI_ge (by omega) (by omega)) ⟨vp_in_nI (by omega) (by decide), nm_r (e' := s + x m) (by rw [nI_clamp (by omega), ho m (by omega)]) (nm_r (nI_1 m) (ih (m + 1) _ (by omega) hp))⟩
  exact ⟨k - a + 1, K (k - a) a 0 (by omega) h⟩
theorem xs_timesAll {post : Int64 → Prop} {k : Nat} {c : Int64} {x : Nat → Int64} (hk : k ≤ 3) (ho : ∀ m, m < k → a_operands m = x m) (h : post (ev_fold (fun s y => s * y) x k 0 c)) : wpX_timesAll post (nI (gr_P g), nI (gr_L g), f_chartReady, f_countsReady, f_distancesReady, f_followsReady, f_filled, a_lefts, a_rights, a_ops, a_constants, a_text, a_heights, a_chosen, a_firstEnds, a_secondEnds, a_order, a_counts, a_distances, a_follows, a_sizes, a_values, a_operands, a_productive, a_used) c (nI k) := by
  have K : ∀ d m s, m + d = k → post (ev_fold (fun s y => s * y) x d m s) → wX_timesAll_6 post (nI k) (nI (gr_P g)) (nI (gr_L g)) f_chartReady f_countsReady f_distancesReady f_followsReady f_filled a_lefts a_rights a_ops a_constants a_text a_heights a_chosen a_firstEnds a_secondEnds a_order a_counts a_distances a_follows a_sizes a_values a_operands a_productive a_used (d + 1) s (nI m) := by
    intro d
    induction d with
    | zero => intro m s hm hp; exact br_t (nI_le (by omega) (by omega)) hp
    | succ d ih =>
      intro m s hm hp
      exact br_f (nI_ge (by omega) (by omega)) ⟨vp_in_nI (by omega) (by decide), nm_r (e' := s * x m) (by rw [nI_clamp (by omega), ho m (by omega)]) (nm_r (nI_1 m) (ih (m + 1) _ (by omega) hp))⟩
  exact ⟨k + 1, K k 0 c (by omega) h⟩
theorem xs_digits {post : Int64 → Prop} {k : Nat} {c : Int64} {x : Nat → Int64} (hk : k ≤ 3) (ho : ∀ m, m < k → a_operands m = x m) (h : post (ev_fold (fun s y => 10 * s + y) x k 0 c)) : wpX_digits post (nI (gr_P g), nI (gr_L g), f_chartReady, f_countsReady, f_distancesReady, f_followsReady, f_filled, a_lefts, a_rights, a_ops, a_constants, a_text, a_heights, a_chosen, a_firstEnds, a_secondEnds, a_order, a_counts, a_distances, a_follows, a_sizes, a_values, a_operands, a_productive, a_used) c (nI k) := by
  have K : ∀ d m s, m + d = k → post (ev_fold (fun s y => 10 * s + y) x d m s) → wX_digits_6 post (nI k) (nI (gr_P g)) (nI (gr_L g)) f_chartReady f_countsReady f_distancesReady f_followsReady f_filled a_lefts a_rights a_ops a_constants a_text a_heights a_chosen a_firstEnds a_secondEnds a_order a_counts a_distances a_follows a_sizes a_values a_operands a_productive a_used (d + 1) s (nI m) := by
    intro d
    induction d with
    | zero => intro m s hm hp; exact br_t (nI_le (by omega) (by omega)) hp
    | succ d ih =>
      intro m s hm hp
      exact br_f (nI_ge (by omega) (by omega)) ⟨vp_in_nI (by omega) (by decide), nm_r (e' := 10 * s + x m) (by rw [nI_clamp (by omega), ho m (by omega)]) (nm_r (nI_1 m) (ih (m + 1) _ (by omega) hp))⟩
  exact ⟨k + 1, K k 0 c (by omega) h⟩
theorem xs_greatest {post : Int64 → Prop} {k : Nat} {c : Int64} {x : Nat → Int64} (hk : k ≤ 3) (ho : ∀ m, m < k → a_operands m = x m) (h : post (ev_fold ev_gr x k 0 c)) : wpX_greatest post (nI (gr_P g), nI (gr_L g), f_chartReady, f_countsReady, f_distancesReady, f_followsReady, f_filled, a_lefts, a_rights, a_ops, a_constants, a_text, a_heights, a_chosen, a_firstEnds, a_secondEnds, a_order, a_counts, a_distances, a_follows, a_sizes, a_values, a_operands, a_productive, a_used) c (nI k) := by
  have K : ∀ d m s, m + d = k → post (ev_fold ev_gr x d m s) → wX_greatest_6 post (nI k) (nI (gr_P g)) (nI (gr_L g)) f_chartReady f_countsReady f_distancesReady f_followsReady f_filled a_lefts a_rights a_ops a_constants a_text a_heights a_chosen a_firstEnds a_secondEnds a_order a_counts a_distances a_follows a_sizes a_values a_operands a_productive a_used (d + 1) s (nI m) := by
    intro d
    induction d with
    | zero => intro m s hm hp; exact br_t (nI_le (by omega) (by omega)) hp
    | succ d ih =>
      intro m s hm hp
      have eo : a_operands (nI m).toNatClampNeg = x m := by rw [nI_clamp (by omega), ho m (by omega)]
      have hp' : post (ev_fold ev_gr x d (m + 1) (ev_gr s (x m))) := hp
      refine br_f (nI_ge (by omega) (by omega)) ⟨vp_in_nI (by omega) (by decide), br_c (fun c => nm_r (nI_1 m) (ih (m + 1) _ (by omega) ?_)) (fun c => ⟨vp_in_nI (by omega) (by decide), nm_r (e' := x m) eo (nm_r (nI_1 m) (ih (m + 1) _ (by omega) ?_))⟩)⟩
      · rw [eo] at c
        unfold ev_gr at hp'; rw [if_pos c] at hp'; exact hp'
      · rw [eo] at c
        unfold ev_gr at hp'; rw [if_neg c] at hp'; exact hp'
  exact ⟨k + 1, K k 0 c (by omega) h⟩
theorem xs_quotient {post : Int64 → Prop} {k : Nat} {c : Int64} {x : Nat → Int64} (hk : k ≤ 3) (ho : ∀ m, m < k → a_operands m = x m) (h : post (if k = 0 then c else if c + ev_fold (fun s y => s + y) x (k - 1) 1 0 = 0 then ev_N else x 0 / (c + ev_fold (fun s y => s + y) x (k - 1) 1 0))) : wpX_quotient post (nI (gr_P g), nI (gr_L g), f_chartReady, f_countsReady, f_distancesReady, f_followsReady, f_filled, a_lefts, a_rights, a_ops, a_constants, a_text, a_heights, a_chosen, a_firstEnds, a_secondEnds, a_order, a_counts, a_distances, a_follows, a_sizes, a_values, a_operands, a_productive, a_used) c (nI k) := by
  refine pk_eq k 0 (fun e => ?_) (fun e => ?_)
  · rw [if_pos e] at h; exact h
  · rw [if_neg e] at h
    refine xs_sumFrom (g := g) (a := 1) (x := x) hk (by omega) ho (nm_e (br_c (fun z => ?_) (fun z => ⟨z, ?_⟩)))
    · rw [if_pos z] at h; exact h
    · rw [if_neg z] at h
      rw [ho 0 (by omega)]; exact h
theorem xs_act {post : Int64 → Prop} {k o : Nat} {c : Int64} {x : Nat → Int64} (hk : k ≤ 3) (ho8 : o < 8) (ho : ∀ m, m < k → a_operands m = x m) (h : post (ev_act (nI o) c k x)) : wpX_act post (nI (gr_P g), nI (gr_L g), f_chartReady, f_countsReady, f_distancesReady, f_followsReady, f_filled, a_lefts, a_rights, a_ops, a_constants, a_text, a_heights, a_chosen, a_firstEnds, a_secondEnds, a_order, a_counts, a_distances, a_follows, a_sizes, a_values, a_operands, a_productive, a_used) (nI o) c (nI k) := by
  have cs : o = 0 ∨ o = 1 ∨ o = 2 ∨ o = 3 ∨ o = 4 ∨ o = 5 ∨ o = 6 ∨ o = 7 := by omega
  unfold ev_act at h
  obtain rfl | rfl | rfl | rfl | rfl | rfl | rfl | rfl := cs
  · rw [if_neg (by decide), if_neg (by decide), if_neg (by decide), if_neg (by decide), if_neg (by decide), if_neg (by decide), if_neg (by decide)] at h
    exact br_t (by decide) h
  · rw [if_pos (by decide)] at h
    exact br_f (by decide) (br_f (by decide) (br_t (by decide) (xs_sumFrom (g := g) (a := 0) (x := x) hk (by omega) ho h)))
  · rw [if_neg (by decide), if_pos (by decide)] at h
    exact br_f (by decide) (br_f (by decide) (br_f (by decide) (br_t (by decide) (xs_timesAll (g := g) (x := x) hk ho h))))
  · rw [if_neg (by decide), if_neg (by decide), if_pos (by decide)] at h
    refine br_f (by decide) (br_f (by decide) (br_f (by decide) (br_f (by decide) (br_t (by decide) (pk_eq k 0 (fun e => ?_) (fun e => ?_))))))
    · rw [if_pos e] at h; exact h
    · rw [if_neg e] at h
      refine xs_sumFrom (g := g) (a := 1) (x := x) hk (by omega) ho ?_
      rw [ho 0 (by omega)]; exact h
  · rw [if_neg (by decide), if_neg (by decide), if_neg (by decide), if_pos (by decide)] at h
    exact br_f (by decide) (br_f (by decide) (br_f (by decide) (br_f (by decide) (br_f (by decide) (br_t (by decide) (xs_digits (g := g) (x := x) hk ho h))))))
  · rw [if_neg (by decide), if_neg (by decide), if_neg (by decide), if_neg (by decide), if_pos (by decide)] at h
    exact br_f (by decide) (br_f (by decide) (br_f (by decide) (br_f (by decide) (br_f (by decide) (br_f (by decide) (br_t (by decide) (xs_greatest (g := g) (x := x) hk ho h)))))))
  · rw [if_neg (by decide), if_neg (by decide), if_neg (by decide), if_neg (by decide), if_neg (by decide), if_pos (by decide)] at h
    exact br_f (by decide) (br_f (by decide) (br_f (by decide) (br_f (by decide) (br_f (by decide) (br_f (by decide) (br_f (by decide) (br_t (by decide) (xs_quotient (g := g) (x := x) hk ho h))))))))
  · rw [if_neg (by decide), if_neg (by decide), if_neg (by decide), if_neg (by decide), if_neg (by decide), if_neg (by decide), if_pos (by decide)] at h
    refine br_f (by decide) (br_f (by decide) (br_f (by decide) (br_f (by decide) (br_f (by decide) (br_f (by decide) (br_f (by decide) (br_f (by decide) (br_t (by decide) (pk_eq k 0 (fun e => ?_) (fun e => ?_))))))))))
    · rw [if_pos e] at h; exact h
    · rw [if_neg e] at h
      refine br_c (fun z => ?_) (fun z => ?_)
      · rw [ho 0 (by omega)] at z
        rw [if_pos z] at h
        rw [ho 0 (by omega)]; exact h
      · rw [ho 0 (by omega)] at z
        rw [if_neg z] at h
        obtain ⟨q, rfl⟩ : ∃ q, k = q + 1 := ⟨k - 1, by omega⟩
        rw [nI_pred]
        refine ⟨vp_in_nI (by omega) (by decide), ?_⟩
        rw [nI_clamp (by omega), ho q (by omega)]; exact h
theorem xs_fillOperands {post : Int32 → SX → Prop} {n i j : Nat} {z : pu_C6} (W : gr_W g) (X : pu_CHX g) (mR : xm_R g a_rights) (mC : xm_ch g a_chosen a_firstEnds a_secondEnds) (hv : pu_V g n i j) (h0 : 0 < pu_HH g n i j)
    (mV : ∀ m, m < 3 → pu_nt (pu_s g n i j m) → a_values (cx (pu_s g n i j m - 10) (pu_b g n i j m) (pu_e g n i j m)) = z (pu_s g n i j m - 10) (pu_b g n i j m) (pu_e g n i j m))
    (hbad : ∀ (a_operands : Nat → Int64), ev_bad (pu_k g (pu_cp g n i j)) (pu_pv g z n i j) → post (-1) (nI (gr_P g), nI (gr_L g), f_chartReady, f_countsReady, f_distancesReady, f_followsReady, f_filled, a_lefts, a_rights, a_ops, a_constants, a_text, a_heights, a_chosen, a_firstEnds, a_secondEnds, a_order, a_counts, a_distances, a_follows, a_sizes, a_values, a_operands, a_productive, a_used))
    (hgood : ∀ (a_operands : Nat → Int64), ¬ ev_bad (pu_k g (pu_cp g n i j)) (pu_pv g z n i j) → (∀ m, m < pu_k g (pu_cp g n i j) → a_operands m = pu_pv g z n i j m) → post (nI (pu_k g (pu_cp g n i j))) (nI (gr_P g), nI (gr_L g), f_chartReady, f_countsReady, f_distancesReady, f_followsReady, f_filled, a_lefts, a_rights, a_ops, a_constants, a_text, a_heights, a_chosen, a_firstEnds, a_secondEnds, a_order, a_counts, a_distances, a_follows, a_sizes, a_values, a_operands, a_productive, a_used)) : wpX_fillOperands post (nI (gr_P g), nI (gr_L g), f_chartReady, f_countsReady, f_distancesReady, f_followsReady, f_filled, a_lefts, a_rights, a_ops, a_constants, a_text, a_heights, a_chosen, a_firstEnds, a_secondEnds, a_order, a_counts, a_distances, a_follows, a_sizes, a_values, a_operands, a_productive, a_used) (nI (cx n i j)) := by
  have hl := cx_lt W hv
  have hin : vp_in (nI (cx n i j)) 605 := vp_in_nI hl (by decide)
  have ec : (nI (cx n i j)).toNatClampNeg = cx n i j := nI_clamp (by omega)
  have hP := W.1
  have k3 := pu_k_le g (pu_cp g n i j)
  obtain ⟨e1, _, _⟩ := mC n i j hv h0
  have hp : (pu_ch g n i j).1 < gr_P g := (pu_part W X hv h0 (m := 0) (by decide)).1
  have K2 : ∀ d m, m + d = 3 → ∀ (a_operands : Nat → Int64), m ≤ pu_k g (pu_cp g n i j) → (∀ q, q < m → pu_pv g z n i j q ≠ ev_N ∧ a_operands q = pu_pv g z n i j q) → wX_fillOperands_2 post (nI (cx n i j)) (nI (gr_P g)) (nI (gr_L g)) f_chartReady f_countsReady f_distancesReady f_followsReady f_filled (d + 1) (nI m) a_lefts a_rights a_ops a_constants a_text a_heights a_chosen a_firstEnds a_secondEnds a_order a_counts a_distances a_follows a_sizes a_values a_operands a_productive a_used := by
    intro d
    induction d with
    | zero =>
      intro m hm a_operands hk hist
      have e : m = 3 := by omega
      subst e
      have ek : pu_k g (pu_cp g n i j) = 3 := by omega
      have G := hgood a_operands (fun ⟨q, hq, e⟩ => (hist q (by omega)).1 e) (fun q hq => (hist q (by omega)).2)
      rw [ek] at G
      exact br_t (nI_le (a := 3) (b := 3) (by decide) (by decide)) G
    | succ d ih =>
      intro m hm a_operands hk hist
      have ok : pu_ok (pu_s g n i j m) := (pu_part W X hv h0 (m := m) (by omega)).2.1
      refine br_f (nI_ge (b := 3) (by omega) (by decide)) ⟨hin, by rw [ec, e1]; exact xb_i (by omega) (by omega), nm_r (e' := sy_m (pu_s g n i j m)) (by rw [ec, e1]; exact xm_Rm W mR hp (by omega)) ?_⟩
      refine ek_if (sy_e1 ok) (fun e => ?_) (fun e => ?_)
      · have ek : pu_k g (pu_cp g n i j) = m := by have := pu_k_a (p := pu_cp g n i j) (show m < 3 by omega) e; omega
        have G := hgood a_operands (fun ⟨q, hq, e⟩ => (hist q (by omega)).1 e) (fun q hq => (hist q (by omega)).2)
        rw [ek] at G
        exact G
      · have hk' := pu_k_n (p := pu_cp g n i j) (show m < 3 by omega) e hk
        have T : ∀ y : Int64, y = pu_pv g z n i j m → wX_fillOperands_61 post (wX_fillOperands_2 post (nI (cx n i j)) (nI (gr_P g)) (nI (gr_L g)) f_chartReady f_countsReady f_distancesReady f_followsReady f_filled (d + 1)) (nI (cx n i j)) (nI m) y (nI m) (nI (gr_P g)) (nI (gr_L g)) f_chartReady f_countsReady f_distancesReady f_followsReady f_filled a_lefts a_rights a_ops a_constants a_text a_heights a_chosen a_firstEnds a_secondEnds a_order a_counts a_distances a_follows a_sizes a_values a_operands a_productive a_used := by
          intro y ey
          subst ey
          refine ⟨vp_in_nI (by omega) (by decide), nm_r (e' := vp_updL a_operands m (pu_pv g z n i j m)) (by rw [nI_clamp (by omega)]) ⟨vp_in_nI (by omega) (by decide), ?_⟩⟩
          rw [nI_clamp (by omega), pk_uLs]
          refine br_c (fun b => hbad _ ⟨m, by omega, b⟩) (fun b => nm_r (nI_1 m) (ih (m + 1) (by omega) _ hk' (fun q hq => ?_)))
          by_cases c : q = m
          · rw [c, pk_uLs]; exact ⟨b, rfl⟩
          · rw [pk_uLn c]; exact hist q (by omega)
        refine xs_inner (g := g) W X mR mC hv h0 (m := m) (by omega) rfl (fun c => br_t rfl (T _ (pu_pv_f (fun q => c q.2)).symm)) (fun c => ?_)
        have hl' := cx_lt W ((pu_part W X hv h0 (m := m) (by omega)).2.2.2.2 c).1
        refine br_f (xb_neg1 _ (by omega)) ⟨vp_in_nI hl' (by decide), T _ ?_⟩
        rw [nI_clamp (by omega), mV m (by omega) c, pu_pv_t (by omega) c]
  exact ⟨3 + 1, K2 3 0 rfl a_operands (by omega) (fun q hq => by omega)⟩
def xm_Vl (g : gr_G) (ops cs : Nat → Int32) (vals : Nat → Int64) : Prop := ∀ n i j, pu_V g n i j → vals (cx n i j) = pu_VL g ops cs n i j
def xv_P (g : gr_G) (ops cs : Nat → Int32) (ord : Nat → Int32) (k : Nat) (vals : Nat → Int64) : Prop := (∀ n i j, pu_V g n i j → vals (cx n i j) = ev_N ∨ vals (cx n i j) = pu_VL g ops cs n i j) ∧ (∀ k', k' < k → ∀ n i j, pu_V g n i j → ord k' = nI (cx n i j) → vals (cx n i j) = pu_VL g ops cs n i j)
theorem xs_fillValues {post : SX → Prop} {fl : Nat} (W : gr_W g) (mR : xm_R g a_rights) (mO : ∀ p, p < gr_P g → ∃ o, o < 8 ∧ a_ops p = nI o) (C : xm_Chart g a_heights a_chosen a_firstEnds a_secondEnds a_order fl)
    (hpost : ∀ (a_values a_operands : Nat → Int64), xm_Vl g a_ops a_constants a_values → post (nI (gr_P g), nI (gr_L g), f_chartReady, f_countsReady, f_distancesReady, f_followsReady, nI fl, a_lefts, a_rights, a_ops, a_constants, a_text, a_heights, a_chosen, a_firstEnds, a_secondEnds, a_order, a_counts, a_distances, a_follows, a_sizes, a_values, a_operands, a_productive, a_used)) : wpX_fillValues post (nI (gr_P g), nI (gr_L g), f_chartReady, f_countsReady, f_distancesReady, f_followsReady, nI fl, a_lefts, a_rights, a_ops, a_constants, a_text, a_heights, a_chosen, a_firstEnds, a_secondEnds, a_order, a_counts, a_distances, a_follows, a_sizes, a_values, a_operands, a_productive, a_used) := by
  have hfl : fl ≤ 605 := by rw [C.2.2.1]; exact pu_cnt_le _ _
  have hP := W.1
  obtain ⟨X, mC⟩ := xm_chs C
  have K26 : ∀ d k, k + d = fl → ∀ (a_values a_operands : Nat → Int64), xv_P g a_ops a_constants a_order k a_values → wX_fillValues_26 post (d + 1) (nI k) (nI (gr_P g)) (nI (gr_L g)) f_chartReady f_countsReady f_distancesReady f_followsReady (nI fl) a_lefts a_rights a_ops a_constants a_text a_heights a_chosen a_firstEnds a_secondEnds a_order a_counts a_distances a_follows a_sizes a_values a_operands a_productive a_used := by
    intro d
    induction d with
    | zero =>
      intro k hk a_values a_operands I
      have e : k = fl := by omega
      subst e
      refine br_t (nI_le (Nat.le_refl _) (by omega)) (hpost a_values a_operands (fun n i j hv => ?_))
      by_cases c : pu_HH g n i j = 0
      · have := I.1 n i j hv
        rw [pu_VL_0 c] at *
        obtain h | h := this <;> exact h
      · obtain ⟨k', hk', e⟩ := C.2.2.2.2.2.2 n i j hv (by omega)
        exact I.2 k' hk' n i j hv e
    | succ d ih =>
      intro k hk a_values a_operands I
      obtain ⟨n, i, j, hv, eo, h0⟩ := C.2.2.2.2.1 k (by omega)
      have hl := cx_lt W hv
      have hin : vp_in (nI (cx n i j)) 605 := vp_in_nI hl (by decide)
      have ec : (nI (cx n i j)).toNatClampNeg = cx n i j := nI_clamp (by omega)
      obtain ⟨e1, _, _⟩ := mC n i j hv h0
      have hp : pu_cp g n i j < gr_P g := (pu_part W X hv h0 (m := 0) (by decide)).1
      have eV := pu_VL_eq (ops := a_ops) (cs := a_constants) W X hv h0
      refine br_f (nI_ge (by omega) (by omega)) ⟨vp_in_nI (by omega) (by decide), nm_r (e' := nI (cx n i j)) (by rw [nI_clamp (by omega)]; exact eo) ⟨hin, nm_r (e' := nI (pu_cp g n i j)) (by rw [ec]; exact e1) ?_⟩⟩
      refine xs_fillOperands (g := g) (z := pu_VL g a_ops a_constants) W X mR mC hv h0 (fun m hm c => ?_) (fun a_operands' bad => br_t rfl (nm_r (nI_1 k) (ih (k + 1) (by omega) _ _ ⟨I.1, fun k' hk' n' i' j' hv' e' => ?_⟩))) (fun a_operands' good ho => br_f (xb_neg1 _ (by have := pu_k_le g (pu_cp g n i j); omega)) ⟨vp_in_nI (by omega) (by decide), vp_in_nI (by omega) (by decide), ?_⟩)
      · obtain ⟨v', h0', hlt⟩ := (pu_part W X hv h0 hm).2.2.2.2 c
        obtain ⟨k', hk', e'⟩ := xm_before C (show k < fl by omega) hv eo v' h0' hlt
        exact I.2 k' hk' _ _ _ v' e'
      · by_cases q : k' = k
        · rw [q, eo] at e'
          obtain ⟨rfl, rfl, rfl⟩ := cx_inj W hv hv' e'
          have := I.1 n i j hv
          rw [eV, ev_v_t bad] at *
          obtain h | h := this <;> exact h
        · exact I.2 k' (by omega) n' i' j' hv' e'
      · obtain ⟨o, ho8, eo8⟩ := mO _ hp
        rw [show (nI (pu_cp g n i j)).toNatClampNeg = pu_cp g n i j from nI_clamp (by omega), eo8]
        rw [eo8, ev_v_f good] at eV
        refine xs_act (g := g) (x := pu_pv g (pu_VL g a_ops a_constants) n i j) (pu_k_le _ _) ho8 ho ⟨hin, nm_r (e' := vp_updL a_values (cx n i j) (pu_VL g a_ops a_constants n i j)) (by rw [ec, eV]) (nm_r (nI_1 k) (ih (k + 1) (by omega) _ _ ⟨fun n' i' j' hv' => ?_, fun k' hk' n' i' j' hv' e' => ?_⟩))⟩
        · by_cases zz : cx n' i' j' = cx n i j
          · obtain ⟨rfl, rfl, rfl⟩ := cx_inj W hv' hv (congrArg nI zz)
            exact Or.inr pk_uLs
          · rw [pk_uLn zz]; exact I.1 n' i' j' hv'
        · by_cases zz : cx n' i' j' = cx n i j
          · obtain ⟨rfl, rfl, rfl⟩ := cx_inj W hv' hv (congrArg nI zz)
            exact pk_uLs
          · rw [pk_uLn zz]
            by_cases q : k' = k
            · rw [q, eo] at e'
              exact absurd (by obtain ⟨rfl, rfl, rfl⟩ := cx_inj W hv hv' e'; rfl) zz
            · exact I.2 k' (by omega) n' i' j' hv' e'
  have K2 : ∀ d x, x + d = 605 → ∀ (a_values : Nat → Int64), (∀ y, y < x → a_values y = ev_N) → wX_fillValues_2 post (nI (gr_P g)) (nI (gr_L g)) f_chartReady f_countsReady f_distancesReady f_followsReady (nI fl) (d + 1) (nI x) a_lefts a_rights a_ops a_constants a_text a_heights a_chosen a_firstEnds a_secondEnds a_order a_counts a_distances a_follows a_sizes a_values a_operands a_productive a_used := by
    intro d
    induction d with
    | zero =>
      intro x hx a_values hz
      have e : x = 605 := by omega
      subst e
      exact br_t (nI_le (a := 605) (b := 605) (by decide) (by decide)) ⟨fl + 1, K26 fl 0 (by omega) a_values a_operands ⟨fun n i j hv => Or.inl (hz _ (cx_lt W hv)), fun k' hk' => by omega⟩⟩
    | succ d ih =>
      intro x hx a_values hz
      refine br_f (nI_ge (b := 605) (by omega) (by decide)) ⟨vp_in_nI (by omega) (by decide), nm_r (e' := vp_updL a_values x ev_N) (by rw [nI_clamp (by omega)]; rfl) (nm_r (nI_1 x) (ih (x + 1) (by omega) _ (fun y hy => ?_)))⟩
      by_cases c : y = x
      · rw [c, pk_uLs]
      · rw [pk_uLn c]; exact hz y (by omega)
  exact ⟨605 + 1, K2 605 0 rfl _ (fun y hy => absurd hy (by omega))⟩
end
end
section
/-! distances: pure -/
def pd_tk (g : gr_G) (s i j : Nat) : Prop := ∃ k, i ≤ k ∧ k < j ∧ gr_T g k = s
noncomputable def pd_aw (g : gr_G) (D : pu_C) (s i j : Nat) : Nat := if s = 99 then j - i else if s < 10 then (if i = j then 1 else @ite _ (pd_tk g s i j) (Classical.propDecidable _) (j - i - 1) (j - i)) else D (s - 10) i j
noncomputable def pd_sm (g : gr_G) (D : pu_C) (p i u v j : Nat) : Nat := pd_aw g D (gr_R g (3 * p)) i u + pd_aw g D (gr_R g (3 * p + 1)) u v + pd_aw g D (gr_R g (3 * p + 2)) v j
def pd_le (g : gr_G) (D D' : pu_C) : Prop := ∀ n i j, pu_V g n i j → D n i j ≤ D' n i j
def pd_X (g : gr_G) (D : pu_C) : Prop := (∀ n i j, pu_V g n i j → D n i j ≤ 1000000) ∧ ∀ p i u v j, p < gr_P g → i ≤ u → u ≤ v → v ≤ j → j ≤ gr_L g → D (gr_F g p) i j ≤ pd_sm g D p i u v j
def pd_Y (g : gr_G) (D : pu_C) : Prop := (∀ n i j, pu_V g n i j → D n i j ≤ 1000000) ∧ ∀ p i u v j, p < gr_P g → i ≤ u → u ≤ v → v ≤ j → j ≤ gr_L g → (gr_R g (3 * p + 2) = 99 → v = j) → (gr_R g (3 * p + 1) = 99 → u = j) → D (gr_F g p) i j ≤ pd_sm g D p i u v j
def pd_S (g : gr_G) (D : pu_C) : Prop := pd_X g D ∧ ∀ D', pd_X g D' → pd_le g D' D
def pd_SY (g : gr_G) (D : pu_C) : Prop := pd_Y g D ∧ ∀ D', pd_Y g D' → pd_le g D' D
section
variable {g : gr_G} {D D' : pu_C}
theorem pd_aw_a {s i j : Nat} (h : s = 99) : pd_aw g D s i j = j - i := if_pos h
theorem pd_aw_n {s i j : Nat} (h : pu_nt s) : pd_aw g D s i j = D (s - 10) i j := by
  unfold pu_nt at h
  unfold pd_aw; rw [if_neg (by omega), if_neg (by omega)]
theorem pd_aw_t1 {s i j : Nat} (h : s < 10) (e : i = j) : pd_aw g D s i j = 1 := by
  unfold pd_aw; rw [if_neg (by omega), if_pos h, if_pos e]
theorem pd_aw_t2 {s i j : Nat} (h : s < 10) (e : i ≠ j) (t : pd_tk g s i j) : pd_aw g D s i j = j - i - 1 := by
  unfold pd_aw; rw [if_neg (by omega), if_pos h, if_neg e, if_pos t]
theorem pd_aw_t3 {s i j : Nat} (h : s < 10) (e : i ≠ j) (t : ¬ pd_tk g s i j) : pd_aw g D s i j = j - i := by
  unfold pd_aw; rw [if_neg (by omega), if_pos h, if_neg e, if_neg t]
theorem pd_aw_mono (M : pd_le g D D') {s i j : Nat} (ok : pu_ok s) (hij : i ≤ j) (hj : j ≤ gr_L g) : pd_aw g D s i j ≤ pd_aw g D' s i j := by
  by_cases c : pu_nt s
  · rw [pd_aw_n c, pd_aw_n c]; exact M _ _ _ (xb_ntV ok c hij hj)
  · unfold pu_nt at c
    unfold pu_ok at ok
    unfold pd_aw
    by_cases c1 : s = 99
    · rw [if_pos c1, if_pos c1]; exact Nat.le_refl _
    · have c2 : s < 10 := by omega
      rw [if_neg c1, if_neg c1, if_pos c2, if_pos c2]; exact Nat.le_refl _
theorem pd_sm_mono (W : gr_W g) (M : pd_le g D D') {p i u v j : Nat} (hp : p < gr_P g) (h1 : i ≤ u) (h2 : u ≤ v) (h3 : v ≤ j) (hj : j ≤ gr_L g) : pd_sm g D p i u v j ≤ pd_sm g D' p i u v j := by
  have a := pd_aw_mono M (pu_okR0 W hp) h1 (by omega)
  have b := pd_aw_mono M (pu_okR W hp (m := 1) (by decide)) h2 (by omega)
  have c := pd_aw_mono M (pu_okR W hp (m := 2) (by decide)) h3 hj
  unfold pd_sm; omega
theorem pd_eq (a : pd_S g D) (b : pd_S g D') {n i j : Nat} (hv : pu_V g n i j) : D n i j = D' n i j := by
  have h1 := b.2 D a.1 n i j hv
  have h2 := a.2 D' b.1 n i j hv
  omega
theorem pd_max (Q : Nat → Prop) : ∀ N, ∃ m, m ≤ N ∧ (∀ k, k ≤ N → Q k → k ≤ m) ∧ (m = 0 ∨ Q m) := by
  intro N
  induction N with
  | zero => exact ⟨0, Nat.le_refl _, fun k hk _ => hk, Or.inl rfl⟩
  | succ N ih =>
    by_cases c : Q (N + 1)
    · exact ⟨N + 1, Nat.le_refl _, fun k hk _ => hk, Or.inr c⟩
    · obtain ⟨m, h1, h2, h3⟩ := ih
      refine ⟨m, by omega, fun k hk q => ?_, h3⟩
      by_cases e : k = N + 1
      · rw [e] at q; exact absurd q c
      · exact h2 k (by omega) q
theorem pd_ex (W : gr_W g) : ∃ D, pd_S g D := by
  have M : ∀ x : Nat × Nat × Nat, ∃ m, m ≤ 1000000 ∧ (∀ k, k ≤ 1000000 → (∃ D', pd_X g D' ∧ k ≤ D' x.1 x.2.1 x.2.2) → k ≤ m) ∧ (m = 0 ∨ ∃ D', pd_X g D' ∧ m ≤ D' x.1 x.2.1 x.2.2) := fun x => pd_max _ 1000000
  obtain ⟨f, hf⟩ := Classical.axiomOfChoice M
  have G : ∀ D', pd_X g D' → pd_le g D' (fun n i j => f (n, i, j)) := fun D' x n i j hv => (hf (n, i, j)).2.1 _ (x.1 n i j hv) ⟨D', x, Nat.le_refl _⟩
  refine ⟨fun n i j => f (n, i, j), ⟨fun n i j _ => (hf (n, i, j)).1, fun p i u v j hp h1 h2 h3 hj => ?_⟩, G⟩
  obtain e | ⟨D', x, e⟩ := (hf (gr_F g p, i, j)).2.2
  · show f (gr_F g p, i, j) ≤ _
    omega
  · have a := x.2 p i u v j hp h1 h2 h3 hj
    have b := pd_sm_mono W (G D' x) hp h1 h2 h3 hj
    exact Nat.le_trans e (Nat.le_trans a b)
end
noncomputable def pd_D (g : gr_G) : pu_C := Classical.epsilon (pd_S g)
theorem pd_D_s {g : gr_G} (W : gr_W g) : pd_S g (pd_D g) := Classical.epsilon_spec (p := pd_S g) (pd_ex W)
theorem pd_D_e {g : gr_G} (W : gr_W g) {D : pu_C} (S : pd_S g D) {n i j : Nat} (hv : pu_V g n i j) : D n i j = pd_D g n i j := pd_eq S (pd_D_s W) hv
/-! a longer text costs at most one more a token -/
def pd_E (g : gr_G) (D : pu_C) : pu_C := fun n i j => if j + 1 ≤ gr_L g then (if D n i j ≤ D n i (j + 1) - 1 then D n i (j + 1) - 1 else D n i j) else D n i j
section
variable {g : gr_G} {D : pu_C}
theorem pd_E_ge (n i j : Nat) : D n i j ≤ pd_E g D n i j := by unfold pd_E; (repeat' split) <;> omega
theorem pd_E_ge2 {n i j : Nat} (h : j + 1 ≤ gr_L g) : D n i (j + 1) ≤ pd_E g D n i j + 1 := by unfold pd_E; rw [if_pos h]; split <;> omega
theorem pd_E_aw {s i j : Nat} (ok : pu_ok s) (hij : i ≤ j) (hj : j + 1 ≤ gr_L g) : pd_aw g D s i (j + 1) ≤ pd_aw g (pd_E g D) s i j + 1 := by
  by_cases c : pu_nt s
  · rw [pd_aw_n c, pd_aw_n c]; exact pd_E_ge2 hj
  · by_cases c1 : s = 99
    · rw [pd_aw_a c1, pd_aw_a c1]; omega
    · have c2 : s < 10 := by unfold pu_nt at c; unfold pu_ok at ok; omega
      by_cases t : pd_tk g s i (j + 1)
      · rw [pd_aw_t2 c2 (by omega) t]
        by_cases e : i = j
        · rw [pd_aw_t1 c2 e]; omega
        · by_cases t' : pd_tk g s i j
          · rw [pd_aw_t2 c2 e t']; omega
          · rw [pd_aw_t3 c2 e t']; omega
      · rw [pd_aw_t3 c2 (by omega) t]
        by_cases e : i = j
        · rw [pd_aw_t1 c2 e]; omega
        · rw [pd_aw_t3 c2 e (fun ⟨k, h1, h2, h3⟩ => t ⟨k, h1, by omega, h3⟩)]; omega
theorem pd_E_Y (W : gr_W g) (Y : pd_Y g D) : pd_Y g (pd_E g D) := by
  refine ⟨fun n i j hv => ?_, fun p i u v j hp h1 h2 h3 hj c2 c1 => ?_⟩
  · have a := Y.1 n i j hv
    unfold pd_E
    by_cases c : j + 1 ≤ gr_L g
    · have b := Y.1 n i (j + 1) ⟨hv.1, by have := hv.2.1; omega, c⟩
      rw [if_pos c]; split <;> omega
    · rw [if_neg c]; exact a
  · have A := Y.2 p i u v j hp h1 h2 h3 hj c2 c1
    have B := pd_sm_mono W (D := D) (D' := pd_E g D) (fun n i j _ => pd_E_ge n i j) hp h1 h2 h3 hj
    have ok0 := pu_okR0 W hp
    have ok1 := pu_okR W hp (m := 1) (by decide)
    have ok2 := pu_okR W hp (m := 2) (by decide)
    have gp := W.2.2.2.2.1 p hp
    have Z : j + 1 ≤ gr_L g → D (gr_F g p) i (j + 1) ≤ pd_sm g (pd_E g D) p i u v j + 1 := by
      intro hL
      have m0 := pd_aw_mono (g := g) (D := D) (D' := pd_E g D) (fun n i j _ => pd_E_ge n i j) ok0 h1 (by omega)
      have m1 := pd_aw_mono (g := g) (D := D) (D' := pd_E g D) (fun n i j _ => pd_E_ge n i j) ok1 h2 (by omega)
      by_cases r2 : gr_R g (3 * p + 2) = 99
      · have e2 := c2 r2
        subst e2
        by_cases r1 : gr_R g (3 * p + 1) = 99
        · have e1 := c1 r1
          subst e1
          have a := Y.2 p i (u + 1) (u + 1) (u + 1) hp (by omega) (by omega) (by omega) hL (fun _ => rfl) (fun _ => rfl)
          have b := pd_E_aw (D := D) ok0 h1 hL
          unfold pd_sm at *
          rw [pd_aw_a r1, pd_aw_a r2] at *
          omega
        · have a := Y.2 p i u (v + 1) (v + 1) hp h1 (by omega) (by omega) hL (fun _ => rfl) (fun q => absurd q r1)
          have b := pd_E_aw (D := D) ok1 h2 hL
          unfold pd_sm at *
          rw [pd_aw_a r2] at *
          omega
      · have a := Y.2 p i u v (j + 1) hp h1 h2 (by omega) hL (fun q => absurd q r2) (fun q => absurd (gp.2 q) r2)
        have b := pd_E_aw (D := D) ok2 h3 hL
        unfold pd_sm at *
        omega
    unfold pd_E at ⊢
    by_cases c : j + 1 ≤ gr_L g
    · have z := Z c
      unfold pd_E at z
      rw [if_pos c]
      unfold pd_E at B
      split <;> omega
    · rw [if_neg c]
      unfold pd_E at B
      omega
theorem pd_lip (W : gr_W g) (S : pd_SY g D) {n i j : Nat} (hn : n < 5) (hij : i ≤ j) : ∀ d, j + d ≤ gr_L g → D n i (j + d) ≤ D n i j + d := by
  intro d
  induction d with
  | zero => intro _; exact Nat.le_refl _
  | succ d ih =>
    intro hd
    have a := ih (by omega)
    have b := S.2 _ (pd_E_Y W S.1) n i (j + d) ⟨hn, by omega, by omega⟩
    have c := pd_E_ge2 (D := D) (n := n) (i := i) (j := j + d) (show j + d + 1 ≤ gr_L g by omega)
    show D n i (j + d + 1) ≤ _
    omega
theorem pd_SY_S (W : gr_W g) (S : pd_SY g D) : pd_S g D := by
  refine ⟨⟨S.1.1, fun p i u v j hp h1 h2 h3 hj => ?_⟩, fun D' x => S.2 D' ⟨x.1, fun p i u v j hp h1 h2 h3 hj _ _ => x.2 p i u v j hp h1 h2 h3 hj⟩⟩
  have hF := W.2.2.1 p hp
  have gp := W.2.2.2.2.1 p hp
  by_cases r2 : gr_R g (3 * p + 2) = 99
  · by_cases r1 : gr_R g (3 * p + 1) = 99
    · have a := S.1.2 p i u u u hp h1 (Nat.le_refl _) (Nat.le_refl _) (by omega) (fun _ => rfl) (fun _ => rfl)
      have b := pd_lip W S hF h1 (j - u) (by omega)
      rw [show u + (j - u) = j by omega] at b
      unfold pd_sm at *
      rw [pd_aw_a r1, pd_aw_a r2] at *
      omega
    · have a := S.1.2 p i u v v hp h1 h2 (Nat.le_refl _) (by omega) (fun _ => rfl) (fun q => absurd q r1)
      have b := pd_lip W S hF (show i ≤ v by omega) (j - v) (by omega)
      rw [show v + (j - v) = j by omega] at b
      unfold pd_sm at *
      rw [pd_aw_a r2] at *
      omega
  · exact S.1.2 p i u v j hp h1 h2 h3 hj (fun q => absurd q r2) (fun q => absurd (gp.2 q) r2)
end
/-! a round of the component makes one more cell exact -/
def pd_I (g : gr_G) (D : pu_C) : Prop := (∀ n i j, pu_V g n i j → D n i j ≤ 1000000) ∧ ∀ D', pd_X g D' → pd_le g D' D
noncomputable def pd_mu (g : gr_G) (D : pu_C) : Nat := pu_cnt (fun x => decide (x / 11 % 11 ≤ x % 11 ∧ x % 11 ≤ gr_L g ∧ D (x / 121) (x / 11 % 11) (x % 11) ≠ pd_D g (x / 121) (x / 11 % 11) (x % 11))) 605
def pd_dn (g : gr_G) (D0 D : pu_C) (p i j : Nat) : Prop := ∀ u v, i ≤ u → u ≤ v → v ≤ j → pu_c3 g (fun n i j => D0 n i j = pd_D g n i j) p i u v j → D (gr_F g p) i j ≤ pd_sm g (pd_D g) p i u v j
theorem pd_cell {g : gr_G} {n i j : Nat} (W : gr_W g) (hv : pu_V g n i j) : cx n i j / 121 = n ∧ cx n i j / 11 % 11 = i ∧ cx n i j % 11 = j := by
  have := W.2.1
  unfold pu_V at hv
  unfold cx; omega
theorem pd_round {g : gr_G} {D0 D : pu_C} (W : gr_W g) (I0 : pd_I g D0) (I : pd_I g D) (M : pd_le g D D0) (A : ∀ p i j, p < gr_P g → i ≤ j → j ≤ gr_L g → pd_dn g D0 D p i j) : pd_mu g D0 = 0 ∨ pd_mu g D < pd_mu g D0 := by
  have S := pd_D_s W
  have lo : pd_le g (pd_D g) D := I.2 _ S.1
  have sub : ∀ x, x < 605 → decide (x / 11 % 11 ≤ x % 11 ∧ x % 11 ≤ gr_L g ∧ D (x / 121) (x / 11 % 11) (x % 11) ≠ pd_D g (x / 121) (x / 11 % 11) (x % 11)) = true → decide (x / 11 % 11 ≤ x % 11 ∧ x % 11 ≤ gr_L g ∧ D0 (x / 121) (x / 11 % 11) (x % 11) ≠ pd_D g (x / 121) (x / 11 % 11) (x % 11)) = true := by
    intro x hx h
    have h := of_decide_eq_true h
    have hv : pu_V g (x / 121) (x / 11 % 11) (x % 11) := ⟨by omega, h.1, h.2.1⟩
    have a := M _ _ _ hv
    have b := lo _ _ _ hv
    exact decide_eq_true ⟨h.1, h.2.1, by omega⟩
  by_cases z : pd_mu g D0 = 0
  · exact Or.inl z
  · refine Or.inr ?_
    by_cases lt : pd_mu g D < pd_mu g D0
    · exact lt
    · exfalso
      have all : ∀ n i j, pu_V g n i j → D0 n i j ≠ pd_D g n i j → D n i j ≠ pd_D g n i j := by
        intro n i j hv h0 h1
        apply lt
        obtain ⟨e1, e2, e3⟩ := pd_cell W hv
        refine pu_cnt_lt (x0 := cx n i j) ?_ ?_ sub (cx_lt W hv)
        · rw [e1, e2, e3]; exact decide_eq_false (fun q => q.2.2 h1)
        · rw [e1, e2, e3]; exact decide_eq_true ⟨hv.2.1, hv.2.2, h0⟩
      have up : pd_le g (pd_D g) (fun n i j => if D0 n i j = pd_D g n i j then pd_D g n i j else pd_D g n i j + 1) := by
        intro n i j _
        show _ ≤ if D0 n i j = pd_D g n i j then pd_D g n i j else pd_D g n i j + 1
        split <;> omega
      have X2 : pd_X g (fun n i j => if D0 n i j = pd_D g n i j then pd_D g n i j else pd_D g n i j + 1) := by
        refine ⟨fun n i j hv => ?_, fun p i u v j hp h1 h2 h3 hj => ?_⟩
        · have a := S.1.1 n i j hv
          have b := I0.1 n i j hv
          have c := I0.2 _ S.1 n i j hv
          show (if D0 n i j = pd_D g n i j then pd_D g n i j else pd_D g n i j + 1) ≤ 1000000
          split <;> omega
        · have hv : pu_V g (gr_F g p) i j := ⟨W.2.2.1 p hp, by omega, hj⟩
          have a := S.1.2 p i u v j hp h1 h2 h3 hj
          have b := pd_sm_mono W up hp h1 h2 h3 hj
          show (if D0 (gr_F g p) i j = pd_D g (gr_F g p) i j then pd_D g (gr_F g p) i j else pd_D g (gr_F g p) i j + 1) ≤ _
          by_cases c : D0 (gr_F g p) i j = pd_D g (gr_F g p) i j
          · rw [if_pos c]; omega
          · rw [if_neg c]
            by_cases q : pu_c3 g (fun n i j => D0 n i j = pd_D g n i j) p i u v j
            · have d := A p i j hp (by omega) hj u v h1 h2 h3 q
              have e := all _ _ _ hv c
              have f := lo _ _ _ hv
              omega
            · have ok0 := pu_okR0 W hp
              have ok1 := pu_okR W hp (m := 1) (by decide)
              have ok2 := pu_okR W hp (m := 2) (by decide)
              have m0 := pd_aw_mono up ok0 h1 (by omega)
              have m1 := pd_aw_mono up ok1 h2 (by omega)
              have m2 := pd_aw_mono up ok2 h3 hj
              have st : ∀ {s x y : Nat}, ¬ pu_cd (fun n i j => D0 n i j = pd_D g n i j) s x y → pd_aw g (pd_D g) s x y + 1 ≤ pd_aw g (fun n i j => if D0 n i j = pd_D g n i j then pd_D g n i j else pd_D g n i j + 1) s x y := by
                intro s x y h
                by_cases nt : pu_nt s
                · rw [pd_aw_n nt, pd_aw_n nt]
                  show _ ≤ if D0 (s - 10) x y = pd_D g (s - 10) x y then pd_D g (s - 10) x y else pd_D g (s - 10) x y + 1
                  rw [if_neg (fun z => h (fun _ => z))]; exact Nat.le_refl _
                · exact absurd (fun z => absurd z nt) h
              unfold pd_sm at *
              by_cases q0 : pu_cd (fun n i j => D0 n i j = pd_D g n i j) (gr_R g (3 * p)) i u
              · by_cases q1 : pu_cd (fun n i j => D0 n i j = pd_D g n i j) (gr_R g (3 * p + 1)) u v
                · by_cases q2 : pu_cd (fun n i j => D0 n i j = pd_D g n i j) (gr_R g (3 * p + 2)) v j
                  · exact absurd ⟨q0, q1, q2⟩ q
                  · have := st q2; omega
                · have := st q1; omega
              · have := st q0; omega
      apply z
      by_cases y : pd_mu g D0 = 0
      · exact y
      · exfalso
        have : ∃ x, x < 605 ∧ decide (x / 11 % 11 ≤ x % 11 ∧ x % 11 ≤ gr_L g ∧ D0 (x / 121) (x / 11 % 11) (x % 11) ≠ pd_D g (x / 121) (x / 11 % 11) (x % 11)) = true := by
          apply Classical.byContradiction
          intro hn
          apply y
          have : pd_mu g D0 ≤ pu_cnt (fun _ => false) 605 := pu_cnt_mono (fun x hx h => absurd ⟨x, hx, h⟩ hn)
          have k0 : ∀ n, pu_cnt (fun _ => false) n = 0 := by
            intro n
            induction n with
            | zero => rfl
            | succ n ih => unfold pu_cnt; rw [ih]; rfl
          rw [k0] at this; omega
        obtain ⟨x, hx, h⟩ := this
        have h := of_decide_eq_true h
        have hv : pu_V g (x / 121) (x / 11 % 11) (x % 11) := ⟨by omega, h.1, h.2.1⟩
        have q := S.2 _ X2 _ _ _ hv
        have q' : (if D0 (x / 121) (x / 11 % 11) (x % 11) = pd_D g (x / 121) (x / 11 % 11) (x % 11) then pd_D g (x / 121) (x / 11 % 11) (x % 11) else pd_D g (x / 121) (x / 11 % 11) (x % 11) + 1) ≤ pd_D g (x / 121) (x / 11 % 11) (x % 11) := q
        rw [if_neg h.2.2] at q'
        omega
theorem pd_mu_0 {g : gr_G} {D : pu_C} (W : gr_W g) (h : pd_mu g D = 0) {n i j : Nat} (hv : pu_V g n i j) : D n i j = pd_D g n i j := by
  have := pu_cnt_zero h (cx_lt W hv)
  obtain ⟨e1, e2, e3⟩ := pd_cell W hv
  rw [e1, e2, e3] at this
  have := of_decide_eq_false this
  apply Classical.byContradiction
  intro z
  exact this ⟨hv.2.1, hv.2.2, z⟩
end
section
/-! the component: distances -/
section
variable {g : gr_G} {f_chartReady f_countsReady f_distancesReady f_followsReady f_filled : Int32} {a_lefts a_rights a_ops a_constants a_text a_heights a_chosen a_firstEnds a_secondEnds a_order a_counts a_distances a_follows a_sizes : Nat → Int32} {a_values a_operands : Nat → Int64} {a_productive a_used : Nat → Int32}
theorem xs_hasToken {post : Int32 → Prop} {s i j : Nat} {s' : Int32} (es : s' = sy_m s) (ok : pu_ok s) (W : gr_W g) (tx : xm_T g a_text) (hij : i ≤ j) (hj : j ≤ gr_L g) (ht : pd_tk g s i j → post 1) (hf : ¬ pd_tk g s i j → post 0) : wpX_hasToken post (nI (gr_P g), nI (gr_L g), f_chartReady, f_countsReady, f_distancesReady, f_followsReady, f_filled, a_lefts, a_rights, a_ops, a_constants, a_text, a_heights, a_chosen, a_firstEnds, a_secondEnds, a_order, a_counts, a_distances, a_follows, a_sizes, a_values, a_operands, a_productive, a_used) s' (nI i) (nI j) := by
  subst es
  have hL := W.2.1
  have K : ∀ d k, k + d = j → i ≤ k → (∀ q, i ≤ q → q < k → gr_T g q ≠ s) → wX_hasToken_3 post (sy_m s) (nI j) (nI (gr_P g)) (nI (gr_L g)) f_chartReady f_countsReady f_distancesReady f_followsReady f_filled a_lefts a_rights a_ops a_constants a_text a_heights a_chosen a_firstEnds a_secondEnds a_order a_counts a_distances a_follows a_sizes a_values a_operands a_productive a_used (d + 1) (nI k) := by
    intro d
    induction d with
    | zero => intro k hk hik hist; exact br_t (nI_le (by omega) (by omega)) (hf (fun ⟨q, h1, h2, h3⟩ => hist q h1 (by omega) h3))
    | succ d ih =>
      intro k hk hik hist
      refine br_f (nI_ge (by omega) (by omega)) ⟨vp_in_nI (by omega) (by decide), ek_if (d := gr_T g k = s) (by rw [nI_clamp (by omega), tx k (by omega)]; exact sy_eq ok (W.2.2.2.2.2 k (by omega))) (fun e => ht ⟨k, hik, by omega, e⟩) (fun e => nm_r (nI_1 k) (ih (k + 1) (by omega) (by omega) (fun q h1 h2 => ?_)))⟩
      by_cases c : q = k
      · rw [c]; exact e
      · exact hist q h1 (by omega)
  exact ⟨j - i + 1, K (j - i) i (by omega) (Nat.le_refl _) (fun q h1 h2 => by omega)⟩
def xm_D (g : gr_G) (a : Nat → Int32) (D : pu_C) : Prop := ∀ n i j, pu_V g n i j → a (cx n i j) = nI (D n i j)
theorem xs_dop {post : Int32 → Prop} {D : pu_C} {s i j : Nat} {s' i' j' : Int32} (es : s' = sy_m s) (ei : i' = nI i) (ej : j' = nI j) (ok : pu_ok s) (hij : i ≤ j) (hj : j ≤ gr_L g) (W : gr_W g) (tx : xm_T g a_text) (mD : xm_D g a_distances D) (h : post (nI (pd_aw g D s i j))) : wpX_distanceOfPart post (nI (gr_P g), nI (gr_L g), f_chartReady, f_countsReady, f_distancesReady, f_followsReady, f_filled, a_lefts, a_rights, a_ops, a_constants, a_text, a_heights, a_chosen, a_firstEnds, a_secondEnds, a_order, a_counts, a_distances, a_follows, a_sizes, a_values, a_operands, a_productive, a_used) s' i' j' := by
  subst ei ej
  have hL := W.2.1
  have sb : nI j - nI i = nI (j - i) := pk_sub hij
  by_cases c : pu_nt s
  · have c' := c
    unfold pu_nt at c'
    have hv := xb_ntV ok c hij hj
    have hl := cx_lt W hv
    refine br_f (by rw [es, sy_lt ok]; omega) (xb_cell (s - 10) i j (by rw [es]; exact sy_nt c) rfl rfl ⟨vp_in_nI hl (by decide), ?_⟩)
    rw [nI_clamp (by omega), mD _ _ _ hv]
    rw [pd_aw_n c] at h; exact h
  · have c' : s < 10 ∨ s = 99 := by unfold pu_nt at c; unfold pu_ok at ok; omega
    refine br_t (by rw [es, sy_lt ok]; exact c') (ek_if (d := s = 99) (by rw [es]; exact sy_e1 ok) (fun e => ?_) (fun e => ?_))
    · rw [pd_aw_a e] at h; rw [sb]; exact h
    · have c2 : s < 10 := by omega
      refine pk_eq i j (fun z => ?_) (fun z => ?_)
      · rw [pd_aw_t1 c2 z] at h; exact h
      · refine xs_hasToken (g := g) es ok W tx hij hj (fun t => br_f (by decide) ?_) (fun t => br_t rfl ?_)
        · rw [pd_aw_t2 c2 z t] at h
          obtain ⟨q, hq⟩ : ∃ q, j - i = q + 1 := ⟨j - i - 1, by omega⟩
          rw [sb, hq, nI_pred]
          rw [hq] at h; exact h
        · rw [pd_aw_t3 c2 z t] at h; rw [sb]; exact h
theorem pd_aw_le {g : gr_G} {D : pu_C} (b : ∀ n i j, pu_V g n i j → D n i j ≤ 1000000) {s i j : Nat} (W : gr_W g) (ok : pu_ok s) (hij : i ≤ j) (hj : j ≤ gr_L g) : pd_aw g D s i j ≤ 1000000 := by
  have hL := W.2.1
  by_cases c : pu_nt s
  · rw [pd_aw_n c]; exact b _ _ _ (xb_ntV ok c hij hj)
  · unfold pu_nt at c
    unfold pu_ok at ok
    unfold pd_aw
    by_cases c1 : s = 99
    · rw [if_pos c1]; omega
    · rw [if_neg c1, if_pos (by omega)]; split
      · omega
      · split <;> omega
def xd_r (g : gr_G) (D : pu_C) (p i j a b r : Nat) : Prop := r ≤ 1000000 ∧ (∀ u v, i ≤ u → u ≤ v → v ≤ j → (u < a ∨ (u = a ∧ v < b)) → r ≤ pd_sm g D p i u v j) ∧ (r = 1000000 ∨ ∃ u v, i ≤ u ∧ u ≤ v ∧ v ≤ j ∧ r = pd_sm g D p i u v j)
theorem xs_dod34 {post : Int32 → Prop} {J7 : Int32 → Int32 → Prop} {D : pu_C} {p i j a : Nat} (W : gr_W g) (hp : p < gr_P g) (hia : i ≤ a) (haj : a ≤ j) (hj : j ≤ gr_L g) (tx : xm_T g a_text) (mR : xm_R g a_rights) (mD : xm_D g a_distances D) (hb : ∀ n i j, pu_V g n i j → D n i j ≤ 1000000)
    (hJ : ∀ r, xd_r g D p i j (a + 1) 0 r → J7 (nI r) (nI (a + 1))) :
    ∀ d b r, b + d = j + 1 → a ≤ b → xd_r g D p i j a b r → wX_distanceOfDivisions_34 post J7 (nI p) (nI i) (nI j) (nI a) (nI (pd_aw g D (gr_R g (3 * p)) i a)) (nI (gr_P g)) (nI (gr_L g)) f_chartReady f_countsReady f_distancesReady f_followsReady f_filled a_lefts a_rights a_ops a_constants a_text a_heights a_chosen a_firstEnds a_secondEnds a_order a_counts a_distances a_follows a_sizes a_values a_operands a_productive a_used (d + 1) (nI r) (nI b) := by
  have hL := W.2.1
  have hP := W.1
  have b0 := pd_aw_le hb W (pu_okR0 W hp) hia (show a ≤ gr_L g by omega)
  intro d
  induction d with
  | zero =>
    intro b r hbd hab I
    refine br_t (nI_lt (by omega) (by omega)) (nm_r (nI_1 a) (hJ r ⟨I.1, fun u v h1 h2 h3 h4 => I.2.1 u v h1 h2 h3 (by omega), I.2.2⟩))
  | succ d ih =>
    intro b r hbd hab I
    have I1 := I.1
    refine br_f (nI_nlt (by omega) (by omega)) (pk_le r (pd_aw g D (gr_R g (3 * p)) i a) (fun l => nm_r (nI_1 a) (hJ r ⟨I.1, fun u v h1 h2 h3 h4 => ?_, I.2.2⟩)) (fun l => ⟨xb_i1 (by omega), ?_⟩))
    · by_cases c : u = a
      · rw [c]; unfold pd_sm; omega
      · exact I.2.1 u v h1 h2 h3 (by omega)
    · have b1 := pd_aw_le hb W (pu_okR W hp (m := 1) (by decide)) hab (show b ≤ gr_L g by omega)
      have b2 := pd_aw_le hb W (pu_okR W hp (m := 2) (by decide)) (show b ≤ j by omega) hj
      refine xs_dop (g := g) (D := D) (xm_R1 W mR hp) rfl rfl (pu_okR W hp (by decide)) hab (by omega) W tx mD ⟨xb_i2 (by omega), ?_⟩
      refine xs_dop (g := g) (D := D) (xm_R2 W mR hp) rfl rfl (pu_okR W hp (by decide)) (by omega) hj W tx mD (nm_r (e' := nI (pd_sm g D p i a b j)) (by rw [nI_add, nI_add]; rfl) ?_)
      have bs : pd_sm g D p i a b j ≤ 3000000 := by unfold pd_sm; omega
      refine pk_le r (pd_sm g D p i a b j) (fun l2 => nm_r (nI_1 b) (ih (b + 1) r (by omega) (by omega) ⟨I.1, fun u v h1 h2 h3 h4 => ?_, I.2.2⟩)) (fun l2 => nm_r (nI_1 b) (ih (b + 1) _ (by omega) (by omega) ⟨by omega, fun u v h1 h2 h3 h4 => ?_, Or.inr ⟨a, b, hia, hab, by omega, rfl⟩⟩))
      · by_cases c : u = a ∧ v = b
        · rw [c.1, c.2]; exact l2
        · exact I.2.1 u v h1 h2 h3 (by omega)
      · by_cases c : u = a ∧ v = b
        · rw [c.1, c.2]; exact Nat.le_refl _
        · have := I.2.1 u v h1 h2 h3 (by omega); omega
theorem xs_dod {post : Int32 → Prop} {D : pu_C} {p i j : Nat} (W : gr_W g) (hp : p < gr_P g) (hij : i ≤ j) (hj : j ≤ gr_L g) (tx : xm_T g a_text) (mR : xm_R g a_rights) (mD : xm_D g a_distances D) (hb : ∀ n i j, pu_V g n i j → D n i j ≤ 1000000)
    (h : ∀ r, r ≤ 1000000 → (∀ u v, i ≤ u → u ≤ v → v ≤ j → r ≤ pd_sm g D p i u v j) → (r = 1000000 ∨ ∃ u v, i ≤ u ∧ u ≤ v ∧ v ≤ j ∧ r = pd_sm g D p i u v j) → post (nI r)) : wpX_distanceOfDivisions post (nI (gr_P g), nI (gr_L g), f_chartReady, f_countsReady, f_distancesReady, f_followsReady, f_filled, a_lefts, a_rights, a_ops, a_constants, a_text, a_heights, a_chosen, a_firstEnds, a_secondEnds, a_order, a_counts, a_distances, a_follows, a_sizes, a_values, a_operands, a_productive, a_used) (nI p) (nI i) (nI j) := by
  have hL := W.2.1
  have hP := W.1
  have K7 : ∀ d a r, a + d = j + 1 → i ≤ a → xd_r g D p i j a 0 r → wX_distanceOfDivisions_7 post (nI p) (nI i) (nI j) (nI (gr_P g)) (nI (gr_L g)) f_chartReady f_countsReady f_distancesReady f_followsReady f_filled a_lefts a_rights a_ops a_constants a_text a_heights a_chosen a_firstEnds a_secondEnds a_order a_counts a_distances a_follows a_sizes a_values a_operands a_productive a_used (d + 1) (nI r) (nI a) := by
    intro d
    induction d with
    | zero =>
      intro a r ha hia I
      exact br_t (nI_lt (by omega) (by omega)) (h r I.1 (fun u v h1 h2 h3 => I.2.1 u v h1 h2 h3 (by omega)) I.2.2)
    | succ d ih =>
      intro a r ha hia I
      refine br_f (nI_nlt (by omega) (by omega)) ⟨xb_i0 (by omega), ?_⟩
      refine xs_dop (g := g) (D := D) (xm_R0 W mR hp) rfl rfl (pu_okR0 W hp) hia (by omega) W tx mD ⟨j + 1 - a + 1, ?_⟩
      exact xs_dod34 (g := g) W hp hia (by omega) hj tx mR mD hb (fun r' I' => ih (a + 1) r' (by omega) (by omega) I') (j + 1 - a) a r (by omega) (Nat.le_refl _) ⟨I.1, fun u v h1 h2 h3 h4 => I.2.1 u v h1 h2 h3 (by omega), I.2.2⟩
  exact ⟨j + 1 - i + 1, K7 (j + 1 - i) i 1000000 (by omega) (Nat.le_refl _) ⟨Nat.le_refl _, fun u v h1 h2 h3 h4 => by omega, Or.inl rfl⟩⟩
/-- a pass, the triples of dn being done -/
def xd_P (g : gr_G) (D0 : pu_C) (dn : Nat → Nat → Nat → Prop) (x1 : Int32) (a : Nat → Int32) : Prop := ∃ D, xm_D g a D ∧ pd_I g D ∧ pd_le g D D0 ∧ (∀ p i j, p < gr_P g → i ≤ j → j ≤ gr_L g → dn p i j → pd_dn g D0 D p i j) ∧ (x1 = 1 ∨ (x1 = 0 ∧ ∀ p i j, p < gr_P g → i ≤ j → j ≤ gr_L g → dn p i j → ∀ u v, i ≤ u → u ≤ v → v ≤ j → D (gr_F g p) i j ≤ pd_sm g D p i u v j))
theorem xd_P_dn {g : gr_G} {D0 : pu_C} {dn dn' : Nat → Nat → Nat → Prop} {x1 : Int32} {a : Nat → Int32} (h : xd_P g D0 dn x1 a) (l : ∀ p i j, i ≤ j → j ≤ gr_L g → dn' p i j → dn p i j) : xd_P g D0 dn' x1 a := by
  obtain ⟨D, h1, h2, h3, h4, h5⟩ := h
  refine ⟨D, h1, h2, h3, fun p i j a b c d => h4 p i j a b c (l p i j b c d), ?_⟩
  obtain h5 | ⟨e, h5⟩ := h5
  · exact Or.inl h5
  · exact Or.inr ⟨e, fun p i j a b c d => h5 p i j a b c (l p i j b c d)⟩
theorem pd_A_sm {g : gr_G} {D0 D : pu_C} (W : gr_W g) (I : pd_I g D) (M : pd_le g D D0) {p i u v j : Nat} (hp : p < gr_P g) (h1 : i ≤ u) (h2 : u ≤ v) (h3 : v ≤ j) (hj : j ≤ gr_L g) (A : pu_c3 g (fun n i j => D0 n i j = pd_D g n i j) p i u v j) : pd_sm g D p i u v j = pd_sm g (pd_D g) p i u v j := by
  have lo : pd_le g (pd_D g) D := I.2 _ (pd_D_s W).1
  have Q : ∀ {s x y : Nat}, pu_ok s → x ≤ y → y ≤ gr_L g → pu_cd (fun n i j => D0 n i j = pd_D g n i j) s x y → pd_aw g D s x y = pd_aw g (pd_D g) s x y := by
    intro s x y ok hxy hy c
    by_cases nt : pu_nt s
    · have hv := xb_ntV ok nt hxy hy
      have a := M _ _ _ hv
      have b := lo _ _ _ hv
      have e : D0 (s - 10) x y = pd_D g (s - 10) x y := c nt
      rw [pd_aw_n nt, pd_aw_n nt]; omega
    · unfold pu_nt at nt
      unfold pu_ok at ok
      unfold pd_aw
      by_cases c1 : s = 99
      · rw [if_pos c1, if_pos c1]
      · have c2 : s < 10 := by omega
        rw [if_neg c1, if_neg c1, if_pos c2, if_pos c2]
  unfold pd_sm
  rw [Q (pu_okR0 W hp) h1 (by omega) A.1, Q (pu_okR W hp (m := 1) (by decide)) h2 (by omega) A.2.1, Q (pu_okR W hp (m := 2) (by decide)) h3 hj A.2.2]
theorem xs_cn25 {post : Int32 → SX → Prop} {J4 J14 : Int32 → Int32 → (Nat → Int32) → (Nat → Int32) → (Nat → Int32) → (Nat → Int32) → (Nat → Int32) → (Nat → Int32) → (Nat → Int32) → (Nat → Int32) → (Nat → Int32) → (Nat → Int32) → (Nat → Int32) → (Nat → Int32) → (Nat → Int32) → (Nat → Int32) → (Nat → Int64) → (Nat → Int64) → (Nat → Int32) → (Nat → Int32) → Prop} {D0 : pu_C} {p i : Nat} (W : gr_W g) (hp : p < gr_P g) (tx : xm_T g a_text) (mR : xm_R g a_rights) (mF : xm_F g a_lefts)
    (hJ : ∀ (x1 : Int32) (a_distances : Nat → Int32), xd_P g D0 (xm_dn p (i + 1) (i + 1)) x1 a_distances → J14 x1 (nI (i + 1)) a_lefts a_rights a_ops a_constants a_text a_heights a_chosen a_firstEnds a_secondEnds a_order a_counts a_distances a_follows a_sizes a_values a_operands a_productive a_used) :
    ∀ d j, j + d = gr_L g + 1 → i ≤ j → ∀ (x1 : Int32) (a_distances : Nat → Int32), xd_P g D0 (xm_dn p i j) x1 a_distances → wX_comeNearer_25 post J4 J14 (nI p) (nI i) (nI (gr_P g)) (nI (gr_L g)) f_chartReady f_countsReady f_distancesReady f_followsReady f_filled (d + 1) x1 (nI j) a_lefts a_rights a_ops a_constants a_text a_heights a_chosen a_firstEnds a_secondEnds a_order a_counts a_distances a_follows a_sizes a_values a_operands a_productive a_used := by
  have hL := W.2.1
  have hP := W.1
  intro d
  induction d with
  | zero =>
    intro j hj hij x1 a_distances I
    refine br_t (nI_lt (by omega) (by omega)) (nm_r (nI_1 i) (hJ x1 _ (xd_P_dn I (fun p' i' j' h1 h2 h3 => ?_))))
    unfold xm_dn at *; omega
  | succ d ih =>
    intro j hj hij x1 a_distances I
    have hv : pu_V g (gr_F g p) i j := ⟨W.2.2.1 p hp, hij, by omega⟩
    have hl := cx_lt W hv
    have hin : vp_in (nI (cx (gr_F g p) i j)) 605 := vp_in_nI hl (by decide)
    have ec : (nI (cx (gr_F g p) i j)).toNatClampNeg = cx (gr_F g p) i j := nI_clamp (by omega)
    obtain ⟨D, mD, PI, M, A, fl⟩ := I
    refine br_f (nI_nlt (by omega) (by omega)) ⟨vp_in_nI (by omega) (by decide), xb_cell (gr_F g p) i j (xm_Fp W mF hp) rfl rfl ?_⟩
    refine xs_dod (g := g) (D := D) W hp hij (by omega) tx mR mD PI.1 (fun r r1 r2 r3 => ⟨hin, ?_⟩)
    have dl := PI.1 _ _ _ hv
    refine pk_le (D (gr_F g p) i j) r (fun l => nm_r (nI_1 j) (ih (j + 1) (by omega) (by omega) x1 _ ⟨D, mD, PI, M, fun p' i' j' q1 q2 q3 q4 => ?_, ?_⟩)) (fun l => ⟨hin, nm_r (e' := upd a_distances (cx (gr_F g p) i j) (nI r)) (by rw [ec]) (nm_r (nI_1 j) (ih (j + 1) (by omega) (by omega) 1 _ ⟨up3 D (gr_F g p) i j r, xm_H_up W mD hv r, ?_, ?_, fun p' i' j' q1 q2 q3 q4 => ?_, Or.inl rfl⟩))⟩) (by rw [ec]; exact mD _ _ _ hv) rfl
    · by_cases z : p' = p ∧ i' = i ∧ j' = j
      · obtain ⟨rfl, rfl, rfl⟩ := z
        intro u v h1 h2 h3 c3
        have := r2 u v h1 h2 h3
        rw [pd_A_sm W PI M hp h1 h2 h3 (by omega) c3] at this
        omega
      · exact A p' i' j' q1 q2 q3 (by unfold xm_dn at *; omega)
    · obtain h | ⟨h, cl⟩ := fl
      · exact Or.inl h
      · refine Or.inr ⟨h, fun p' i' j' q1 q2 q3 q4 u v h1 h2 h3 => ?_⟩
        by_cases z : p' = p ∧ i' = i ∧ j' = j
        · obtain ⟨rfl, rfl, rfl⟩ := z
          have := r2 u v h1 h2 h3
          omega
        · exact cl p' i' j' q1 q2 q3 (by unfold xm_dn at *; omega) u v h1 h2 h3
    · refine ⟨fun n' i' j' hv' => ?_, fun D' x n' i' j' hv' => ?_⟩
      · by_cases z : n' = gr_F g p ∧ i' = i ∧ j' = j
        · obtain ⟨rfl, rfl, rfl⟩ := z
          rw [up3_s]; exact r1
        · rw [up3_n z]; exact PI.1 _ _ _ hv'
      · by_cases z : n' = gr_F g p ∧ i' = i ∧ j' = j
        · obtain ⟨rfl, rfl, rfl⟩ := z
          rw [up3_s]
          obtain e | ⟨u, v, h1, h2, h3, e⟩ := r3
          · rw [e]; exact x.1 _ _ _ hv'
          · rw [e]
            exact Nat.le_trans (x.2 p i' u v j' hp h1 h2 h3 (by omega)) (pd_sm_mono W (PI.2 D' x) hp h1 h2 h3 (by omega))
        · rw [up3_n z]; exact PI.2 D' x _ _ _ hv'
    · intro n' i' j' hv'
      by_cases z : n' = gr_F g p ∧ i' = i ∧ j' = j
      · obtain ⟨rfl, rfl, rfl⟩ := z
        rw [up3_s]; have := M _ _ _ hv'; omega
      · rw [up3_n z]; exact M _ _ _ hv'
    · have low : pd_le g (up3 D (gr_F g p) i j r) D := by
        intro n' i' j' hv'
        by_cases z : n' = gr_F g p ∧ i' = i ∧ j' = j
        · obtain ⟨rfl, rfl, rfl⟩ := z
          rw [up3_s]; omega
        · rw [up3_n z]; exact Nat.le_refl _
      intro u v h1 h2 h3 c3
      have hF' := W.2.2.1 p' q1
      by_cases z : p' = p ∧ i' = i ∧ j' = j
      · obtain ⟨rfl, rfl, rfl⟩ := z
        have := r2 u v h1 h2 h3
        rw [pd_A_sm W PI M hp h1 h2 h3 (by omega) c3] at this
        rw [up3_s]; exact this
      · have a1 := A p' i' j' q1 q2 q3 (by unfold xm_dn at *; omega) u v h1 h2 h3 c3
        have a2 := low _ _ _ ⟨hF', q2, q3⟩
        omega
theorem xs_comeNearer {post : Int32 → SX → Prop} {D0 : pu_C} (W : gr_W g) (tx : xm_T g a_text) (mR : xm_R g a_rights) (mF : xm_F g a_lefts) (I0 : xd_P g D0 (xm_dn 0 0 0) 0 a_distances)
    (hpost : ∀ (x1 : Int32) (a_distances : Nat → Int32), xd_P g D0 (xm_dn (gr_P g) 0 0) x1 a_distances → post x1 (nI (gr_P g), nI (gr_L g), f_chartReady, f_countsReady, f_distancesReady, f_followsReady, f_filled, a_lefts, a_rights, a_ops, a_constants, a_text, a_heights, a_chosen, a_firstEnds, a_secondEnds, a_order, a_counts, a_distances, a_follows, a_sizes, a_values, a_operands, a_productive, a_used)) : wpX_comeNearer post (nI (gr_P g), nI (gr_L g), f_chartReady, f_countsReady, f_distancesReady, f_followsReady, f_filled, a_lefts, a_rights, a_ops, a_constants, a_text, a_heights, a_chosen, a_firstEnds, a_secondEnds, a_order, a_counts, a_distances, a_follows, a_sizes, a_values, a_operands, a_productive, a_used) := by
  have hL := W.2.1
  have hP := W.1
  have K14 : ∀ (n4 p : Nat), p < gr_P g → (∀ (x1 : Int32) (a_distances : Nat → Int32), xd_P g D0 (xm_dn (p + 1) 0 0) x1 a_distances → wX_comeNearer_4 post (nI (gr_P g)) (nI (gr_L g)) f_chartReady f_countsReady f_distancesReady f_followsReady f_filled n4 x1 (nI (p + 1)) a_lefts a_rights a_ops a_constants a_text a_heights a_chosen a_firstEnds a_secondEnds a_order a_counts a_distances a_follows a_sizes a_values a_operands a_productive a_used) → ∀ d i, i + d = gr_L g + 1 → ∀ (x1 : Int32) (a_distances : Nat → Int32), xd_P g D0 (xm_dn p i i) x1 a_distances → wX_comeNearer_14 post (wX_comeNearer_4 post (nI (gr_P g)) (nI (gr_L g)) f_chartReady f_countsReady f_distancesReady f_followsReady f_filled n4) (nI p) (nI (gr_P g)) (nI (gr_L g)) f_chartReady f_countsReady f_distancesReady f_followsReady f_filled (d + 1) x1 (nI i) a_lefts a_rights a_ops a_constants a_text a_heights a_chosen a_firstEnds a_secondEnds a_order a_counts a_distances a_follows a_sizes a_values a_operands a_productive a_used := by
    intro n4 p hp hJ d
    induction d with
    | zero =>
      intro i hi x1 a_distances I
      refine br_t (nI_lt (by omega) (by omega)) (nm_r (nI_1 p) (hJ x1 _ (xd_P_dn I (fun p' i' j' h1 h2 h3 => ?_))))
      unfold xm_dn at *; omega
    | succ d ih =>
      intro i hi x1 a_distances I
      refine br_f (nI_nlt (by omega) (by omega)) ⟨d + 1 + 1, ?_⟩
      exact xs_cn25 (g := g) W hp tx mR mF (fun x1 a l => ih (i + 1) (by omega) x1 a l) (d + 1) i (by omega) (by omega) x1 _ I
  have K4 : ∀ d p, p + d = gr_P g → ∀ (x1 : Int32) (a_distances : Nat → Int32), xd_P g D0 (xm_dn p 0 0) x1 a_distances → wX_comeNearer_4 post (nI (gr_P g)) (nI (gr_L g)) f_chartReady f_countsReady f_distancesReady f_followsReady f_filled (d + 1) x1 (nI p) a_lefts a_rights a_ops a_constants a_text a_heights a_chosen a_firstEnds a_secondEnds a_order a_counts a_distances a_follows a_sizes a_values a_operands a_productive a_used := by
    intro d
    induction d with
    | zero =>
      intro p hp x1 a_distances I
      have e : p = gr_P g := by omega
      subst e
      have nr : narrow .boolean (.int x1) = .int x1 := by
        obtain ⟨D, _, _, _, _, h | ⟨h, _⟩⟩ := I
        · rw [h]; rfl
        · rw [h]; rfl
      exact br_t (nI_le (Nat.le_refl _) (by omega)) ⟨nr, hpost x1 _ I⟩
    | succ d ih =>
      intro p hp x1 a_distances I
      refine br_f (nI_ge (by omega) (by omega)) ⟨gr_L g + 1 + 1, ?_⟩
      exact K14 (d + 1) p (by omega) (fun x1 a l => ih (p + 1) (by omega) x1 a l) (gr_L g + 1) 0 (by omega) x1 _ I
  exact ⟨gr_P g + 1, K4 (gr_P g) 0 (by omega) 0 _ I0⟩
def xm_Dist (g : gr_G) (a : Nat → Int32) : Prop := xm_D g a (pd_D g)
theorem xs_needDistances {post : SX → Prop} (W : gr_W g) (tx : xm_T g a_text) (mR : xm_R g a_rights) (mF : xm_F g a_lefts) (hr : f_distancesReady ≠ 0 → xm_Dist g a_distances)
    (hpost : ∀ (f_distancesReady : Int32) (a_distances : Nat → Int32), f_distancesReady ≠ 0 → xm_Dist g a_distances → post (nI (gr_P g), nI (gr_L g), f_chartReady, f_countsReady, f_distancesReady, f_followsReady, f_filled, a_lefts, a_rights, a_ops, a_constants, a_text, a_heights, a_chosen, a_firstEnds, a_secondEnds, a_order, a_counts, a_distances, a_follows, a_sizes, a_values, a_operands, a_productive, a_used)) : wpX_needDistances post (nI (gr_P g), nI (gr_L g), f_chartReady, f_countsReady, f_distancesReady, f_followsReady, f_filled, a_lefts, a_rights, a_ops, a_constants, a_text, a_heights, a_chosen, a_firstEnds, a_secondEnds, a_order, a_counts, a_distances, a_follows, a_sizes, a_values, a_operands, a_productive, a_used) := by
  have fin : ∀ (a_distances : Nat → Int32) D, xm_D g a_distances D → (∀ n i j, pu_V g n i j → D n i j = pd_D g n i j) → post (nI (gr_P g), nI (gr_L g), f_chartReady, f_countsReady, 1, f_followsReady, f_filled, a_lefts, a_rights, a_ops, a_constants, a_text, a_heights, a_chosen, a_firstEnds, a_secondEnds, a_order, a_counts, a_distances, a_follows, a_sizes, a_values, a_operands, a_productive, a_used) := fun a D mD e => hpost 1 a (by decide) (fun n i j hv => by rw [mD n i j hv, e n i j hv])
  have K35 : ∀ d r, r + d = 606 → ∀ (x1 : Int32) (a_distances : Nat → Int32), (∃ D, xm_D g a_distances D ∧ pd_I g D ∧ pd_mu g D ≤ 605 - r ∧ (x1 = 1 ∨ (x1 = 0 ∧ pd_X g D))) → wX_needDistances_35 post (d + 1) x1 (nI r) (nI (gr_P g)) (nI (gr_L g)) f_chartReady f_countsReady f_distancesReady f_followsReady f_filled a_lefts a_rights a_ops a_constants a_text a_heights a_chosen a_firstEnds a_secondEnds a_order a_counts a_distances a_follows a_sizes a_values a_operands a_productive a_used := by
    intro d
    induction d with
    | zero =>
      intro r hr x1 a_distances I
      obtain ⟨D, mD, PI, mu, _⟩ := I
      have e : r = 606 := by omega
      subst e
      exact br_t (nI_lt (a := 605) (by decide) (by decide)) (fin _ D mD (fun n i j hv => pd_mu_0 W (by omega) hv))
    | succ d ih =>
      intro r hr x1 a_distances I
      obtain ⟨D, mD, PI, mu, fl⟩ := I
      refine br_f (nI_nlt (a := 605) (by omega) (by decide)) ?_
      obtain rfl | ⟨rfl, x⟩ := fl
      · refine br_f (by decide) ?_
        refine xs_comeNearer (g := g) (D0 := D) W tx mR mF ⟨D, mD, PI, fun _ _ _ _ => Nat.le_refl _, fun p i j _ _ _ h => by unfold xm_dn at h; omega, Or.inr ⟨rfl, fun p i j _ _ _ h => by unfold xm_dn at h; omega⟩⟩ (fun x1 a I' => nm_r (nI_1 r) (ih (r + 1) (by omega) x1 a ?_))
        obtain ⟨D1, mD1, PI1, M1, A1, fl1⟩ := I'
        refine ⟨D1, mD1, PI1, ?_, ?_⟩
        · have := pd_round W PI PI1 M1 (fun p i j h1 h2 h3 => A1 p i j h1 h2 h3 (Or.inl h1))
          obtain z | z := this
          · have : pd_mu g D1 ≤ pd_mu g D := by
              refine pu_cnt_mono (fun x hx h => ?_)
              have h := of_decide_eq_true h
              have hv : pu_V g (x / 121) (x / 11 % 11) (x % 11) := ⟨by omega, h.1, h.2.1⟩
              have a1 := M1 _ _ _ hv
              have a2 := PI1.2 _ (pd_D_s W).1 _ _ _ hv
              exact decide_eq_true ⟨h.1, h.2.1, by omega⟩
            omega
          · omega
        · obtain h | ⟨h, cl⟩ := fl1
          · exact Or.inl h
          · exact Or.inr ⟨h, PI1.1, fun p i u v j hp h1 h2 h3 hj => cl p i j hp (by omega) hj (Or.inl hp) u v h1 h2 h3⟩
      · exact br_t rfl (fin _ D mD (fun n i j hv => pd_D_e W ⟨x, PI.2⟩ hv))
  have K10 : ∀ d x, x + d = 605 → ∀ (a_distances : Nat → Int32), (∀ y, y < x → a_distances y = 1000000) → wX_needDistances_10 post (nI (gr_P g)) (nI (gr_L g)) f_chartReady f_countsReady f_distancesReady f_followsReady f_filled (d + 1) (nI x) a_lefts a_rights a_ops a_constants a_text a_heights a_chosen a_firstEnds a_secondEnds a_order a_counts a_distances a_follows a_sizes a_values a_operands a_productive a_used := by
    intro d
    induction d with
    | zero =>
      intro x hx a_distances hz
      have e : x = 605 := by omega
      subst e
      exact br_t (nI_le (a := 605) (b := 605) (by decide) (by decide)) ⟨606 + 1, K35 606 0 (by decide) 1 _ ⟨fun _ _ _ => 1000000, fun n i j hv => hz _ (cx_lt W hv), ⟨fun _ _ _ _ => Nat.le_refl _, fun D' x n i j hv => x.1 n i j hv⟩, pu_cnt_le _ _, Or.inl rfl⟩⟩
    | succ d ih =>
      intro x hx a_distances hz
      refine br_f (nI_ge (b := 605) (by omega) (by decide)) ⟨vp_in_nI (by omega) (by decide), nm_r (e' := upd a_distances x 1000000) (by rw [nI_clamp (by omega)]) (nm_r (nI_1 x) (ih (x + 1) (by omega) _ (fun y hy => ?_)))⟩
      by_cases c : y = x
      · rw [c, pk_us]
      · rw [pk_un c]; exact hz y (by omega)
  exact br_c (fun _ => ⟨605 + 1, K10 605 0 rfl _ (fun y hy => absurd hy (by omega))⟩) (fun z => hpost _ _ z (hr z))
end
end
section
/-! productive, used, follows: pure -/
def pf_yl (Q : Nat → Prop) (s : Nat) : Prop := pu_nt s → Q (s - 10)
def pf_ap (g : gr_G) (Q : Nat → Prop) (p : Nat) : Prop := ∀ m, m < 3 → pf_yl Q (gr_R g (3 * p + m))
def pf_cl (g : gr_G) (Q : Nat → Prop) : Prop := ∀ p, p < gr_P g → pf_ap g Q p → Q (gr_F g p)
def pf_PR (g : gr_G) (n : Nat) : Prop := ∀ Q : Nat → Prop, pf_cl g Q → Q n
theorem pf_PR_cl (g : gr_G) : pf_cl g (pf_PR g) := fun p hp a Q cl => cl p hp (fun m hm nt => a m hm nt Q cl)
def pf_uc (g : gr_G) (Q : Nat → Prop) : Prop := (pf_PR g 0 → Q 0) ∧ ∀ p m, p < gr_P g → m < 3 → Q (gr_F g p) → pf_ap g (pf_PR g) p → pu_nt (gr_R g (3 * p + m)) → Q (gr_R g (3 * p + m) - 10)
def pf_US (g : gr_G) (n : Nat) : Prop := ∀ Q : Nat → Prop, pf_uc g Q → Q n
theorem pf_US_cl (g : gr_G) : pf_uc g (pf_US g) := ⟨fun h Q cl => cl.1 h, fun p m hp hm u a nt Q cl => cl.2 p m hp hm (u Q cl) a nt⟩
abbrev pf_S : Type := Nat → Nat → Prop
def pf_fp (k t : Nat) (S : pf_S) (s i : Nat) : Prop := (s < 10 ∧ s = t ∧ i = k) ∨ (pu_nt s ∧ S (s - 10) i)
def pf_ps (g : gr_G) (s i j : Nat) : Prop := pu_ps g (pu_HH g) s i j 1000
def pf_co (g : gr_G) (k t : Nat) (S : pf_S) (p i : Nat) : Prop := pf_fp k t S (gr_R g (3 * p)) i ∨ (∃ u, i ≤ u ∧ u ≤ k ∧ pf_ps g (gr_R g (3 * p)) i u ∧ pf_fp k t S (gr_R g (3 * p + 1)) u) ∨ (∃ u v, i ≤ u ∧ u ≤ v ∧ v ≤ k ∧ pf_ps g (gr_R g (3 * p)) i u ∧ pf_ps g (gr_R g (3 * p + 1)) u v ∧ pf_fp k t S (gr_R g (3 * p + 2)) v)
def pf_fc (g : gr_G) (k t : Nat) (S : pf_S) : Prop := ∀ p i, p < gr_P g → i ≤ k → pf_ap g (pf_PR g) p → pf_co g k t S p i → S (gr_F g p) i
def pf_FO (g : gr_G) (k t : Nat) : pf_S := fun n i => ∀ S : pf_S, pf_fc g k t S → S n i
theorem pf_fp_mono {k t s i : Nat} {S S' : pf_S} (h : ∀ n i, S n i → S' n i) (f : pf_fp k t S s i) : pf_fp k t S' s i := by
  obtain f | f := f
  · exact Or.inl f
  · exact Or.inr ⟨f.1, h _ _ f.2⟩
theorem pf_co_mono {g : gr_G} {k t p i : Nat} {S S' : pf_S} (h : ∀ n i, S n i → S' n i) (f : pf_co g k t S p i) : pf_co g k t S' p i := by
  obtain f | ⟨u, a, b, c, f⟩ | ⟨u, v, a, b, c, d, e, f⟩ := f
  · exact Or.inl (pf_fp_mono h f)
  · exact Or.inr (Or.inl ⟨u, a, b, c, pf_fp_mono h f⟩)
  · exact Or.inr (Or.inr ⟨u, v, a, b, c, d, e, pf_fp_mono h f⟩)
theorem pf_FO_cl (g : gr_G) (k t : Nat) : pf_fc g k t (pf_FO g k t) := fun p i hp hi a c S cl => cl p i hp hi a (pf_co_mono (fun _ _ h => h S cl) c)
section
variable {g : gr_G}
theorem pf_H_PR (W : gr_W g) (S : pu_HS g (pu_HH g)) : ∀ h n i j, pu_V g n i j → 0 < pu_HH g n i j → pu_HH g n i j ≤ h → pf_PR g n := by
  intro h
  induction h with
  | zero => intro n i j hv h0 hh; omega
  | succ h ih =>
    intro n i j hv h0 hh
    obtain ⟨q, eq⟩ : ∃ q, pu_HH g n i j = q + 1 := ⟨pu_HH g n i j - 1, by omega⟩
    obtain ⟨_, p, u, v, hp, hn, h1, h2, h3, f⟩ := ((S n i j hv).2.1 q eq).1
    have hj := hv.2.2
    have Q : ∀ {s x y : Nat}, pu_ok s → x ≤ y → y ≤ gr_L g → pu_ps g (pu_HH g) s x y (q + 1) → pf_yl (pf_PR g) s := by
      intro s x y ok hxy hy f nt
      have z := (pu_ps_n nt).mp f
      exact ih _ _ _ (xb_ntV ok nt hxy hy) z.1 (by omega)
    rw [← hn]
    refine pf_PR_cl g p hp (fun m hm => ?_)
    have : m = 0 ∨ m = 1 ∨ m = 2 := by omega
    obtain rfl | rfl | rfl := this
    · exact Q (pu_okR0 W hp) h1 (by omega) f.1
    · exact Q (pu_okR W hp (by decide)) h2 (by omega) f.2.1
    · exact Q (pu_okR W hp (by decide)) h3 hj f.2.2
theorem pf_ps_PR (W : gr_W g) (S : pu_HS g (pu_HH g)) {s i j : Nat} (ok : pu_ok s) (hij : i ≤ j) (hj : j ≤ gr_L g) (f : pf_ps g s i j) : pf_yl (pf_PR g) s := by
  intro nt
  have z := (pu_ps_n nt).mp f
  exact pf_H_PR W S _ _ _ _ (xb_ntV ok nt hij hj) z.1 (Nat.le_refl _)
theorem pf_FO_PR {k t n i : Nat} (h : pf_FO g k t n i) : pf_PR g n := h (fun n _ => pf_PR g n) (fun p _ hp _ a _ => pf_PR_cl g p hp a)
theorem pf_fp_PR {k t s i : Nat} (h : pf_fp k t (pf_FO g k t) s i) : pf_yl (pf_PR g) s := by
  intro nt
  obtain h | h := h
  · unfold pu_nt at nt; omega
  · exact pf_FO_PR h.2
/-- a symbol at the end of the text goes on or is empty -/
def pf_al (g : gr_G) (k s i : Nat) : Prop := (∃ t, t < 6 ∧ pf_fp k t (pf_FO g k t) s i) ∨ pf_ps g s i k
theorem pf_tree (W : gr_W g) (S : pu_HS g (pu_HH g)) {p i u v j : Nat} (hp : p < gr_P g) (h1 : i ≤ u) (h2 : u ≤ v) (h3 : v ≤ j) (hj : j ≤ gr_L g) (f0 : pf_ps g (gr_R g (3 * p)) i u) (f1 : pf_ps g (gr_R g (3 * p + 1)) u v) (f2 : pf_ps g (gr_R g (3 * p + 2)) v j) : 0 < pu_HH g (gr_F g p) i j := by
  by_cases z : pu_HH g (gr_F g p) i j = 0
  · exact absurd ⟨by decide, p, u, v, hp, rfl, h1, h2, h3, f0, f1, f2⟩ ((S _ _ _ ⟨W.2.2.1 p hp, by omega, hj⟩).1 z 1000)
  · omega
theorem pf_go2 (W : gr_W g) (S : pu_HS g (pu_HH g)) {p i u v k : Nat} (hp : p < gr_P g) (a : pf_ap g (pf_PR g) p) (h1 : i ≤ u) (h2 : u ≤ v) (h3 : v ≤ k) (hk : k ≤ gr_L g) (f0 : pf_ps g (gr_R g (3 * p)) i u) (f1 : pf_ps g (gr_R g (3 * p + 1)) u v) (f2 : pf_al g k (gr_R g (3 * p + 2)) v) : (∃ t, t < 6 ∧ pf_FO g k t (gr_F g p) i) ∨ 0 < pu_HH g (gr_F g p) i k := by
  obtain ⟨t, ht, f⟩ | f := f2
  · exact Or.inl ⟨t, ht, pf_FO_cl g k t p i hp (by omega) a (Or.inr (Or.inr ⟨u, v, h1, h2, h3, f0, f1, f⟩))⟩
  · exact Or.inr (pf_tree W S hp h1 h2 h3 hk f0 f1 f)
theorem pf_go1 (W : gr_W g) (S : pu_HS g (pu_HH g)) {p i u k : Nat} (hp : p < gr_P g) (a : pf_ap g (pf_PR g) p) (h1 : i ≤ u) (h2 : u ≤ k) (hk : k ≤ gr_L g) (f0 : pf_ps g (gr_R g (3 * p)) i u) (f1 : pf_al g k (gr_R g (3 * p + 1)) u) (f2 : pf_al g k (gr_R g (3 * p + 2)) k) : (∃ t, t < 6 ∧ pf_FO g k t (gr_F g p) i) ∨ 0 < pu_HH g (gr_F g p) i k := by
  obtain ⟨t, ht, f⟩ | f := f1
  · exact Or.inl ⟨t, ht, pf_FO_cl g k t p i hp (by omega) a (Or.inr (Or.inl ⟨u, h1, h2, f0, f⟩))⟩
  · exact pf_go2 W S hp a h1 h2 (Nat.le_refl _) hk f0 f f2
theorem pf_go0 (W : gr_W g) (S : pu_HS g (pu_HH g)) {p i k : Nat} (hp : p < gr_P g) (a : pf_ap g (pf_PR g) p) (h1 : i ≤ k) (hk : k ≤ gr_L g) (f0 : pf_al g k (gr_R g (3 * p)) i) (f1 : pf_al g k (gr_R g (3 * p + 1)) k) (f2 : pf_al g k (gr_R g (3 * p + 2)) k) : (∃ t, t < 6 ∧ pf_FO g k t (gr_F g p) i) ∨ 0 < pu_HH g (gr_F g p) i k := by
  obtain ⟨t, ht, f⟩ | f := f0
  · exact Or.inl ⟨t, ht, pf_FO_cl g k t p i hp h1 a (Or.inl f)⟩
  · exact pf_go1 W S hp a h1 (Nat.le_refl _) hk f f1 f2
theorem pf_al_of {k s i : Nat} (S : pu_HS g (pu_HH g)) (ok : pu_ok s) (hik : i ≤ k) (hk : k ≤ gr_L g) (nt : pu_nt s) (h : (∃ t, t < 6 ∧ pf_FO g k t (s - 10) i) ∨ 0 < pu_HH g (s - 10) i k) : pf_al g k s i := by
  obtain ⟨t, ht, f⟩ | f := h
  · exact Or.inl ⟨t, ht, Or.inr ⟨nt, f⟩⟩
  · exact Or.inr ((pu_psH S ok nt hik hk (by decide)).mpr f)
theorem pf_al_k {k s : Nat} (S : pu_HS g (pu_HH g)) (ok : pu_ok s) (hk : k ≤ gr_L g) (h : pu_nt s → (∃ t, t < 6 ∧ pf_FO g k t (s - 10) k) ∨ 0 < pu_HH g (s - 10) k k) : pf_al g k s k := by
  by_cases nt : pu_nt s
  · exact pf_al_of S ok (Nat.le_refl _) hk nt (h nt)
  · unfold pu_nt at nt
    by_cases c : s = 99
    · exact Or.inr ((pu_ps_a c).mpr rfl)
    · unfold pu_ok at ok
      exact Or.inl ⟨s, by omega, Or.inl ⟨by omega, rfl, rfl⟩⟩
theorem pf_PR_k (W : gr_W g) (S : pu_HS g (pu_HH g)) {k n : Nat} (hk : k ≤ gr_L g) (h : pf_PR g n) : (∃ t, t < 6 ∧ pf_FO g k t n k) ∨ 0 < pu_HH g n k k := by
  refine (h (fun n => pf_PR g n ∧ ((∃ t, t < 6 ∧ pf_FO g k t n k) ∨ 0 < pu_HH g n k k)) (fun p hp a => ?_)).2
  have a' : pf_ap g (pf_PR g) p := fun m hm nt => (a m hm nt).1
  refine ⟨pf_PR_cl g p hp a', pf_go0 W S hp a' (Nat.le_refl _) hk (pf_al_k S (pu_okR0 W hp) hk (fun nt => (a 0 (by decide) nt).2)) (pf_al_k S (pu_okR W hp (by decide)) hk (fun nt => (a 1 (by decide) nt).2)) (pf_al_k S (pu_okR W hp (by decide)) hk (fun nt => (a 2 (by decide) nt).2))⟩
theorem pf_al_PR (W : gr_W g) (S : pu_HS g (pu_HH g)) {k p m : Nat} (hk : k ≤ gr_L g) (hp : p < gr_P g) (hm : m < 3) (a : pf_ap g (pf_PR g) p) : pf_al g k (gr_R g (3 * p + m)) k :=
  pf_al_k S (pu_okR W hp hm) hk (fun nt => pf_PR_k W S hk (a m hm nt))
/-- what begins with one token more goes on or is whole -/
theorem pf_on (W : gr_W g) (S : pu_HS g (pu_HH g)) {k n i : Nat} (hk : k + 1 ≤ gr_L g) (hi : i ≤ k) (h : pf_FO g k (gr_T g k) n i) : (∃ t, t < 6 ∧ pf_FO g (k + 1) t n i) ∨ 0 < pu_HH g n i (k + 1) := by
  refine h (fun n i => i ≤ k → (∃ t, t < 6 ∧ pf_FO g (k + 1) t n i) ∨ 0 < pu_HH g n i (k + 1)) (fun p i hp hi' a c hi => ?_) hi
  have T : ∀ {s x : Nat}, pu_ok s → x ≤ k → pf_fp k (gr_T g k) (fun n i => i ≤ k → (∃ t, t < 6 ∧ pf_FO g (k + 1) t n i) ∨ 0 < pu_HH g n i (k + 1)) s x → pf_al g (k + 1) s x := by
    intro s x ok hx f
    obtain ⟨f1, f2, f3⟩ | ⟨nt, f⟩ := f
    · exact Or.inr ((pu_ps_t f1).mpr ⟨by omega, by rw [f3]; exact f2.symm⟩)
    · exact pf_al_of S ok (by omega) hk nt (f hx)
  obtain f | ⟨u, h1, h2, f0, f⟩ | ⟨u, v, h1, h2, h3, f0, f1, f⟩ := c
  · exact pf_go0 W S hp a (by omega) hk (T (pu_okR0 W hp) hi f) (pf_al_PR W S hk hp (by decide) a) (pf_al_PR W S hk hp (by decide) a)
  · exact pf_go1 W S hp a h1 (by omega) hk f0 (T (pu_okR W hp (by decide)) h2 f) (pf_al_PR W S hk hp (by decide) a)
  · exact pf_go2 W S hp a h1 h2 (by omega) hk f0 f1 (T (pu_okR W hp (by decide)) h3 f)
theorem pf_bk_H (W : gr_W g) (S : pu_HS g (pu_HH g)) {k : Nat} (hk : k + 1 ≤ gr_L g) : ∀ h n i, n < 5 → i ≤ k → 0 < pu_HH g n i (k + 1) → pu_HH g n i (k + 1) ≤ h → pf_FO g k (gr_T g k) n i := by
  intro h
  induction h with
  | zero => intro n i hn hi h0 hh; omega
  | succ h ih =>
    intro n i hn hi h0 hh
    have hv : pu_V g n i (k + 1) := ⟨hn, by omega, hk⟩
    obtain ⟨q, eq⟩ : ∃ q, pu_HH g n i (k + 1) = q + 1 := ⟨pu_HH g n i (k + 1) - 1, by omega⟩
    obtain ⟨_, p, u, v, hp, hn', h1, h2, h3, f⟩ := ((S n i (k + 1) hv).2.1 q eq).1
    have bq := (S n i (k + 1) hv).2.2
    have m0 : pf_ps g (gr_R g (3 * p)) i u := pu_ps_mono (by omega) f.1
    have m1 : pf_ps g (gr_R g (3 * p + 1)) u v := pu_ps_mono (by omega) f.2.1
    have m2 : pf_ps g (gr_R g (3 * p + 2)) v (k + 1) := pu_ps_mono (by omega) f.2.2
    have a : pf_ap g (pf_PR g) p := by
      intro m hm
      have : m = 0 ∨ m = 1 ∨ m = 2 := by omega
      obtain rfl | rfl | rfl := this
      · exact pf_ps_PR W S (pu_okR0 W hp) h1 (by omega) m0
      · exact pf_ps_PR W S (pu_okR W hp (by decide)) h2 (by omega) m1
      · exact pf_ps_PR W S (pu_okR W hp (by decide)) h3 hk m2
    have T : ∀ {s x : Nat}, pu_ok s → x ≤ k → pu_ps g (pu_HH g) s x (k + 1) (q + 1) → pf_fp k (gr_T g k) (pf_FO g k (gr_T g k)) s x := by
      intro s x ok hx f
      by_cases nt : pu_nt s
      · have z := (pu_ps_n nt).mp f
        exact Or.inr ⟨nt, ih _ _ (by unfold pu_nt at nt; unfold pu_ok at ok; omega) hx z.1 (by omega)⟩
      · unfold pu_nt at nt
        unfold pu_ok at ok
        by_cases c : s = 99
        · have := (pu_ps_a c).mp f; omega
        · have z := (pu_ps_t (by omega)).mp f
          have e : x = k := by omega
          refine Or.inl ⟨by omega, ?_, e⟩
          rw [← z.2, e]
    rw [← hn']
    by_cases c2 : v = k + 1
    · subst c2
      by_cases c1 : u = k + 1
      · subst c1
        exact pf_FO_cl g k _ p i hp hi a (Or.inl (T (pu_okR0 W hp) hi f.1))
      · exact pf_FO_cl g k _ p i hp hi a (Or.inr (Or.inl ⟨u, h1, by omega, m0, T (pu_okR W hp (by decide)) (by omega) f.2.1⟩))
    · exact pf_FO_cl g k _ p i hp hi a (Or.inr (Or.inr ⟨u, v, h1, h2, by omega, m0, m1, T (pu_okR W hp (by decide)) (by omega) f.2.2⟩))
theorem pf_bk_ps (W : gr_W g) (S : pu_HS g (pu_HH g)) {k s x : Nat} (hk : k + 1 ≤ gr_L g) (ok : pu_ok s) (hx : x ≤ k) (f : pf_ps g s x (k + 1)) : pf_fp k (gr_T g k) (pf_FO g k (gr_T g k)) s x := by
  by_cases nt : pu_nt s
  · have z := (pu_ps_n nt).mp f
    exact Or.inr ⟨nt, pf_bk_H W S hk _ _ _ (by unfold pu_nt at nt; unfold pu_ok at ok; omega) hx z.1 (Nat.le_refl _)⟩
  · unfold pu_nt at nt
    unfold pu_ok at ok
    by_cases c : s = 99
    · have := (pu_ps_a c).mp f; omega
    · have z := (pu_ps_t (by omega)).mp f
      have e : x = k := by omega
      refine Or.inl ⟨by omega, ?_, e⟩
      rw [← z.2, e]
theorem pf_bk_F (W : gr_W g) (S : pu_HS g (pu_HH g)) {k n i t : Nat} (hk : k + 1 ≤ gr_L g) (hi : i ≤ k) (h : pf_FO g (k + 1) t n i) : pf_FO g k (gr_T g k) n i := by
  refine h (fun n i => i ≤ k → pf_FO g k (gr_T g k) n i) (fun p i hp hi' a c hi => ?_) hi
  have T : ∀ {s x : Nat}, x ≤ k → pf_fp (k + 1) t (fun n i => i ≤ k → pf_FO g k (gr_T g k) n i) s x → pf_fp k (gr_T g k) (pf_FO g k (gr_T g k)) s x := by
    intro s x hx f
    obtain ⟨f1, f2, f3⟩ | ⟨nt, f⟩ := f
    · omega
    · exact Or.inr ⟨nt, f hx⟩
  obtain f | ⟨u, h1, h2, f0, f⟩ | ⟨u, v, h1, h2, h3, f0, f1, f⟩ := c
  · exact pf_FO_cl g k _ p i hp hi a (Or.inl (T hi f))
  · by_cases c1 : u = k + 1
    · subst c1
      exact pf_FO_cl g k _ p i hp hi a (Or.inl (pf_bk_ps W S hk (pu_okR0 W hp) hi f0))
    · exact pf_FO_cl g k _ p i hp hi a (Or.inr (Or.inl ⟨u, h1, by omega, f0, T (by omega) f⟩))
  · by_cases c2 : v = k + 1
    · subst c2
      by_cases c1 : u = k + 1
      · subst c1
        exact pf_FO_cl g k _ p i hp hi a (Or.inl (pf_bk_ps W S hk (pu_okR0 W hp) hi f0))
      · exact pf_FO_cl g k _ p i hp hi a (Or.inr (Or.inl ⟨u, h1, by omega, f0, pf_bk_ps W S hk (pu_okR W hp (by decide)) (by omega) f1⟩))
    · exact pf_FO_cl g k _ p i hp hi a (Or.inr (Or.inr ⟨u, v, h1, h2, by omega, f0, f1, T (by omega) f⟩))
/-- the first k tokens are a beginning -/
def pf_B (g : gr_G) (k : Nat) : Prop := if k = 0 then pf_PR g 0 else pf_FO g (k - 1) (gr_T g (k - 1)) 0 0
theorem pf_B_iff (W : gr_W g) (S : pu_HS g (pu_HH g)) {k : Nat} (hk : k ≤ gr_L g) : pf_B g k ↔ ((∃ t, t < 6 ∧ pf_FO g k t 0 0) ∨ 0 < pu_HH g 0 0 k) := by
  unfold pf_B
  by_cases c : k = 0
  · rw [if_pos c]
    subst c
    constructor
    · exact fun h => pf_PR_k W S hk h
    · intro h
      obtain ⟨t, _, h⟩ | h := h
      · exact pf_FO_PR h
      · exact pf_H_PR W S _ _ _ _ ⟨by decide, Nat.le_refl _, hk⟩ h (Nat.le_refl _)
  · rw [if_neg c]
    obtain ⟨q, rfl⟩ : ∃ q, k = q + 1 := ⟨k - 1, by omega⟩
    rw [show q + 1 - 1 = q from rfl]
    constructor
    · exact fun h => pf_on W S hk (by omega) h
    · intro h
      obtain ⟨t, _, h⟩ | h := h
      · exact pf_bk_F W S hk (by omega) h
      · exact pf_bk_H W S hk _ _ _ (by decide) (by omega) h (Nat.le_refl _)
/-! the reference's rule -/
def pf_yo (g : gr_G) (k t : Nat) (S : pf_S) (p i : Nat) : Prop := (pf_fp k t S (gr_R g (3 * p)) i ∧ pf_yl (pf_PR g) (gr_R g (3 * p + 1)) ∧ pf_yl (pf_PR g) (gr_R g (3 * p + 2))) ∨ (∃ u, i ≤ u ∧ u ≤ k ∧ pf_ps g (gr_R g (3 * p)) i u ∧ pf_fp k t S (gr_R g (3 * p + 1)) u ∧ pf_yl (pf_PR g) (gr_R g (3 * p + 2))) ∨ (∃ u v, i ≤ u ∧ u ≤ v ∧ v ≤ k ∧ pf_ps g (gr_R g (3 * p)) i u ∧ pf_ps g (gr_R g (3 * p + 1)) u v ∧ pf_fp k t S (gr_R g (3 * p + 2)) v)
def pf_yc (g : gr_G) (k t : Nat) (S : pf_S) : Prop := ∀ p i, p < gr_P g → i ≤ k → pf_yo g k t S p i → S (gr_F g p) i
theorem pf_ap3 {Q : Nat → Prop} {p : Nat} (a : pf_yl Q (gr_R g (3 * p))) (b : pf_yl Q (gr_R g (3 * p + 1))) (c : pf_yl Q (gr_R g (3 * p + 2))) : pf_ap g Q p := by
  intro m hm
  have : m = 0 ∨ m = 1 ∨ m = 2 := by omega
  obtain rfl | rfl | rfl := this
  · exact a
  · exact b
  · exact c
theorem pf_FO_yc (W : gr_W g) (S : pu_HS g (pu_HH g)) {k t : Nat} (hk : k ≤ gr_L g) : pf_yc g k t (pf_FO g k t) := by
  intro p i hp hi c
  obtain ⟨f, a1, a2⟩ | ⟨u, h1, h2, f0, f, a2⟩ | ⟨u, v, h1, h2, h3, f0, f1, f⟩ := c
  · exact pf_FO_cl g k t p i hp hi (pf_ap3 (pf_fp_PR f) a1 a2) (Or.inl f)
  · exact pf_FO_cl g k t p i hp hi (pf_ap3 (pf_ps_PR W S (pu_okR0 W hp) h1 (by omega) f0) (pf_fp_PR f) a2) (Or.inr (Or.inl ⟨u, h1, h2, f0, f⟩))
  · exact pf_FO_cl g k t p i hp hi (pf_ap3 (pf_ps_PR W S (pu_okR0 W hp) h1 (by omega) f0) (pf_ps_PR W S (pu_okR W hp (by decide)) h2 (by omega) f1) (pf_fp_PR f)) (Or.inr (Or.inr ⟨u, v, h1, h2, h3, f0, f1, f⟩))
theorem pf_FO_yle {k t n i : Nat} {S : pf_S} (cl : pf_yc g k t S) (h : pf_FO g k t n i) : S n i := by
  refine h S (fun p i hp hi a c => cl p i hp hi ?_)
  obtain f | ⟨u, h1, h2, f0, f⟩ | ⟨u, v, h1, h2, h3, f0, f1, f⟩ := c
  · exact Or.inl ⟨f, a 1 (by decide), a 2 (by decide)⟩
  · exact Or.inr (Or.inl ⟨u, h1, h2, f0, f, a 2 (by decide)⟩)
  · exact Or.inr (Or.inr ⟨u, v, h1, h2, h3, f0, f1, f⟩)
end
end
section
/-! productive and used: arrays of five -/
def xm_B (a : Nat → Int32) : Prop := ∀ n, n < 5 → a n = 0 ∨ a n = 1
def mk_c (a : Nat → Int32) : Nat := pu_cnt (fun n => decide (a n ≠ 0)) 5
def mk_q (a : Nat → Int32) : Nat → Prop := fun n => a n ≠ 0
def xm_Pr (g : gr_G) (a : Nat → Int32) : Prop := ∀ n, n < 5 → (a n = 1 ∧ pf_PR g n) ∨ (a n = 0 ∧ ¬ pf_PR g n)
def xm_Us (g : gr_G) (a : Nat → Int32) : Prop := ∀ n, n < 5 → (a n = 1 ∧ pf_US g n) ∨ (a n = 0 ∧ ¬ pf_US g n)
theorem mk_lt {a0 a : Nat → Int32} (M : ∀ n, n < 5 → a0 n ≠ 0 → a n ≠ 0) (h : ¬ ∀ n, n < 5 → a n ≠ 0 → a0 n ≠ 0) : mk_c a0 < mk_c a := by
  have : ∃ n, n < 5 ∧ a n ≠ 0 ∧ a0 n = 0 := by
    apply Classical.byContradiction
    intro z
    exact h (fun n hn h1 h2 => z ⟨n, hn, h1, h2⟩)
  obtain ⟨n, hn, h1, h2⟩ := this
  exact pu_cnt_lt (x0 := n) (by rw [h2]; rfl) (decide_eq_true h1) (fun x hx hh => decide_eq_true (M x hx (of_decide_eq_true hh))) hn
theorem xm_B_up {a : Nat → Int32} (B : xm_B a) (n : Nat) : xm_B (upd a n 1) := by
  intro x hx
  by_cases c : x = n
  · rw [c, pk_us]; exact Or.inr rfl
  · rw [pk_un c]; exact B x hx
theorem mk_up {a : Nat → Int32} {n x : Nat} (h : a x ≠ 0) : upd a n 1 x ≠ 0 := by
  by_cases c : x = n
  · rw [c, pk_us]; decide
  · rw [pk_un c]; exact h
theorem mk_ap {g : gr_G} {Q Q' : Nat → Prop} {p : Nat} (W : gr_W g) (hp : p < gr_P g) (h : ∀ n, n < 5 → Q n → Q' n) (a : pf_ap g Q p) : pf_ap g Q' p := by
  intro m hm nt
  refine h _ ?_ (a m hm nt)
  have ok := pu_okR W hp hm
  unfold pu_nt at nt
  unfold pu_ok at ok
  omega
def pr_I (g : gr_G) (a0 : Nat → Int32) (p : Nat) (a : Nat → Int32) : Prop := xm_B a ∧ (∀ n, n < 5 → a n ≠ 0 → pf_PR g n) ∧ (∀ n, n < 5 → a0 n ≠ 0 → a n ≠ 0) ∧ (∀ p', p' < p → p' < gr_P g → pf_ap g (mk_q a0) p' → a (gr_F g p') ≠ 0)
def pr_O (g : gr_G) (r : Nat) (a : Nat → Int32) : Prop := xm_B a ∧ (∀ n, n < 5 → a n ≠ 0 → pf_PR g n) ∧ (r ≤ mk_c a ∨ ∀ n, n < 5 → pf_PR g n → a n ≠ 0)
theorem pr_step {g : gr_G} {r : Nat} {a0 a : Nat → Int32} (W : gr_W g) (h0 : pr_O g r a0) (h : pr_I g a0 (gr_P g) a) : pr_O g (r + 1) a := by
  refine ⟨h.1, h.2.1, ?_⟩
  by_cases e : ∀ n, n < 5 → a n ≠ 0 → a0 n ≠ 0
  · refine Or.inr (fun n hn pr => ?_)
    refine h.2.2.1 n hn (pr (fun n => n < 5 → a0 n ≠ 0) (fun p hp ap hF => ?_) hn)
    exact e _ hF (h.2.2.2 p hp hp (mk_ap W hp (fun n hn q => q hn) ap))
  · obtain c | c := h0.2.2
    · have := mk_lt h.2.2.1 e
      exact Or.inl (by omega)
    · exact Or.inr (fun n hn pr => h.2.2.1 n hn (c n hn pr))
theorem pr_end {g : gr_G} {a : Nat → Int32} (h : pr_O g 5 a) : xm_Pr g a := by
  have full : ∀ n, n < 5 → pf_PR g n → a n ≠ 0 := by
    obtain c | c := h.2.2
    · exact fun n hn _ => of_decide_eq_true (pu_cnt_full c hn)
    · exact c
  intro n hn
  obtain e | e := h.1 n hn
  · exact Or.inr ⟨e, fun z => full n hn z e⟩
  · exact Or.inl ⟨e, h.2.1 n hn (by rw [e]; decide)⟩
theorem pr_in {g : gr_G} {a0 a : Nat → Int32} {p : Nat} (W : gr_W g) (hp : p < gr_P g) (h : pr_I g a0 p a) : (pf_ap g (mk_q a) p → pr_I g a0 (p + 1) (upd a (gr_F g p) 1)) ∧ (¬ pf_ap g (mk_q a) p → pr_I g a0 (p + 1) a) := by
  obtain ⟨h1, h2, h3, h4⟩ := h
  refine ⟨fun ap => ⟨xm_B_up h1 _, fun n hn z => ?_, fun n hn z => mk_up (h3 n hn z), fun p' hp' hP' z => ?_⟩, fun ap => ⟨h1, h2, h3, fun p' hp' hP' z => ?_⟩⟩
  · by_cases c : n = gr_F g p
    · rw [c]; exact pf_PR_cl g p hp (mk_ap W hp h2 ap)
    · rw [pk_un c] at z; exact h2 n hn z
  · by_cases c : p' = p
    · rw [c, pk_us]; decide
    · exact mk_up (h4 p' (by omega) hP' z)
  · by_cases c : p' = p
    · rw [c] at z; exact absurd (mk_ap W hp h3 z) ap
    · exact h4 p' (by omega) hP' z
/-- used -/
def us_I (g : gr_G) (a0 : Nat → Int32) (p : Nat) (a : Nat → Int32) : Prop := xm_B a ∧ (∀ n, n < 5 → a n ≠ 0 → pf_US g n) ∧ (∀ n, n < 5 → a0 n ≠ 0 → a n ≠ 0) ∧ (∀ p' m, p' < p → p' < gr_P g → m < 3 → a0 (gr_F g p') ≠ 0 → pf_ap g (pf_PR g) p' → pu_nt (gr_R g (3 * p' + m)) → a (gr_R g (3 * p' + m) - 10) ≠ 0)
def us_O (g : gr_G) (r : Nat) (a : Nat → Int32) : Prop := xm_B a ∧ (∀ n, n < 5 → a n ≠ 0 → pf_US g n) ∧ (pf_PR g 0 → a 0 ≠ 0) ∧ (r ≤ mk_c a ∨ ∀ n, n < 5 → pf_US g n → a n ≠ 0)
theorem us_step {g : gr_G} {r : Nat} {a0 a : Nat → Int32} (W : gr_W g) (h0 : us_O g r a0) (h : us_I g a0 (gr_P g) a) : us_O g (r + 1) a := by
  refine ⟨h.1, h.2.1, fun z => h.2.2.1 0 (by decide) (h0.2.2.1 z), ?_⟩
  by_cases e : ∀ n, n < 5 → a n ≠ 0 → a0 n ≠ 0
  · refine Or.inr (fun n hn us => ?_)
    refine h.2.2.1 n hn (us (fun n => n < 5 → a0 n ≠ 0) ⟨fun z _ => h0.2.2.1 z, fun p m hp hm q ap nt hF => ?_⟩ hn)
    exact e _ hF (h.2.2.2 p m hp hp hm (q (W.2.2.1 p hp)) ap nt)
  · obtain c | c := h0.2.2.2
    · have := mk_lt h.2.2.1 e
      exact Or.inl (by omega)
    · exact Or.inr (fun n hn us => h.2.2.1 n hn (c n hn us))
theorem us_end {g : gr_G} {a : Nat → Int32} (h : us_O g 5 a) : xm_Us g a := by
  have full : ∀ n, n < 5 → pf_US g n → a n ≠ 0 := by
    obtain c | c := h.2.2.2
    · exact fun n hn _ => of_decide_eq_true (pu_cnt_full c hn)
    · exact c
  intro n hn
  obtain e | e := h.1 n hn
  · exact Or.inr ⟨e, fun z => full n hn z e⟩
  · exact Or.inl ⟨e, h.2.1 n hn (by rw [e]; decide)⟩
/-- the right side of a used production, its first m symbols being used -/
def us_R (g : gr_G) (b : Nat → Int32) (p m : Nat) (a : Nat → Int32) : Prop := xm_B a ∧ (∀ n, n < 5 → a n ≠ 0 → pf_US g n) ∧ (∀ n, n < 5 → b n ≠ 0 → a n ≠ 0) ∧ (∀ m', m' < m → pu_nt (gr_R g (3 * p + m')) → a (gr_R g (3 * p + m') - 10) ≠ 0)
theorem us_Rs {g : gr_G} {b a : Nat → Int32} {p m : Nat} (W : gr_W g) (hp : p < gr_P g) (hm : m < 3) (u : pf_US g (gr_F g p)) (ap : pf_ap g (pf_PR g) p) (h : us_R g b p m a) : (pu_nt (gr_R g (3 * p + m)) → us_R g b p (m + 1) (upd a (gr_R g (3 * p + m) - 10) 1)) ∧ (¬ pu_nt (gr_R g (3 * p + m)) → us_R g b p (m + 1) a) := by
  obtain ⟨h1, h2, h3, h4⟩ := h
  refine ⟨fun nt => ⟨xm_B_up h1 _, fun n hn z => ?_, fun n hn z => mk_up (h3 n hn z), fun m' hm' z => ?_⟩, fun nt => ⟨h1, h2, h3, fun m' hm' z => ?_⟩⟩
  · by_cases c : n = gr_R g (3 * p + m) - 10
    · rw [c]; exact (pf_US_cl g).2 p m hp hm u ap nt
    · rw [pk_un c] at z; exact h2 n hn z
  · by_cases c : m' = m
    · rw [c, pk_us]; decide
    · exact mk_up (h4 m' (by omega) z)
  · by_cases c : m' = m
    · rw [c] at z; exact absurd z nt
    · exact h4 m' (by omega) z
theorem us_in {g : gr_G} {a0 a a' : Nat → Int32} {p : Nat} (W : gr_W g) (h : us_I g a0 p a) (r : us_R g a p 3 a') : us_I g a0 (p + 1) a' := by
  obtain ⟨h1, h2, h3, h4⟩ := h
  obtain ⟨r1, r2, r3, r4⟩ := r
  refine ⟨r1, r2, fun n hn z => r3 n hn (h3 n hn z), fun p' m hp' hP' hm z ap nt => ?_⟩
  by_cases c : p' = p
  · rw [c] at nt ⊢; exact r4 m hm nt
  · refine r3 _ ?_ (h4 p' m (by omega) hP' hm z ap nt)
    have ok := pu_okR W hP' hm
    unfold pu_nt at nt
    unfold pu_ok at ok
    omega
theorem us_no {g : gr_G} {a0 a : Nat → Int32} {p : Nat} (W : gr_W g) (hp : p < gr_P g) (h : us_I g a0 p a) (n : a (gr_F g p) = 0 ∨ ¬ pf_ap g (pf_PR g) p) : us_I g a0 (p + 1) a := by
  obtain ⟨h1, h2, h3, h4⟩ := h
  refine ⟨h1, h2, h3, fun p' m hp' hP' hm z ap nt => ?_⟩
  by_cases c : p' = p
  · rw [c] at z ap
    obtain e | e := n
    · exact absurd e (h3 _ (W.2.2.1 p hp) z)
    · exact absurd ap e
  · exact h4 p' m (by omega) hP' hm z ap nt
section
variable {g : gr_G} {f_chartReady f_countsReady f_distancesReady f_followsReady f_filled : Int32} {a_lefts a_rights a_ops a_constants a_text a_heights a_chosen a_firstEnds a_secondEnds a_order a_counts a_distances a_follows a_sizes : Nat → Int32} {a_values a_operands : Nat → Int64} {a_productive a_used : Nat → Int32}
theorem xs_isProd {post : Int32 → Prop} {p : Nat} (W : gr_W g) (hp : p < gr_P g) (mR : xm_R g a_rights) (ht : pf_ap g (mk_q a_productive) p → post 1) (hf : ¬ pf_ap g (mk_q a_productive) p → post 0) : wpX_isProductive post (nI (gr_P g), nI (gr_L g), f_chartReady, f_countsReady, f_distancesReady, f_followsReady, f_filled, a_lefts, a_rights, a_ops, a_constants, a_text, a_heights, a_chosen, a_firstEnds, a_secondEnds, a_order, a_counts, a_distances, a_follows, a_sizes, a_values, a_operands, a_productive, a_used) (nI p) := by
  have hP := W.1
  have K : ∀ d m, m + d = 3 → (∀ q, q < m → pf_yl (mk_q a_productive) (gr_R g (3 * p + q))) → wX_isProductive_2 post (nI p) (nI (gr_P g)) (nI (gr_L g)) f_chartReady f_countsReady f_distancesReady f_followsReady f_filled a_lefts a_rights a_ops a_constants a_text a_heights a_chosen a_firstEnds a_secondEnds a_order a_counts a_distances a_follows a_sizes a_values a_operands a_productive a_used (d + 1) (nI m) := by
    intro d
    induction d with
    | zero =>
      intro m hm hist
      have e : m = 3 := by omega
      subst e
      exact br_t (nI_le (a := 3) (b := 3) (by decide) (by decide)) (ht hist)
    | succ d ih =>
      intro m hm hist
      have ok := pu_okR W hp (m := m) (by omega)
      have st : pf_yl (mk_q a_productive) (gr_R g (3 * p + m)) → wX_isProductive_2 post (nI p) (nI (gr_P g)) (nI (gr_L g)) f_chartReady f_countsReady f_distancesReady f_followsReady f_filled a_lefts a_rights a_ops a_constants a_text a_heights a_chosen a_firstEnds a_secondEnds a_order a_counts a_distances a_follows a_sizes a_values a_operands a_productive a_used (d + 1) (nI (m + 1)) := fun y => ih (m + 1) (by omega) (fun q hq => by
        by_cases c : q = m
        · rw [c]; exact y
        · exact hist q (by omega))
      refine br_f (nI_ge (b := 3) (by omega) (by decide)) ⟨xb_i (by omega) (by omega), nm_r (xm_Rm W mR hp (by omega)) (ek_if (sy_lt ok) (fun c => nm_r (nI_1 m) (st (fun nt => by unfold pu_nt at nt; omega))) (fun c => ?_))⟩
      have nt : pu_nt (gr_R g (3 * p + m)) := by unfold pu_nt; unfold pu_ok at ok; omega
      have h5 : gr_R g (3 * p + m) - 10 < 5 := by unfold pu_ok at ok; unfold pu_nt at nt; omega
      rw [sy_nt nt, xb_10]
      refine ⟨vp_in_nI h5 (by decide), ?_⟩
      rw [nI_clamp (by omega)]
      exact br_c (fun z => hf (fun ap => ap m (by omega) nt z)) (fun z => nm_r (nI_1 m) (st (fun _ => z)))
  exact ⟨3 + 1, K 3 0 rfl (fun q hq => by omega)⟩
theorem xs_markProd {post : SX → Prop} (W : gr_W g) (mR : xm_R g a_rights) (mF : xm_F g a_lefts) (hpost : ∀ (a_productive : Nat → Int32), xm_Pr g a_productive → post (nI (gr_P g), nI (gr_L g), f_chartReady, f_countsReady, f_distancesReady, f_followsReady, f_filled, a_lefts, a_rights, a_ops, a_constants, a_text, a_heights, a_chosen, a_firstEnds, a_secondEnds, a_order, a_counts, a_distances, a_follows, a_sizes, a_values, a_operands, a_productive, a_used)) : wpX_markProductive post (nI (gr_P g), nI (gr_L g), f_chartReady, f_countsReady, f_distancesReady, f_followsReady, f_filled, a_lefts, a_rights, a_ops, a_constants, a_text, a_heights, a_chosen, a_firstEnds, a_secondEnds, a_order, a_counts, a_distances, a_follows, a_sizes, a_values, a_operands, a_productive, a_used) := by
  have hP := W.1
  have K29 : ∀ (n22 r : Nat) (a0 : Nat → Int32), (∀ (a_productive : Nat → Int32), pr_I g a0 (gr_P g) a_productive → wX_markProductive_22 post (nI (gr_P g)) (nI (gr_L g)) f_chartReady f_countsReady f_distancesReady f_followsReady f_filled n22 (nI (r + 1)) a_lefts a_rights a_ops a_constants a_text a_heights a_chosen a_firstEnds a_secondEnds a_order a_counts a_distances a_follows a_sizes a_values a_operands a_productive a_used) → ∀ d p, p + d = gr_P g → ∀ (a_productive : Nat → Int32), pr_I g a0 p a_productive → wX_markProductive_29 post (wX_markProductive_22 post (nI (gr_P g)) (nI (gr_L g)) f_chartReady f_countsReady f_distancesReady f_followsReady f_filled n22) (nI r) (nI (gr_P g)) (nI (gr_L g)) f_chartReady f_countsReady f_distancesReady f_followsReady f_filled (d + 1) (nI p) a_lefts a_rights a_ops a_constants a_text a_heights a_chosen a_firstEnds a_secondEnds a_order a_counts a_distances a_follows a_sizes a_values a_operands a_productive a_used := by
    intro n22 r a0 hJ d
    induction d with
    | zero =>
      intro p hp a_productive I
      have e : p = gr_P g := by omega
      subst e
      exact br_t (nI_le (Nat.le_refl _) (by omega)) (nm_r (nI_1 r) (hJ _ I))
    | succ d ih =>
      intro p hp a_productive I
      have hp' : p < gr_P g := by omega
      have hF := W.2.2.1 p hp'
      have st := pr_in W hp' I
      refine br_f (nI_ge (by omega) (by omega)) (xs_isProd (g := g) W hp' mR (fun ap => br_f (by decide) ⟨vp_in_nI (by omega) (by decide), ?_⟩) (fun ap => br_t rfl (nm_r (nI_1 p) (ih (p + 1) (by omega) _ (st.2 ap)))))
      rw [xm_Fp W mF hp', xb_10]
      exact ⟨vp_in_nI hF (by decide), nm_r (e' := upd a_productive (gr_F g p) 1) (by rw [nI_clamp (by omega)]; rfl) (nm_r (nI_1 p) (ih (p + 1) (by omega) _ (st.1 ap)))⟩
  have K22 : ∀ d r, r + d = 5 → ∀ (a_productive : Nat → Int32), pr_O g r a_productive → wX_markProductive_22 post (nI (gr_P g)) (nI (gr_L g)) f_chartReady f_countsReady f_distancesReady f_followsReady f_filled (d + 1) (nI r) a_lefts a_rights a_ops a_constants a_text a_heights a_chosen a_firstEnds a_secondEnds a_order a_counts a_distances a_follows a_sizes a_values a_operands a_productive a_used := by
    intro d
    induction d with
    | zero =>
      intro r hr a_productive I
      have e : r = 5 := by omega
      subst e
      exact br_t (nI_le (a := 5) (b := 5) (by decide) (by decide)) (hpost _ (pr_end I))
    | succ d ih =>
      intro r hr a_productive I
      refine br_f (nI_ge (b := 5) (by omega) (by decide)) ⟨gr_P g + 1, ?_⟩
      exact K29 (d + 1) r a_productive (fun a I' => ih (r + 1) (by omega) a (pr_step W I I')) (gr_P g) 0 (by omega) a_productive ⟨I.1, I.2.1, fun _ _ z => z, fun p' hp' => by omega⟩
  have K2 : ∀ d x, x + d = 5 → ∀ (a_productive : Nat → Int32), (∀ y, y < x → a_productive y = 0) → wX_markProductive_2 post (nI (gr_P g)) (nI (gr_L g)) f_chartReady f_countsReady f_distancesReady f_followsReady f_filled (d + 1) (nI x) a_lefts a_rights a_ops a_constants a_text a_heights a_chosen a_firstEnds a_secondEnds a_order a_counts a_distances a_follows a_sizes a_values a_operands a_productive a_used := by
    intro d
    induction d with
    | zero =>
      intro x hx a_productive hz
      have e : x = 5 := by omega
      subst e
      exact br_t (nI_le (a := 5) (b := 5) (by decide) (by decide)) ⟨5 + 1, K22 5 0 rfl _ ⟨fun n hn => Or.inl (hz n hn), fun n hn z => absurd (hz n hn) z, Or.inl (Nat.zero_le _)⟩⟩
    | succ d ih =>
      intro x hx a_productive hz
      refine br_f (nI_ge (b := 5) (by omega) (by decide)) ⟨vp_in_nI (by omega) (by decide), nm_r (e' := upd a_productive x 0) (by rw [nI_clamp (by omega)]; rfl) (nm_r (nI_1 x) (ih (x + 1) (by omega) _ (fun y hy => ?_)))⟩
      by_cases c : y = x
      · rw [c, pk_us]
      · rw [pk_un c]; exact hz y (by omega)
  exact ⟨5 + 1, K2 5 0 rfl _ (fun y hy => absurd hy (by omega))⟩
theorem xm_Pr_ap {g : gr_G} {a : Nat → Int32} {p : Nat} (W : gr_W g) (hp : p < gr_P g) (h : xm_Pr g a) : pf_ap g (mk_q a) p ↔ pf_ap g (pf_PR g) p := by
  constructor
  · refine mk_ap W hp (fun n hn z => ?_)
    obtain ⟨_, q⟩ | ⟨e, _⟩ := h n hn
    · exact q
    · exact absurd e z
  · refine mk_ap W hp (fun n hn z => ?_)
    obtain ⟨e, _⟩ | ⟨_, q⟩ := h n hn
    · show a n ≠ 0
      rw [e]; decide
    · exact absurd z q
theorem xs_useRs {post : SX → Prop} {p : Nat} (W : gr_W g) (hp : p < gr_P g) (mR : xm_R g a_rights) (u : pf_US g (gr_F g p)) (ap : pf_ap g (pf_PR g) p) (I : us_R g a_used p 0 a_used) (hpost : ∀ (a : Nat → Int32), us_R g a_used p 3 a → post (nI (gr_P g), nI (gr_L g), f_chartReady, f_countsReady, f_distancesReady, f_followsReady, f_filled, a_lefts, a_rights, a_ops, a_constants, a_text, a_heights, a_chosen, a_firstEnds, a_secondEnds, a_order, a_counts, a_distances, a_follows, a_sizes, a_values, a_operands, a_productive, a)) : wpX_useRightSide post (nI (gr_P g), nI (gr_L g), f_chartReady, f_countsReady, f_distancesReady, f_followsReady, f_filled, a_lefts, a_rights, a_ops, a_constants, a_text, a_heights, a_chosen, a_firstEnds, a_secondEnds, a_order, a_counts, a_distances, a_follows, a_sizes, a_values, a_operands, a_productive, a_used) (nI p) := by
  have hP := W.1
  have K : ∀ d m, m + d = 3 → ∀ (a : Nat → Int32), us_R g a_used p m a → wX_useRightSide_2 post (nI p) (nI (gr_P g)) (nI (gr_L g)) f_chartReady f_countsReady f_distancesReady f_followsReady f_filled (d + 1) (nI m) a_lefts a_rights a_ops a_constants a_text a_heights a_chosen a_firstEnds a_secondEnds a_order a_counts a_distances a_follows a_sizes a_values a_operands a_productive a := by
    intro d
    induction d with
    | zero =>
      intro m hm a I
      have e : m = 3 := by omega
      subst e
      exact br_t (nI_le (a := 3) (b := 3) (by decide) (by decide)) (hpost a I)
    | succ d ih =>
      intro m hm a I
      have ok := pu_okR W hp (m := m) (by omega)
      have st := us_Rs W hp (show m < 3 by omega) u ap I
      refine br_f (nI_ge (b := 3) (by omega) (by decide)) ⟨xb_i (by omega) (by omega), nm_r (xm_Rm W mR hp (by omega)) (ek_if (sy_lt ok) (fun c => nm_r (nI_1 m) (ih (m + 1) (by omega) a (st.2 (fun nt => by unfold pu_nt at nt; omega)))) (fun c => ?_))⟩
      have nt : pu_nt (gr_R g (3 * p + m)) := by unfold pu_nt; unfold pu_ok at ok; omega
      have h5 : gr_R g (3 * p + m) - 10 < 5 := by unfold pu_ok at ok; unfold pu_nt at nt; omega
      rw [sy_nt nt, xb_10]
      exact ⟨vp_in_nI h5 (by decide), nm_r (e' := upd a (gr_R g (3 * p + m) - 10) 1) (by rw [nI_clamp (by omega)]; rfl) (nm_r (nI_1 m) (ih (m + 1) (by omega) _ (st.1 nt)))⟩
  exact ⟨3 + 1, K 3 0 rfl a_used I⟩
theorem xs_markUsed {post : SX → Prop} (W : gr_W g) (mR : xm_R g a_rights) (mF : xm_F g a_lefts) (Pr : xm_Pr g a_productive) (hpost : ∀ (a_used : Nat → Int32), xm_Us g a_used → post (nI (gr_P g), nI (gr_L g), f_chartReady, f_countsReady, f_distancesReady, f_followsReady, f_filled, a_lefts, a_rights, a_ops, a_constants, a_text, a_heights, a_chosen, a_firstEnds, a_secondEnds, a_order, a_counts, a_distances, a_follows, a_sizes, a_values, a_operands, a_productive, a_used)) : wpX_markUsed post (nI (gr_P g), nI (gr_L g), f_chartReady, f_countsReady, f_distancesReady, f_followsReady, f_filled, a_lefts, a_rights, a_ops, a_constants, a_text, a_heights, a_chosen, a_firstEnds, a_secondEnds, a_order, a_counts, a_distances, a_follows, a_sizes, a_values, a_operands, a_productive, a_used) := by
  have hP := W.1
  have K46 : ∀ (n39 r : Nat) (a0 : Nat → Int32), (∀ (a_used : Nat → Int32), us_I g a0 (gr_P g) a_used → wX_markUsed_39 post n39 (nI (r + 1)) (nI (gr_P g)) (nI (gr_L g)) f_chartReady f_countsReady f_distancesReady f_followsReady f_filled a_lefts a_rights a_ops a_constants a_text a_heights a_chosen a_firstEnds a_secondEnds a_order a_counts a_distances a_follows a_sizes a_values a_operands a_productive a_used) → ∀ d p, p + d = gr_P g → ∀ (a_used : Nat → Int32), us_I g a0 p a_used → wX_markUsed_46 post (wX_markUsed_39 post n39) (nI r) (d + 1) (nI p) (nI (gr_P g)) (nI (gr_L g)) f_chartReady f_countsReady f_distancesReady f_followsReady f_filled a_lefts a_rights a_ops a_constants a_text a_heights a_chosen a_firstEnds a_secondEnds a_order a_counts a_distances a_follows a_sizes a_values a_operands a_productive a_used := by
    intro n39 r a0 hJ d
    induction d with
    | zero =>
      intro p hp a_used I
      have e : p = gr_P g := by omega
      subst e
      exact br_t (nI_le (Nat.le_refl _) (by omega)) (nm_r (nI_1 r) (hJ _ I))
    | succ d ih =>
      intro p hp a_used I
      have hp' : p < gr_P g := by omega
      have hF := W.2.2.1 p hp'
      refine br_f (nI_ge (by omega) (by omega)) ⟨vp_in_nI (by omega) (by decide), ?_⟩
      rw [xm_Fp W mF hp', xb_10]
      refine ⟨vp_in_nI hF (by decide), ?_⟩
      rw [nI_clamp (show gr_F g p < 2 ^ 31 by omega)]
      refine br_c (fun z => nm_r (nI_1 p) (ih (p + 1) (by omega) _ (us_no W hp' I (Or.inl z)))) (fun z => ?_)
      refine xs_isProd (g := g) W hp' mR (fun ap => br_f (by decide) ?_) (fun ap => br_t rfl (nm_r (nI_1 p) (ih (p + 1) (by omega) _ (us_no W hp' I (Or.inr (fun q => ap ((xm_Pr_ap W hp' Pr).mpr q)))))))
      exact xs_useRs (g := g) W hp' mR (I.2.1 _ hF z) ((xm_Pr_ap W hp' Pr).mp ap) ⟨I.1, I.2.1, fun _ _ z => z, fun m' hm' => by omega⟩ (fun a r => nm_r (nI_1 p) (ih (p + 1) (by omega) _ (us_in W I r)))
  have K39 : ∀ d r, r + d = 5 → ∀ (a_used : Nat → Int32), us_O g r a_used → wX_markUsed_39 post (d + 1) (nI r) (nI (gr_P g)) (nI (gr_L g)) f_chartReady f_countsReady f_distancesReady f_followsReady f_filled a_lefts a_rights a_ops a_constants a_text a_heights a_chosen a_firstEnds a_secondEnds a_order a_counts a_distances a_follows a_sizes a_values a_operands a_productive a_used := by
    intro d
    induction d with
    | zero =>
      intro r hr a_used I
      have e : r = 5 := by omega
      subst e
      exact br_t (nI_le (a := 5) (b := 5) (by decide) (by decide)) (hpost _ (us_end I))
    | succ d ih =>
      intro r hr a_used I
      refine br_f (nI_ge (b := 5) (by omega) (by decide)) ⟨gr_P g + 1, ?_⟩
      exact K46 (d + 1) r a_used (fun a I' => ih (r + 1) (by omega) a (us_step W I I')) (gr_P g) 0 (by omega) a_used ⟨I.1, I.2.1, fun _ _ z => z, fun p' m hp' => by omega⟩
  have K2 : ∀ d x, x + d = 5 → ∀ (a_used : Nat → Int32), (∀ y, y < x → (a_used y = 0 ∧ ¬ (y = 0 ∧ pf_PR g 0)) ∨ (a_used y = 1 ∧ y = 0 ∧ pf_PR g 0)) → wX_markUsed_2 post (nI (gr_P g)) (nI (gr_L g)) f_chartReady f_countsReady f_distancesReady f_followsReady f_filled (d + 1) (nI x) a_lefts a_rights a_ops a_constants a_text a_heights a_chosen a_firstEnds a_secondEnds a_order a_counts a_distances a_follows a_sizes a_values a_operands a_productive a_used := by
    intro d
    induction d with
    | zero =>
      intro x hx a_used hz
      have e : x = 5 := by omega
      subst e
      refine br_t (nI_le (a := 5) (b := 5) (by decide) (by decide)) ⟨5 + 1, K39 5 0 rfl _ ⟨fun n hn => ?_, fun n hn z => ?_, fun pr => ?_, Or.inl (Nat.zero_le _)⟩⟩
      · obtain h | h := hz n hn
        · exact Or.inl h.1
        · exact Or.inr h.1
      · obtain h | h := hz n hn
        · exact absurd h.1 z
        · rw [h.2.1]; exact (pf_US_cl g).1 h.2.2
      · obtain h | h := hz 0 (by decide)
        · exact absurd ⟨rfl, pr⟩ h.2
        · rw [h.1]; decide
    | succ d ih =>
      intro x hx a_used hz
      have hin : vp_in (nI x) 5 := vp_in_nI (by omega) (by decide)
      have ec : (nI x).toNatClampNeg = x := nI_clamp (by omega)
      have E0 : ¬ (x = 0 ∧ pf_PR g 0) → ∀ y, y < x + 1 → (upd a_used x 0 y = 0 ∧ ¬ (y = 0 ∧ pf_PR g 0)) ∨ (upd a_used x 0 y = 1 ∧ y = 0 ∧ pf_PR g 0) := by
        intro h y hy
        by_cases c : y = x
        · rw [c, pk_us]; exact Or.inl ⟨rfl, h⟩
        · rw [pk_un c]; exact hz y (by omega)
      have E1 : (x = 0 ∧ pf_PR g 0) → ∀ y, y < x + 1 → (upd a_used x 1 y = 0 ∧ ¬ (y = 0 ∧ pf_PR g 0)) ∨ (upd a_used x 1 y = 1 ∧ y = 0 ∧ pf_PR g 0) := by
        intro h y hy
        by_cases c : y = x
        · rw [c, pk_us]; exact Or.inr ⟨rfl, h⟩
        · rw [pk_un c]; exact hz y (by omega)
      refine br_f (nI_ge (b := 5) (by omega) (by decide)) (pk_eq x 0 (fun e => ⟨hin, ?_⟩) (fun e => ⟨hin, nm_r (e' := upd a_used x 0) (by rw [ec]; rfl) (nm_r (nI_1 x) (ih (x + 1) (by omega) _ (E0 (fun q => e q.1))))⟩))
      rw [ec]
      refine br_c (fun z => ⟨hin, nm_r (e' := upd a_used x 0) rfl (nm_r (nI_1 x) (ih (x + 1) (by omega) _ (E0 (fun q => ?_))))⟩) (fun z => ⟨hin, nm_r (e' := upd a_used x 1) rfl (nm_r (nI_1 x) (ih (x + 1) (by omega) _ (E1 ⟨e, ?_⟩)))⟩)
      · rw [q.1] at z
        obtain ⟨e1, _⟩ | ⟨_, e1⟩ := Pr 0 (by decide)
        · rw [e1] at z; exact absurd z (by decide)
        · exact e1 q.2
      · rw [e] at z
        obtain ⟨_, e1⟩ | ⟨e1, _⟩ := Pr 0 (by decide)
        · exact e1
        · exact absurd e1 z
  exact ⟨5 + 1, K2 5 0 rfl _ (fun y hy => absurd hy (by omega))⟩
end
end
section
/-! the component: what follows -/
theorem fb_or' : ∀ a : Fin 64, ∀ b : Fin 64, nI a.val ||| nI b.val = nI (a.val ||| b.val) ∧ a.val ||| b.val < 64 := by decide +kernel
theorem fb_or {a b : Nat} (ha : a < 64) (hb : b < 64) : nI a ||| nI b = nI (a ||| b) ∧ a ||| b < 64 := fb_or' ⟨a, ha⟩ ⟨b, hb⟩
theorem fb_sh' : ∀ s : Fin 6, (1 : Int32) <<< (nI s.val &&& 31) = nI (2 ^ s.val) ∧ 2 ^ s.val < 64 := by decide +kernel
theorem fb_sh {s : Nat} (hs : s < 6) : (1 : Int32) <<< (nI s &&& 31) = nI (2 ^ s) ∧ 2 ^ s < 64 := fb_sh' ⟨s, hs⟩
def fb_S (f : pu_C) (k t : Nat) : pf_S := fun n i => (f n i k).testBit t = true
theorem fb_ext {a b : Nat} (ha : a < 64) (hb : b < 64) (h : ∀ t, t < 6 → a.testBit t = b.testBit t) : a = b := by
  apply Nat.eq_of_testBit_eq
  intro t
  by_cases c : t < 6
  · exact h t c
  · have p : 2 ^ 6 ≤ 2 ^ t := Nat.pow_le_pow_right (by decide) (by omega)
    rw [Nat.testBit_lt_two_pow (Nat.lt_of_lt_of_le ha p), Nat.testBit_lt_two_pow (Nat.lt_of_lt_of_le hb p)]
theorem pf_606 {g : gr_G} {s i j : Nat} (S : pu_HS g (pu_HH g)) (ok : pu_ok s) (hij : i ≤ j) (hj : j ≤ gr_L g) : pu_ps g (pu_HH g) s i j 606 ↔ pf_ps g s i j :=
  ⟨fun h => pu_ps_mono (by decide) h, fun h => pu_ps_cut (m := 605) (fun n i j hv => (S n i j hv).2.2) ok hij hj h⟩
section
variable {g : gr_G} {f_chartReady f_countsReady f_distancesReady f_followsReady f_filled : Int32} {a_lefts a_rights a_ops a_constants a_text a_heights a_chosen a_firstEnds a_secondEnds a_order a_counts a_distances a_follows a_sizes : Nat → Int32} {a_values a_operands : Nat → Int64} {a_productive a_used : Nat → Int32}
theorem xs_fop {post : Int32 → Prop} {f : pu_C} {s i k : Nat} {s' i' k' : Int32} (es : s' = sy_m s) (ei : i' = nI i) (ek : k' = nI k) (ok : pu_ok s) (hik : i ≤ k) (hk : k ≤ gr_L g) (W : gr_W g) (mf : xm_D g a_follows f) (hb : ∀ n i j, pu_V g n i j → f n i j < 64)
    (h : ∀ m, m < 64 → (∀ t, t < 6 → (m.testBit t = true ↔ pf_fp k t (fb_S f k t) s i)) → post (nI m)) : wpX_followsOfPart post (nI (gr_P g), nI (gr_L g), f_chartReady, f_countsReady, f_distancesReady, f_followsReady, f_filled, a_lefts, a_rights, a_ops, a_constants, a_text, a_heights, a_chosen, a_firstEnds, a_secondEnds, a_order, a_counts, a_distances, a_follows, a_sizes, a_values, a_operands, a_productive, a_used) s' i' k' := by
  subst es ei ek
  have hL := W.2.1
  have z0 : ∀ t, t < 6 → ((0 : Nat).testBit t = true ↔ False) := fun t _ => by rw [Nat.zero_testBit]; exact ⟨fun q => absurd q (by decide), fun q => q.elim⟩
  refine ek_if (sy_lt ok) (fun c => ek_if (sy_e1 ok) (fun e => ?_) (fun e => ?_)) (fun c => ?_)
  · refine h 0 (by decide) (fun t ht => (z0 t ht).trans ⟨fun q => q.elim, fun q => ?_⟩)
    obtain q | q := q
    · omega
    · unfold pu_nt at q; omega
  · have s6 : s < 6 := by unfold pu_ok at ok; omega
    refine pk_eq i k (fun e2 => ?_) (fun e2 => ?_)
    · have := h (2 ^ s) (fb_sh s6).2 (fun t ht => by
        rw [Nat.testBit_two_pow]
        constructor
        · intro q; exact Or.inl ⟨by omega, of_decide_eq_true q, e2⟩
        · intro q
          obtain q | q := q
          · exact decide_eq_true q.2.1
          · unfold pu_nt at q; omega)
      rw [sy_n (by omega), (fb_sh s6).1]; exact this
    · refine h 0 (by decide) (fun t ht => (z0 t ht).trans ⟨fun q => q.elim, fun q => ?_⟩)
      obtain q | q := q
      · omega
      · unfold pu_nt at q; omega
  · have nt : pu_nt s := by unfold pu_nt; unfold pu_ok at ok; omega
    have hv := xb_ntV ok nt hik hk
    have hl := cx_lt W hv
    refine xb_cell (s - 10) i k (sy_nt nt) rfl rfl ⟨vp_in_nI hl (by decide), ?_⟩
    rw [nI_clamp (by omega), mf _ _ _ hv]
    refine h _ (hb _ _ _ hv) (fun t ht => ⟨fun q => Or.inr ⟨nt, q⟩, fun q => ?_⟩)
    obtain q | q := q
    · unfold pu_nt at nt; omega
    · exact q.2
/-- what has been gathered: the first parts that end before a -/
def fd_A (g : gr_G) (k t : Nat) (S : pf_S) (p i a : Nat) : Prop := pf_fp k t S (gr_R g (3 * p)) i ∨ (∃ u, i ≤ u ∧ u < a ∧ pf_ps g (gr_R g (3 * p)) i u ∧ pf_fp k t S (gr_R g (3 * p + 1)) u) ∨ (∃ u v, i ≤ u ∧ u < a ∧ u ≤ v ∧ v ≤ k ∧ pf_ps g (gr_R g (3 * p)) i u ∧ pf_ps g (gr_R g (3 * p + 1)) u v ∧ pf_fp k t S (gr_R g (3 * p + 2)) v)
def fd_B (g : gr_G) (k t : Nat) (S : pf_S) (p i a b : Nat) : Prop := fd_A g k t S p i a ∨ pf_fp k t S (gr_R g (3 * p + 1)) a ∨ (∃ v, a ≤ v ∧ v < b ∧ pf_ps g (gr_R g (3 * p + 1)) a v ∧ pf_fp k t S (gr_R g (3 * p + 2)) v)
theorem fd_AB {g : gr_G} {k t : Nat} {S : pf_S} {p i a : Nat} (hia : i ≤ a) (hak : a ≤ k) (f0 : pf_ps g (gr_R g (3 * p)) i a) : fd_B g k t S p i a (k + 1) ↔ fd_A g k t S p i (a + 1) := by
  constructor
  · intro h
    obtain (h | ⟨u, h1, h2, h3⟩ | ⟨u, v, h1, h2, h3⟩) | h | ⟨v, h1, h2, h3, h4⟩ := h
    · exact Or.inl h
    · exact Or.inr (Or.inl ⟨u, h1, by omega, h3⟩)
    · exact Or.inr (Or.inr ⟨u, v, h1, by omega, h3⟩)
    · exact Or.inr (Or.inl ⟨a, hia, by omega, f0, h⟩)
    · exact Or.inr (Or.inr ⟨a, v, hia, by omega, h1, by omega, f0, h3, h4⟩)
  · intro h
    obtain h | ⟨u, h1, h2, h3, h4⟩ | ⟨u, v, h1, h2, h3, h4, h5, h6, h7⟩ := h
    · exact Or.inl (Or.inl h)
    · by_cases c : u = a
      · rw [c] at h4; exact Or.inr (Or.inl h4)
      · exact Or.inl (Or.inr (Or.inl ⟨u, h1, by omega, h3, h4⟩))
    · by_cases c : u = a
      · rw [c] at h3 h6; exact Or.inr (Or.inr ⟨v, h3, by omega, h6, h7⟩)
      · exact Or.inl (Or.inr (Or.inr ⟨u, v, h1, by omega, h3, h4, h5, h6, h7⟩))
theorem fd_AA {g : gr_G} {k t : Nat} {S : pf_S} {p i a : Nat} (f0 : ¬ pf_ps g (gr_R g (3 * p)) i a) : fd_A g k t S p i a ↔ fd_A g k t S p i (a + 1) := by
  constructor
  · intro h
    obtain h | ⟨u, h1, h2, h3⟩ | ⟨u, v, h1, h2, h3⟩ := h
    · exact Or.inl h
    · exact Or.inr (Or.inl ⟨u, h1, by omega, h3⟩)
    · exact Or.inr (Or.inr ⟨u, v, h1, by omega, h3⟩)
  · intro h
    obtain h | ⟨u, h1, h2, h3, h4⟩ | ⟨u, v, h1, h2, h3, h4, h5, h6, h7⟩ := h
    · exact Or.inl h
    · by_cases c : u = a
      · rw [c] at h3; exact absurd h3 f0
      · exact Or.inr (Or.inl ⟨u, h1, by omega, h3, h4⟩)
    · by_cases c : u = a
      · rw [c] at h5; exact absurd h5 f0
      · exact Or.inr (Or.inr ⟨u, v, h1, by omega, h3, h4, h5, h6, h7⟩)
theorem fd_Aco {g : gr_G} {k t : Nat} {S : pf_S} {p i : Nat} : fd_A g k t S p i (k + 1) ↔ pf_co g k t S p i := by
  constructor
  · intro h
    obtain h | ⟨u, h1, h2, h3⟩ | ⟨u, v, h1, h2, h3, h4, h5⟩ := h
    · exact Or.inl h
    · exact Or.inr (Or.inl ⟨u, h1, by omega, h3⟩)
    · exact Or.inr (Or.inr ⟨u, v, h1, h3, h4, h5⟩)
  · intro h
    obtain h | ⟨u, h1, h2, h3⟩ | ⟨u, v, h1, h3, h4, h5⟩ := h
    · exact Or.inl h
    · exact Or.inr (Or.inl ⟨u, h1, by omega, h3⟩)
    · exact Or.inr (Or.inr ⟨u, v, h1, by omega, h3, h4, h5⟩)
theorem fb_join {a b : Nat} {P Q R : Nat → Prop} (ha : ∀ t, t < 6 → (a.testBit t = true ↔ P t)) (hb : ∀ t, t < 6 → (b.testBit t = true ↔ Q t)) (h : ∀ t, (P t ∨ Q t) ↔ R t) : ∀ t, t < 6 → ((a ||| b).testBit t = true ↔ R t) := by
  intro t ht
  rw [Nat.testBit_or, Bool.or_eq_true, ha t ht, hb t ht]; exact h t
theorem xs_fd75 {post : Int32 → Prop} {J19 : Int32 → Int32 → Prop} {f : pu_C} {p i k a : Nat} (W : gr_W g) (hp : p < gr_P g) (hia : i ≤ a) (hak : a ≤ k) (hk : k ≤ gr_L g) (tx : xm_T g a_text) (mR : xm_R g a_rights) (S : pu_HS g (pu_HH g)) (mH : xm_H g a_heights (pu_HH g)) (mf : xm_D g a_follows f) (hb : ∀ n i j, pu_V g n i j → f n i j < 64)
    (hJ : ∀ m, m < 64 → (∀ t, t < 6 → (m.testBit t = true ↔ fd_B g k t (fb_S f k t) p i a (k + 1))) → J19 (nI m) (nI (a + 1))) :
    ∀ d b m, b + d = k + 1 → a ≤ b → m < 64 → (∀ t, t < 6 → (m.testBit t = true ↔ fd_B g k t (fb_S f k t) p i a b)) → wX_followsOfDivisions_75 post J19 (nI p) (nI i) (nI k) (nI a) (nI (gr_P g)) (nI (gr_L g)) f_chartReady f_countsReady f_distancesReady f_followsReady f_filled a_lefts a_rights a_ops a_constants a_text a_heights a_chosen a_firstEnds a_secondEnds a_order a_counts a_distances a_follows a_sizes a_values a_operands a_productive a_used (d + 1) (nI m) (nI b) := by
  have hL := W.2.1
  have hP := W.1
  intro d
  induction d with
  | zero =>
    intro b m hbd hab hm I
    have e : b = k + 1 := by omega
    subst e
    exact br_t (nI_lt (by omega) (by omega)) (nm_r (nI_1 a) (hJ m hm I))
  | succ d ih =>
    intro b m hbd hab hm I
    refine br_f (nI_nlt (by omega) (by omega)) ⟨xb_i1 (by omega), ?_⟩
    refine xs_fits (g := g) (H := pu_HH g) (h := 606) (xm_R1 W mR hp) rfl rfl rfl (pu_okR W hp (by decide)) hab (by omega) W (by decide) tx mH (fun n i j hv => by have := (S n i j hv).2.2; omega) (fun f1 => br_f (by decide) ⟨xb_i2 (by omega), ?_⟩) (fun f1 => br_t rfl (nm_r (nI_1 b) (ih (b + 1) m (by omega) (by omega) hm (fun t ht => (I t ht).trans ?_))))
    · rw [pf_606 S (pu_okR W hp (by decide)) hab (by omega)] at f1
      refine xs_fop (g := g) (f := f) (xm_R2 W mR hp) rfl rfl (pu_okR W hp (by decide)) (by omega) hk W mf hb (fun m2 hm2 h2 => nm_r (fb_or hm hm2).1 (nm_r (nI_1 b) (ih (b + 1) _ (by omega) (by omega) (fb_or hm hm2).2 (fb_join I h2 (fun t => ⟨fun h => ?_, fun h => ?_⟩)))))
      · obtain (h | h | ⟨v, h1, h2, h3⟩) | h := h
        · exact Or.inl h
        · exact Or.inr (Or.inl h)
        · exact Or.inr (Or.inr ⟨v, h1, by omega, h3⟩)
        · exact Or.inr (Or.inr ⟨b, hab, by omega, f1, h⟩)
      · obtain h | h | ⟨v, h1, h2, h3, h4⟩ := h
        · exact Or.inl (Or.inl h)
        · exact Or.inl (Or.inr (Or.inl h))
        · by_cases c : v = b
          · rw [c] at h4; exact Or.inr h4
          · exact Or.inl (Or.inr (Or.inr ⟨v, h1, by omega, h3, h4⟩))
    · rw [pf_606 S (pu_okR W hp (by decide)) hab (by omega)] at f1
      constructor
      · intro h
        obtain h | h | ⟨v, h1, h2, h3⟩ := h
        · exact Or.inl h
        · exact Or.inr (Or.inl h)
        · exact Or.inr (Or.inr ⟨v, h1, by omega, h3⟩)
      · intro h
        obtain h | h | ⟨v, h1, h2, h3, h4⟩ := h
        · exact Or.inl h
        · exact Or.inr (Or.inl h)
        · by_cases c : v = b
          · rw [c] at h3; exact absurd h3 f1
          · exact Or.inr (Or.inr ⟨v, h1, by omega, h3, h4⟩)
theorem xs_fod {post : Int32 → Prop} {f : pu_C} {p i k : Nat} (W : gr_W g) (hp : p < gr_P g) (hik : i ≤ k) (hk : k ≤ gr_L g) (tx : xm_T g a_text) (mR : xm_R g a_rights) (S : pu_HS g (pu_HH g)) (mH : xm_H g a_heights (pu_HH g)) (mf : xm_D g a_follows f) (hb : ∀ n i j, pu_V g n i j → f n i j < 64)
    (h : ∀ m, m < 64 → (∀ t, t < 6 → (m.testBit t = true ↔ pf_co g k t (fb_S f k t) p i)) → post (nI m)) : wpX_followsOfDivisions post (nI (gr_P g), nI (gr_L g), f_chartReady, f_countsReady, f_distancesReady, f_followsReady, f_filled, a_lefts, a_rights, a_ops, a_constants, a_text, a_heights, a_chosen, a_firstEnds, a_secondEnds, a_order, a_counts, a_distances, a_follows, a_sizes, a_values, a_operands, a_productive, a_used) (nI p) (nI i) (nI k) := by
  have hL := W.2.1
  have hP := W.1
  have K19 : ∀ d a m, a + d = k + 1 → i ≤ a → m < 64 → (∀ t, t < 6 → (m.testBit t = true ↔ fd_A g k t (fb_S f k t) p i a)) → wX_followsOfDivisions_19 post (nI p) (nI i) (nI k) (nI (gr_P g)) (nI (gr_L g)) f_chartReady f_countsReady f_distancesReady f_followsReady f_filled a_lefts a_rights a_ops a_constants a_text a_heights a_chosen a_firstEnds a_secondEnds a_order a_counts a_distances a_follows a_sizes a_values a_operands a_productive a_used (d + 1) (nI m) (nI a) := by
    intro d
    induction d with
    | zero =>
      intro a m ha hia hm I
      have e : a = k + 1 := by omega
      subst e
      exact br_t (nI_lt (by omega) (by omega)) (h m hm (fun t ht => (I t ht).trans fd_Aco))
    | succ d ih =>
      intro a m ha hia hm I
      refine br_f (nI_nlt (by omega) (by omega)) ⟨xb_i0 (by omega), ?_⟩
      refine xs_fits (g := g) (H := pu_HH g) (h := 606) (xm_R0 W mR hp) rfl rfl rfl (pu_okR0 W hp) hia (by omega) W (by decide) tx mH (fun n i j hv => by have := (S n i j hv).2.2; omega) (fun f0 => br_f (by decide) ⟨xb_i1 (by omega), ?_⟩) (fun f0 => br_t rfl (nm_r (nI_1 a) (ih (a + 1) m (by omega) (by omega) hm (fun t ht => (I t ht).trans (fd_AA (fun z => f0 ((pf_606 S (pu_okR0 W hp) hia (by omega)).mpr z)))))))
      rw [pf_606 S (pu_okR0 W hp) hia (by omega)] at f0
      refine xs_fop (g := g) (f := f) (xm_R1 W mR hp) rfl rfl (pu_okR W hp (by decide)) (by omega) hk W mf hb (fun m2 hm2 h2 => nm_r (fb_or hm hm2).1 ⟨k + 1 - a + 1, ?_⟩)
      refine xs_fd75 (g := g) (f := f) W hp hia (by omega) hk tx mR S mH mf hb (fun m3 hm3 h3 => ih (a + 1) m3 (by omega) (by omega) hm3 (fun t ht => (h3 t ht).trans (fd_AB hia (by omega) f0))) (k + 1 - a) a _ (by omega) (Nat.le_refl _) (fb_or hm hm2).2 (fb_join I h2 (fun t => ⟨fun h => ?_, fun h => ?_⟩))
      · obtain h | h := h
        · exact Or.inl h
        · exact Or.inr (Or.inl h)
      · obtain h | h | ⟨v, h1, h2, _⟩ := h
        · exact Or.inl h
        · exact Or.inr h
        · omega
  refine ⟨xb_i0 (by omega), ?_⟩
  refine xs_fop (g := g) (f := f) (xm_R0 W mR hp) rfl rfl (pu_okR0 W hp) hik hk W mf hb (fun m hm h0 => ⟨k + 1 - i + 1, K19 (k + 1 - i) i m (by omega) (Nat.le_refl _) hm (fun t ht => (h0 t ht).trans ⟨fun q => Or.inl q, fun q => ?_⟩)⟩)
  obtain q | ⟨u, h1, h2, _⟩ | ⟨u, v, h1, h2, _⟩ := q
  · exact q
  · omega
  · omega
end
end
section
/-! the component: what follows, the rounds -/
def fb_mu (f : pu_C) : Nat := pu_cnt (fun x => ! (f (x / 6 / 121) (x / 6 / 11 % 11) (x / 6 % 11)).testBit (x % 6)) 3630
theorem fb_mu_lt {g : gr_G} {f : pu_C} {n i k m : Nat} (W : gr_W g) (hv : pu_V g n i k) (h : ∀ t, t < 6 → (f n i k).testBit t = true → m.testBit t = true) (hf : f n i k < 64) (hm : m < 64) (ne : m ≠ f n i k) : fb_mu (up3 f n i k m) < fb_mu f := by
  have hl := cx_lt W hv
  obtain ⟨c1, c2, c3⟩ := pd_cell W hv
  have ex : ∃ t, t < 6 ∧ m.testBit t = true ∧ (f n i k).testBit t = false := by
    apply Classical.byContradiction
    intro z
    apply ne
    refine fb_ext hm hf (fun t ht => ?_)
    cases e : (f n i k).testBit t with
    | true => exact h t ht e
    | false =>
      cases e2 : m.testBit t with
      | true => exact absurd ⟨t, ht, e2, e⟩ z
      | false => rfl
  obtain ⟨t, ht, e1, e2⟩ := ex
  have d6 : (6 * cx n i k + t) / 6 = cx n i k := by omega
  have r6 : (6 * cx n i k + t) % 6 = t := by omega
  refine pu_cnt_lt (x0 := 6 * cx n i k + t) ?_ ?_ (fun x hx q => ?_) (by omega)
  · rw [d6, r6, c1, c2, c3, up3_s, e1]; rfl
  · rw [d6, r6, c1, c2, c3, e2]; rfl
  · by_cases z : x / 6 / 121 = n ∧ x / 6 / 11 % 11 = i ∧ x / 6 % 11 = k
    · rw [z.1, z.2.1, z.2.2, up3_s] at q
      rw [z.1, z.2.1, z.2.2]
      cases e : (f n i k).testBit (x % 6) with
      | false => rfl
      | true => rw [h _ (by omega) e] at q; exact absurd q (by decide)
    · rw [up3_n z] at q; exact q
def xf_P (g : gr_G) (m0 : Nat) (dn : Nat → Nat → Nat → Prop) (x1 : Int32) (a : Nat → Int32) : Prop := ∃ f, xm_D g a f ∧ (∀ n i k, pu_V g n i k → f n i k < 64 ∧ ∀ t, t < 6 → (f n i k).testBit t = true → pf_FO g k t n i) ∧ ((x1 = 0 ∧ fb_mu f ≤ m0 ∧ ∀ p i k, p < gr_P g → i ≤ k → k ≤ gr_L g → dn p i k → pf_ap g (pf_PR g) p → ∀ t, t < 6 → pf_co g k t (fb_S f k t) p i → (f (gr_F g p) i k).testBit t = true) ∨ (x1 = 1 ∧ fb_mu f < m0))
theorem xf_P_dn {g : gr_G} {m0 : Nat} {dn dn' : Nat → Nat → Nat → Prop} {x1 : Int32} {a : Nat → Int32} (h : xf_P g m0 dn x1 a) (l : ∀ p i j, p < gr_P g → i ≤ j → j ≤ gr_L g → dn' p i j → pf_ap g (pf_PR g) p → dn p i j) : xf_P g m0 dn' x1 a := by
  obtain ⟨f, h1, h2, ⟨e, mu, h3⟩ | h3⟩ := h
  · exact ⟨f, h1, h2, Or.inl ⟨e, mu, fun p i k a b c d ap => h3 p i k a b c (l p i k a b c d ap) ap⟩⟩
  · exact ⟨f, h1, h2, Or.inr h3⟩
theorem fb_fp_co {g : gr_G} {f : pu_C} {k t p i : Nat} (W : gr_W g) (hp : p < gr_P g) (hik : i ≤ k) (hk : k ≤ gr_L g) (ht : t < 6) (s : ∀ n i k, pu_V g n i k → f n i k < 64 ∧ ∀ t, t < 6 → (f n i k).testBit t = true → pf_FO g k t n i) (c : pf_co g k t (fb_S f k t) p i) : pf_co g k t (pf_FO g k t) p i := by
  have Q : ∀ {s x : Nat}, pu_ok s → x ≤ k → pf_fp k t (fb_S f k t) s x → pf_fp k t (pf_FO g k t) s x := by
    intro s' x ok hx q
    obtain q | ⟨nt, q⟩ := q
    · exact Or.inl q
    · exact Or.inr ⟨nt, (s _ _ _ (xb_ntV ok nt hx hk)).2 t ht q⟩
  obtain c | ⟨u, h1, h2, h3, c⟩ | ⟨u, v, h1, h2, h3, h4, h5, c⟩ := c
  · exact Or.inl (Q (pu_okR0 W hp) hik c)
  · exact Or.inr (Or.inl ⟨u, h1, h2, h3, Q (pu_okR W hp (by decide)) h2 c⟩)
  · exact Or.inr (Or.inr ⟨u, v, h1, h2, h3, h4, h5, Q (pu_okR W hp (by decide)) h3 c⟩)
section
variable {g : gr_G} {f_chartReady f_countsReady f_distancesReady f_followsReady f_filled : Int32} {a_lefts a_rights a_ops a_constants a_text a_heights a_chosen a_firstEnds a_secondEnds a_order a_counts a_distances a_follows a_sizes : Nat → Int32} {a_values a_operands : Nat → Int64} {a_productive a_used : Nat → Int32}
theorem xs_fm36 {post : Int32 → SX → Prop} {J4 J25 : Int32 → Int32 → (Nat → Int32) → (Nat → Int32) → (Nat → Int32) → (Nat → Int32) → (Nat → Int32) → (Nat → Int32) → (Nat → Int32) → (Nat → Int32) → (Nat → Int32) → (Nat → Int32) → (Nat → Int32) → (Nat → Int32) → (Nat → Int32) → (Nat → Int32) → (Nat → Int64) → (Nat → Int64) → (Nat → Int32) → (Nat → Int32) → Prop} {m0 p i : Nat} (W : gr_W g) (hp : p < gr_P g) (ap : pf_ap g (pf_PR g) p) (tx : xm_T g a_text) (mR : xm_R g a_rights) (mF : xm_F g a_lefts) (S : pu_HS g (pu_HH g)) (mH : xm_H g a_heights (pu_HH g))
    (hJ : ∀ (x1 : Int32) (a_follows : Nat → Int32), xf_P g m0 (xm_dn p (i + 1) (i + 1)) x1 a_follows → J25 x1 (nI (i + 1)) a_lefts a_rights a_ops a_constants a_text a_heights a_chosen a_firstEnds a_secondEnds a_order a_counts a_distances a_follows a_sizes a_values a_operands a_productive a_used) :
    ∀ d k, k + d = gr_L g + 1 → i ≤ k → ∀ (x1 : Int32) (a_follows : Nat → Int32), xf_P g m0 (xm_dn p i k) x1 a_follows → wX_followMore_36 post J4 J25 (nI p) (nI i) (nI (gr_P g)) (nI (gr_L g)) f_chartReady f_countsReady f_distancesReady f_followsReady f_filled (d + 1) x1 (nI k) a_lefts a_rights a_ops a_constants a_text a_heights a_chosen a_firstEnds a_secondEnds a_order a_counts a_distances a_follows a_sizes a_values a_operands a_productive a_used := by
  have hL := W.2.1
  have hP := W.1
  intro d
  induction d with
  | zero =>
    intro k hk hik x1 a_follows I
    refine br_t (nI_lt (by omega) (by omega)) (nm_r (nI_1 i) (hJ x1 _ (xf_P_dn I (fun p' i' j' _ h1 h2 h3 _ => ?_))))
    unfold xm_dn at *; omega
  | succ d ih =>
    intro k hk hik x1 a_follows I
    have hv : pu_V g (gr_F g p) i k := ⟨W.2.2.1 p hp, hik, by omega⟩
    have hl := cx_lt W hv
    have hin : vp_in (nI (cx (gr_F g p) i k)) 605 := vp_in_nI hl (by decide)
    have ec : (nI (cx (gr_F g p) i k)).toNatClampNeg = cx (gr_F g p) i k := nI_clamp (by omega)
    obtain ⟨f, mf, sd, fl⟩ := I
    have f64 := (sd _ _ _ hv).1
    refine br_f (nI_nlt (by omega) (by omega)) ⟨vp_in_nI (by omega) (by decide), xb_cell (gr_F g p) i k (xm_Fp W mF hp) rfl rfl ⟨hin, ?_⟩⟩
    refine xs_fod (g := g) (f := f) W hp hik (by omega) tx mR S mH mf (fun n i j h => (sd n i j h).1) (fun m hm hco => nm_r (e' := nI (f (gr_F g p) i k ||| m)) (by rw [ec, mf _ _ _ hv]; exact (fb_or f64 hm).1) ?_)
    have m64 := (fb_or f64 hm).2
    have ef : a_follows (nI (cx (gr_F g p) i k)).toNatClampNeg = nI (f (gr_F g p) i k) := by rw [ec, mf _ _ _ hv]
    by_cases same : f (gr_F g p) i k ||| m = f (gr_F g p) i k
    · -- nothing new
      have up : upd a_follows (cx (gr_F g p) i k) (nI (f (gr_F g p) i k ||| m)) = a_follows := xb_up (by rw [same]; exact mf _ _ _ hv)
      have st : xf_P g m0 (xm_dn p i (k + 1)) x1 a_follows := by
        refine ⟨f, mf, sd, ?_⟩
        obtain ⟨e, mu, h3⟩ | h3 := fl
        · refine Or.inl ⟨e, mu, fun p' i' k' q1 q2 q3 q4 ap' t ht co => ?_⟩
          by_cases z : p' = p ∧ i' = i ∧ k' = k
          · obtain ⟨rfl, rfl, rfl⟩ := z
            have b : (f (gr_F g p') i' k' ||| m).testBit t = true := by rw [Nat.testBit_or, (hco t ht).mpr co, Bool.or_true]
            rw [same] at b; exact b
          · exact h3 p' i' k' q1 q2 q3 (by unfold xm_dn at *; omega) ap' t ht co
        · exact Or.inr h3
      have go : ∀ z : Int32, z = x1 → wX_followMore_98 post J4 J25 (wX_followMore_36 post J4 J25 (nI p) (nI i) (nI (gr_P g)) (nI (gr_L g)) f_chartReady f_countsReady f_distancesReady f_followsReady f_filled (d + 1)) (nI p) (nI i) (nI k) (nI (cx (gr_F g p) i k)) (nI (f (gr_F g p) i k ||| m)) z (nI (gr_P g)) (nI (gr_L g)) f_chartReady f_countsReady f_distancesReady f_followsReady f_filled a_lefts a_rights a_ops a_constants a_text a_heights a_chosen a_firstEnds a_secondEnds a_order a_counts a_distances a_follows a_sizes a_values a_operands a_productive a_used := by
        intro z ez
        subst ez
        exact ⟨hin, nm_r (e' := a_follows) (by rw [ec]; exact up) (nm_r (nI_1 k) (ih (k + 1) (by omega) (by omega) z _ st))⟩
      obtain ⟨e, _⟩ | ⟨e, _⟩ := fl
      · exact br_t e ⟨hin, br_t (by rw [ef, same]) (go 0 e.symm)⟩
      · exact br_f (by rw [e]; decide) (go 1 e.symm)
    · have st : xf_P g m0 (xm_dn p i (k + 1)) 1 (upd a_follows (cx (gr_F g p) i k) (nI (f (gr_F g p) i k ||| m))) := by
        have mlt := fb_mu_lt W hv (m := f (gr_F g p) i k ||| m) (fun t _ h => by rw [Nat.testBit_or, h, Bool.true_or]) f64 m64 same
        refine ⟨up3 f (gr_F g p) i k (f (gr_F g p) i k ||| m), xm_H_up W mf hv _, fun n' i' k' hv' => ?_, Or.inr ⟨rfl, by obtain ⟨_, mu, _⟩ | ⟨_, mu⟩ := fl <;> omega⟩⟩
        by_cases z : n' = gr_F g p ∧ i' = i ∧ k' = k
        · obtain ⟨rfl, rfl, rfl⟩ := z
          rw [up3_s]
          refine ⟨m64, fun t ht b => ?_⟩
          rw [Nat.testBit_or, Bool.or_eq_true] at b
          obtain b | b := b
          · exact (sd _ _ _ hv).2 t ht b
          · exact pf_FO_cl g k' t p i' hp hik ap (fb_fp_co W hp hik (by omega) ht sd ((hco t ht).mp b))
        · rw [up3_n z]; exact sd _ _ _ hv'
      have go : wX_followMore_93 post J4 J25 (wX_followMore_36 post J4 J25 (nI p) (nI i) (nI (gr_P g)) (nI (gr_L g)) f_chartReady f_countsReady f_distancesReady f_followsReady f_filled (d + 1)) (nI p) (nI i) (nI k) (nI (cx (gr_F g p) i k)) (nI (f (gr_F g p) i k ||| m)) (nI (gr_P g)) (nI (gr_L g)) f_chartReady f_countsReady f_distancesReady f_followsReady f_filled a_lefts a_rights a_ops a_constants a_text a_heights a_chosen a_firstEnds a_secondEnds a_order a_counts a_distances a_follows a_sizes a_values a_operands a_productive a_used :=
        ⟨hin, nm_r (e' := upd a_follows (cx (gr_F g p) i k) (nI (f (gr_F g p) i k ||| m))) (by rw [ec]) (nm_r (nI_1 k) (ih (k + 1) (by omega) (by omega) 1 _ st))⟩
      refine br_c (fun _ => ⟨hin, br_f (fun z => same ?_) go⟩) (fun _ => go)
      rw [ef, nI_eq (by omega) (by omega)] at z; exact z
theorem xs_followMore {post : Int32 → SX → Prop} {m0 : Nat} (W : gr_W g) (tx : xm_T g a_text) (mR : xm_R g a_rights) (mF : xm_F g a_lefts) (S : pu_HS g (pu_HH g)) (mH : xm_H g a_heights (pu_HH g)) (Pr : xm_Pr g a_productive) (I0 : xf_P g m0 (xm_dn 0 0 0) 0 a_follows)
    (hpost : ∀ (x1 : Int32) (a_follows : Nat → Int32), xf_P g m0 (xm_dn (gr_P g) 0 0) x1 a_follows → post x1 (nI (gr_P g), nI (gr_L g), f_chartReady, f_countsReady, f_distancesReady, f_followsReady, f_filled, a_lefts, a_rights, a_ops, a_constants, a_text, a_heights, a_chosen, a_firstEnds, a_secondEnds, a_order, a_counts, a_distances, a_follows, a_sizes, a_values, a_operands, a_productive, a_used)) : wpX_followMore post (nI (gr_P g), nI (gr_L g), f_chartReady, f_countsReady, f_distancesReady, f_followsReady, f_filled, a_lefts, a_rights, a_ops, a_constants, a_text, a_heights, a_chosen, a_firstEnds, a_secondEnds, a_order, a_counts, a_distances, a_follows, a_sizes, a_values, a_operands, a_productive, a_used) := by
  have hL := W.2.1
  have hP := W.1
  have K25 : ∀ (n4 p : Nat), p < gr_P g → pf_ap g (pf_PR g) p → (∀ (x1 : Int32) (a_follows : Nat → Int32), xf_P g m0 (xm_dn (p + 1) 0 0) x1 a_follows → wX_followMore_4 post (nI (gr_P g)) (nI (gr_L g)) f_chartReady f_countsReady f_distancesReady f_followsReady f_filled n4 x1 (nI (p + 1)) a_lefts a_rights a_ops a_constants a_text a_heights a_chosen a_firstEnds a_secondEnds a_order a_counts a_distances a_follows a_sizes a_values a_operands a_productive a_used) → ∀ d i, i + d = gr_L g + 1 → ∀ (x1 : Int32) (a_follows : Nat → Int32), xf_P g m0 (xm_dn p i i) x1 a_follows → wX_followMore_25 post (wX_followMore_4 post (nI (gr_P g)) (nI (gr_L g)) f_chartReady f_countsReady f_distancesReady f_followsReady f_filled n4) (nI p) (nI (gr_P g)) (nI (gr_L g)) f_chartReady f_countsReady f_distancesReady f_followsReady f_filled (d + 1) x1 (nI i) a_lefts a_rights a_ops a_constants a_text a_heights a_chosen a_firstEnds a_secondEnds a_order a_counts a_distances a_follows a_sizes a_values a_operands a_productive a_used := by
    intro n4 p hp ap hJ d
    induction d with
    | zero =>
      intro i hi x1 a_follows I
      refine br_t (nI_lt (by omega) (by omega)) (nm_r (nI_1 p) (hJ x1 _ (xf_P_dn I (fun p' i' j' _ h1 h2 h3 _ => ?_))))
      unfold xm_dn at *; omega
    | succ d ih =>
      intro i hi x1 a_follows I
      refine br_f (nI_nlt (by omega) (by omega)) ⟨d + 1 + 1, ?_⟩
      exact xs_fm36 (g := g) W hp ap tx mR mF S mH (fun x1 a l => ih (i + 1) (by omega) x1 a l) (d + 1) i (by omega) (by omega) x1 _ I
  have K4 : ∀ d p, p + d = gr_P g → ∀ (x1 : Int32) (a_follows : Nat → Int32), xf_P g m0 (xm_dn p 0 0) x1 a_follows → wX_followMore_4 post (nI (gr_P g)) (nI (gr_L g)) f_chartReady f_countsReady f_distancesReady f_followsReady f_filled (d + 1) x1 (nI p) a_lefts a_rights a_ops a_constants a_text a_heights a_chosen a_firstEnds a_secondEnds a_order a_counts a_distances a_follows a_sizes a_values a_operands a_productive a_used := by
    intro d
    induction d with
    | zero =>
      intro p hp x1 a_follows I
      have e : p = gr_P g := by omega
      subst e
      have nr : narrow .boolean (.int x1) = .int x1 := by
        obtain ⟨f, _, _, ⟨h, _⟩ | ⟨h, _⟩⟩ := I
        · rw [h]; rfl
        · rw [h]; rfl
      exact br_t (nI_le (Nat.le_refl _) (by omega)) ⟨nr, hpost x1 _ I⟩
    | succ d ih =>
      intro p hp x1 a_follows I
      have hp' : p < gr_P g := by omega
      refine br_f (nI_ge (by omega) (by omega)) (xs_isProd (g := g) W hp' mR (fun ap => br_f (by decide) ⟨gr_L g + 1 + 1, ?_⟩) (fun ap => br_t rfl (nm_r (nI_1 p) (ih (p + 1) (by omega) x1 _ (xf_P_dn I (fun p' i' j' _ h1 h2 h3 ap' => ?_))))))
      · exact K25 (d + 1) p hp' ((xm_Pr_ap W hp' Pr).mp ap) (fun x1 a l => ih (p + 1) (by omega) x1 a l) (gr_L g + 1) 0 (by omega) x1 _ I
      · by_cases c : p' = p
        · rw [c] at ap'; exact absurd ((xm_Pr_ap W hp' Pr).mpr ap') ap
        · unfold xm_dn at *; omega
  exact ⟨gr_P g + 1, K4 (gr_P g) 0 (by omega) 0 _ I0⟩
def xm_Fo (g : gr_G) (a : Nat → Int32) : Prop := ∃ f, xm_D g a f ∧ (∀ n i k, pu_V g n i k → f n i k < 64 ∧ ∀ t, t < 6 → ((f n i k).testBit t = true ↔ pf_FO g k t n i))
theorem xs_needFollows {post : SX → Prop} (W : gr_W g) (tx : xm_T g a_text) (mR : xm_R g a_rights) (mF : xm_F g a_lefts) (S : pu_HS g (pu_HH g)) (mH : xm_H g a_heights (pu_HH g)) (hr : f_followsReady ≠ 0 → xm_Fo g a_follows)
    (hpost : ∀ (f_followsReady : Int32) (a_follows a_productive : Nat → Int32), f_followsReady ≠ 0 → xm_Fo g a_follows → post (nI (gr_P g), nI (gr_L g), f_chartReady, f_countsReady, f_distancesReady, f_followsReady, f_filled, a_lefts, a_rights, a_ops, a_constants, a_text, a_heights, a_chosen, a_firstEnds, a_secondEnds, a_order, a_counts, a_distances, a_follows, a_sizes, a_values, a_operands, a_productive, a_used)) : wpX_needFollows post (nI (gr_P g), nI (gr_L g), f_chartReady, f_countsReady, f_distancesReady, f_followsReady, f_filled, a_lefts, a_rights, a_ops, a_constants, a_text, a_heights, a_chosen, a_firstEnds, a_secondEnds, a_order, a_counts, a_distances, a_follows, a_sizes, a_values, a_operands, a_productive, a_used) := by
  have K38 : ∀ (a_productive : Nat → Int32), xm_Pr g a_productive → ∀ d r, r + d = 3631 → ∀ (x1 : Int32) (a_follows : Nat → Int32), (∃ f, xm_D g a_follows f ∧ (∀ n i k, pu_V g n i k → f n i k < 64 ∧ ∀ t, t < 6 → (f n i k).testBit t = true → pf_FO g k t n i) ∧ ((x1 = 0 ∧ ∀ k t, k ≤ gr_L g → t < 6 → pf_fc g k t (fb_S f k t)) ∨ (x1 = 1 ∧ fb_mu f + r ≤ 3630))) → wX_needFollows_38 post (d + 1) x1 (nI r) (nI (gr_P g)) (nI (gr_L g)) f_chartReady f_countsReady f_distancesReady f_followsReady f_filled a_lefts a_rights a_ops a_constants a_text a_heights a_chosen a_firstEnds a_secondEnds a_order a_counts a_distances a_follows a_sizes a_values a_operands a_productive a_used := by
    intro a_productive Pr d
    induction d with
    | zero =>
      intro r hr x1 a_follows I
      have e : r = 3631 := by omega
      subst e
      obtain ⟨f, mf, sd, ⟨_, cl⟩ | ⟨_, mu⟩⟩ := I
      · exact br_t (nI_lt (a := 3630) (by decide) (by decide)) (hpost 1 _ _ (by decide) ⟨f, mf, fun n i k hv => ⟨(sd n i k hv).1, fun t ht => ⟨(sd n i k hv).2 t ht, fun q => q _ (cl k t hv.2.2 ht)⟩⟩⟩)
      · omega
    | succ d ih =>
      intro r hr x1 a_follows I
      obtain ⟨f, mf, sd, ⟨rfl, cl⟩ | ⟨rfl, mu⟩⟩ := I
      · exact br_f (nI_nlt (a := 3630) (by omega) (by decide)) (br_t rfl (hpost 1 _ _ (by decide) ⟨f, mf, fun n i k hv => ⟨(sd n i k hv).1, fun t ht => ⟨(sd n i k hv).2 t ht, fun q => q _ (cl k t hv.2.2 ht)⟩⟩⟩))
      · refine br_f (nI_nlt (a := 3630) (by omega) (by decide)) (br_f (by decide) ?_)
        refine xs_followMore (g := g) (m0 := fb_mu f) W tx mR mF S mH Pr ⟨f, mf, sd, Or.inl ⟨rfl, Nat.le_refl _, fun p i j _ _ _ h => by unfold xm_dn at h; omega⟩⟩ (fun x1 a I' => nm_r (nI_1 r) (ih (r + 1) (by omega) x1 a ?_))
        obtain ⟨f1, mf1, sd1, ⟨e1, mu1, h1⟩ | ⟨e1, mu1⟩⟩ := I'
        · exact ⟨f1, mf1, sd1, Or.inl ⟨e1, fun k t hk ht p i hp hi ap co => h1 p i k hp hi hk (Or.inl hp) ap t ht co⟩⟩
        · exact ⟨f1, mf1, sd1, Or.inr ⟨e1, by omega⟩⟩
  have K14 : ∀ (a_productive : Nat → Int32), xm_Pr g a_productive → ∀ d x, x + d = 605 → ∀ (a_follows : Nat → Int32), (∀ y, y < x → a_follows y = 0) → wX_needFollows_14 post (nI (gr_P g)) (nI (gr_L g)) f_chartReady f_countsReady f_distancesReady f_followsReady f_filled (d + 1) (nI x) a_lefts a_rights a_ops a_constants a_text a_heights a_chosen a_firstEnds a_secondEnds a_order a_counts a_distances a_follows a_sizes a_values a_operands a_productive a_used := by
    intro a_productive Pr d
    induction d with
    | zero =>
      intro x hx a_follows hz
      have e : x = 605 := by omega
      subst e
      exact br_t (nI_le (a := 605) (b := 605) (by decide) (by decide)) ⟨3631 + 1, K38 a_productive Pr 3631 0 (by decide) 1 _ ⟨fun _ _ _ => 0, fun n i j hv => hz _ (cx_lt W hv), fun n i k hv => ⟨Nat.zero_lt_succ _, fun t ht q => by rw [Nat.zero_testBit] at q; exact absurd q (by decide)⟩, Or.inr ⟨rfl, pu_cnt_le _ _⟩⟩⟩
    | succ d ih =>
      intro x hx a_follows hz
      refine br_f (nI_ge (b := 605) (by omega) (by decide)) ⟨vp_in_nI (by omega) (by decide), nm_r (e' := upd a_follows x 0) (by rw [nI_clamp (by omega)]) (nm_r (nI_1 x) (ih (x + 1) (by omega) _ (fun y hy => ?_)))⟩
      by_cases c : y = x
      · rw [c, pk_us]
      · rw [pk_un c]; exact hz y (by omega)
  exact br_c (fun _ => xs_markProd (g := g) W mR mF (fun a_productive Pr => ⟨605 + 1, K14 a_productive Pr 605 0 rfl _ (fun y hy => absurd hy (by omega))⟩)) (fun z => hpost _ _ _ z (hr z))
end
end
section
/-! the component: its state, its questions -/
def xm_Inv (g : gr_G) (u : SX) : Prop := match u with
  | (f_productions, f_length, f_chartReady, f_countsReady, f_distancesReady, f_followsReady, f_filled, a_lefts, a_rights, a_ops, a_constants, a_text, a_heights, a_chosen, a_firstEnds, a_secondEnds, a_order, a_counts, a_distances, a_follows, a_sizes, a_values, a_operands, a_productive, a_used) => f_productions = nI (gr_P g) ∧ f_length = nI (gr_L g) ∧ xm_T g a_text ∧ xm_R g a_rights ∧ xm_F g a_lefts ∧ (∀ p, p < gr_P g → ∃ o, o < 8 ∧ a_ops p = nI o) ∧ (f_chartReady ≠ 0 → ∃ fl, f_filled = nI fl ∧ xm_Chart g a_heights a_chosen a_firstEnds a_secondEnds a_order fl) ∧ (f_countsReady ≠ 0 → xm_Cts g a_counts) ∧ (f_distancesReady ≠ 0 → xm_Dist g a_distances) ∧ (f_followsReady ≠ 0 → xm_Fo g a_follows)
abbrev sh_T : Type := (Nat → Int32) × (Nat → Int32) × (Nat → Int32) × (Nat → Int32) × (Nat → Int32)
def xm_sh (u : SX) : sh_T := match u with
  | (f_productions, f_length, f_chartReady, f_countsReady, f_distancesReady, f_followsReady, f_filled, a_lefts, a_rights, a_ops, a_constants, a_text, a_heights, a_chosen, a_firstEnds, a_secondEnds, a_order, a_counts, a_distances, a_follows, a_sizes, a_values, a_operands, a_productive, a_used) => (a_lefts, a_rights, a_ops, a_constants, a_text)
theorem xm_sh_e {f_productions f_length f_chartReady f_countsReady f_distancesReady f_followsReady f_filled : Int32} {a_lefts a_rights a_ops a_constants a_text a_heights a_chosen a_firstEnds a_secondEnds a_order a_counts a_distances a_follows a_sizes : Nat → Int32} {a_values a_operands : Nat → Int64} {a_productive a_used : Nat → Int32} : xm_sh (f_productions, f_length, f_chartReady, f_countsReady, f_distancesReady, f_followsReady, f_filled, a_lefts, a_rights, a_ops, a_constants, a_text, a_heights, a_chosen, a_firstEnds, a_secondEnds, a_order, a_counts, a_distances, a_follows, a_sizes, a_values, a_operands, a_productive, a_used) = (a_lefts, a_rights, a_ops, a_constants, a_text) := rfl
theorem xb_pv {σ ρ : Type} {post : ρ → σ → Prop} {a b : ρ} {u : σ} (e : a = b) (h : post a u) : post b u := e ▸ h
section
variable {g : gr_G} {u : SX}
/-- needChart, from any state -/
theorem xq_chart {post : SX → Prop} (W : gr_W g) (I : xm_Inv g u) (h : ∀ {f_chartReady f_countsReady f_distancesReady f_followsReady : Int32} {a_lefts a_rights a_ops a_constants a_text a_heights a_chosen a_firstEnds a_secondEnds a_order a_counts a_distances a_follows a_sizes : Nat → Int32} {a_values a_operands : Nat → Int64} {a_productive a_used : Nat → Int32} (fl : Nat), xm_Inv g (nI (gr_P g), nI (gr_L g), f_chartReady, f_countsReady, f_distancesReady, f_followsReady, nI fl, a_lefts, a_rights, a_ops, a_constants, a_text, a_heights, a_chosen, a_firstEnds, a_secondEnds, a_order, a_counts, a_distances, a_follows, a_sizes, a_values, a_operands, a_productive, a_used) → (a_lefts, a_rights, a_ops, a_constants, a_text) = xm_sh u → xm_Chart g a_heights a_chosen a_firstEnds a_secondEnds a_order fl → post (nI (gr_P g), nI (gr_L g), f_chartReady, f_countsReady, f_distancesReady, f_followsReady, nI fl, a_lefts, a_rights, a_ops, a_constants, a_text, a_heights, a_chosen, a_firstEnds, a_secondEnds, a_order, a_counts, a_distances, a_follows, a_sizes, a_values, a_operands, a_productive, a_used)) : wpX_needChart post u := by
  obtain ⟨f_productions, f_length, f_chartReady, f_countsReady, f_distancesReady, f_followsReady, f_filled, a_lefts, a_rights, a_ops, a_constants, a_text, a_heights, a_chosen, a_firstEnds, a_secondEnds, a_order, a_counts, a_distances, a_follows, a_sizes, a_values, a_operands, a_productive, a_used⟩ := u
  obtain ⟨rfl, rfl, tx, mR, mF, mO, cr, cc, cd, cf⟩ := I
  refine xs_needChart (g := g) W tx mR mF cr (fun fl r a1 a2 a3 a4 a5 hr C => h fl ⟨rfl, rfl, tx, mR, mF, mO, fun _ => ⟨fl, rfl, C⟩, cc, cd, cf⟩ xm_sh_e.symm C)
theorem xq_derives {post : Int32 → SX → Prop} {p0 p1 p2 : Int32} (W : gr_W g) (I : xm_Inv g u) (hs : ∀ u' n i j, xm_Inv g u' → xm_sh u' = xm_sh u → pu_HS g (pu_HH g) → pu_V g n i j → p0 = nI (10 + n) → p1 = nI i → p2 = nI j → post (if 0 < pu_HH g n i j then 1 else 0) u') (hn : ∀ u', xm_Inv g u' → xm_sh u' = xm_sh u → (∀ n i j, pu_V g n i j → ¬ (p0 = nI (10 + n) ∧ p1 = nI i ∧ p2 = nI j)) → post 0 u') : wpX_derives post u p0 p1 p2 := by
  unfold wpX_derives
  refine xq_chart W I (fun fl I' e C => xs_isSp W (fun n i j hv e0 e1 e2 => br_f (by decide) (xb_cell n i j e0 e1 e2 ⟨vp_in_nI (cx_lt W hv) (by decide), ?_⟩)) (fun q => br_t rfl (hn _ I' (xm_sh_e.trans e) q)))
  have hl := cx_lt W hv
  have hb := (C.1 n i j hv).2.2
  have z := hs _ n i j I' (xm_sh_e.trans e) C.1 hv e0 e1 e2
  rw [nI_clamp (by omega), C.2.1 n i j hv]
  refine pk_le (pu_HH g n i j) 0 (fun c => ?_) (fun c => ?_)
  · rw [if_neg (by omega)] at z; exact z
  · rw [if_pos (by omega)] at z; exact z
theorem xq_height {post : Int32 → SX → Prop} {p0 p1 p2 : Int32} (W : gr_W g) (I : xm_Inv g u) (hs : ∀ u' n i j, xm_Inv g u' → xm_sh u' = xm_sh u → pu_HS g (pu_HH g) → pu_V g n i j → p0 = nI (10 + n) → p1 = nI i → p2 = nI j → post (nI (pu_HH g n i j)) u') (hn : ∀ u', xm_Inv g u' → xm_sh u' = xm_sh u → (∀ n i j, pu_V g n i j → ¬ (p0 = nI (10 + n) ∧ p1 = nI i ∧ p2 = nI j)) → post 0 u') : wpX_height post u p0 p1 p2 := by
  unfold wpX_height
  refine xq_chart W I (fun fl I' e C => xs_isSp W (fun n i j hv e0 e1 e2 => br_f (by decide) (xb_cell n i j e0 e1 e2 ⟨vp_in_nI (cx_lt W hv) (by decide), ?_⟩)) (fun q => br_t rfl (hn _ I' (xm_sh_e.trans e) q)))
  have hl := cx_lt W hv
  have z := hs _ n i j I' (xm_sh_e.trans e) C.1 hv e0 e1 e2
  rw [nI_clamp (by omega), C.2.1 n i j hv]; exact z
theorem xq_trees {post : Int32 → SX → Prop} {p0 p1 p2 : Int32} (W : gr_W g) (I : xm_Inv g u) (hs : ∀ u' n i j, xm_Inv g u' → xm_sh u' = xm_sh u → pu_HS g (pu_HH g) → pu_CS g (pu_CC g) → pu_V g n i j → p0 = nI (10 + n) → p1 = nI i → p2 = nI j → post (xc_v (pu_HH g n i j) (pu_CC g n i j)) u') (hn : ∀ u', xm_Inv g u' → xm_sh u' = xm_sh u → (∀ n i j, pu_V g n i j → ¬ (p0 = nI (10 + n) ∧ p1 = nI i ∧ p2 = nI j)) → post 0 u') : wpX_trees post u p0 p1 p2 := by
  unfold wpX_trees
  refine xq_chart W I (fun fl I' e C => ?_)
  obtain ⟨_, _, tx, mR, mF, mO, cr, cc, cd, cf⟩ := I'
  refine xs_needCounts (g := g) W tx mR mF C cc (fun r a hr M => ?_)
  refine xs_isSp W (fun n i j hv e0 e1 e2 => br_f (by decide) (xb_cell n i j e0 e1 e2 ⟨vp_in_nI (cx_lt W hv) (by decide), ?_⟩)) (fun q => br_t rfl (hn _ ⟨rfl, rfl, tx, mR, mF, mO, cr, fun _ => M, cd, cf⟩ (xm_sh_e.trans e) q))
  have hl := cx_lt W hv
  rw [nI_clamp (by omega), M.2 n i j hv]
  exact hs _ n i j ⟨rfl, rfl, tx, mR, mF, mO, cr, fun _ => M, cd, cf⟩ (xm_sh_e.trans e) C.1 M.1 hv e0 e1 e2
theorem xq_longest {post : Int32 → SX → Prop} {p0 p1 : Int32} (W : gr_W g) (I : xm_Inv g u) (hs : ∀ u' n i, xm_Inv g u' → xm_sh u' = xm_sh u → pu_HS g (pu_HH g) → n < 5 → i ≤ gr_L g → p0 = nI (10 + n) → p1 = nI i → (∀ j, i ≤ j → j ≤ gr_L g → 0 < pu_HH g n i j → (∀ j', j < j' → j' ≤ gr_L g → pu_HH g n i j' = 0) → post (nI j) u') ∧ ((∀ j, i ≤ j → j ≤ gr_L g → pu_HH g n i j = 0) → post (-1) u')) (hn : ∀ u', xm_Inv g u' → xm_sh u' = xm_sh u → (∀ n i, n < 5 → i ≤ gr_L g → ¬ (p0 = nI (10 + n) ∧ p1 = nI i)) → post (-1) u') : wpX_longest post u p0 p1 := by
  obtain ⟨f_productions, f_length, f_chartReady, f_countsReady, f_distancesReady, f_followsReady, f_filled, a_lefts, a_rights, a_ops, a_constants, a_text, a_heights, a_chosen, a_firstEnds, a_secondEnds, a_order, a_counts, a_distances, a_follows, a_sizes, a_values, a_operands, a_productive, a_used⟩ := u
  have I0 := I
  obtain ⟨rfl, rfl, _⟩ := I
  have hL := W.2.1
  unfold wpX_longest
  refine xs_isNt (fun n hn5 e0 => br_f (by decide) ?_) (fun q => br_t rfl (hn _ I0 rfl (fun n i h1 h2 z => q n h1 z.1)))
  refine xs_isPl W (fun i hi e1 => br_f (by decide) ?_) (fun q => br_t rfl (hn _ I0 rfl (fun n i h1 h2 z => q i h2 z.2)))
  refine xq_chart W I0 (fun {f1 f2 f3 f4 a1 a2 a3 a4 a5 a6 a7 a8 a9 a10 a11 a12 a13 a14 a15 a16 a17 a18} fl I' e C => ?_)
  have H := hs _ n i I' (xm_sh_e.trans e) C.1 hn5 hi e0 e1
  subst e0 e1
  have K : ∀ d j, j = i + d → j ≤ gr_L g + 1 → (∀ j', j ≤ j' → j' ≤ gr_L g → pu_HH g n i j' = 0) → wX_longest_26 post (nI (10 + n)) (nI i) (nI (gr_P g)) (nI (gr_L g)) f1 f2 f3 f4 (nI fl) a1 a2 a3 a4 a5 a6 a7 a8 a9 a10 a11 a12 a13 a14 a15 a16 a17 a18 (d + 1) (nI j + (-1)) := by
    intro d
    induction d with
    | zero =>
      intro j hj hj1 hist
      exact br_t ((xb_m1lt (by omega) (by omega)).mpr (by omega)) (H.2 (fun j' h1 h2 => hist j' (by omega) h2))
    | succ d ih =>
      intro j hj hj1 hist
      have hv : pu_V g n i (i + d) := ⟨hn5, by omega, by omega⟩
      have hl := cx_lt W hv
      have hb := (C.1 _ _ _ hv).2.2
      refine br_f (fun z => by have := (xb_m1lt (by omega) (by omega)).mp z; omega) ?_
      rw [show nI j + (-1) = nI (i + d) by rw [hj]; exact pk_m1 (i + d)]
      refine xb_cell n i (i + d) rfl rfl rfl ⟨vp_in_nI hl (by decide), ?_⟩
      rw [nI_clamp (by omega), C.2.1 _ _ _ hv]
      refine pk_le (pu_HH g n i (i + d)) 0 (fun c => nm_e (ih (i + d) rfl (by omega) (fun j' h1 h2 => ?_))) (fun c => H.1 (i + d) (by omega) (by omega) c (fun j' h1 h2 => hist j' (by omega) h2))
      by_cases z : j' = i + d
      · rw [z]; omega
      · exact hist j' (by omega) h2
  refine ⟨gr_L g + 1 - i + 1, ?_⟩
  have Z := K (gr_L g + 1 - i) (gr_L g + 1) (by omega) (Nat.le_refl _) (fun j' h1 h2 => by omega)
  rw [pk_m1] at Z
  exact Z
theorem xq_value {post : Int64 → SX → Prop} {p0 p1 p2 : Int32} (W : gr_W g) (I : xm_Inv g u) (hs : ∀ u' n i j, xm_Inv g u' → xm_sh u' = xm_sh u → pu_HS g (pu_HH g) → pu_V g n i j → p0 = nI (10 + n) → p1 = nI i → p2 = nI j → post (pu_VL g (xm_sh u).2.2.1 (xm_sh u).2.2.2.1 n i j) u') (hn : ∀ u', xm_Inv g u' → xm_sh u' = xm_sh u → (∀ n i j, pu_V g n i j → ¬ (p0 = nI (10 + n) ∧ p1 = nI i ∧ p2 = nI j)) → post ev_N u') : wpX_value post u p0 p1 p2 := by
  unfold wpX_value
  refine xq_chart W I (fun fl I' e C => ?_)
  rw [← e] at hs hn
  obtain ⟨_, _, tx, mR, mF, mO, cr, cc, cd, cf⟩ := I'
  refine xs_fillValues (g := g) W mR mO C (fun a1 a2 M => ?_)
  refine xs_isSp W (fun n i j hv e0 e1 e2 => br_f (by decide) (xb_cell n i j e0 e1 e2 ⟨vp_in_nI (cx_lt W hv) (by decide), ?_⟩)) (fun q => br_t rfl (hn _ ⟨rfl, rfl, tx, mR, mF, mO, cr, cc, cd, cf⟩ xm_sh_e q))
  have hl := cx_lt W hv
  rw [nI_clamp (by omega), M n i j hv]
  exact hs _ n i j ⟨rfl, rfl, tx, mR, mF, mO, cr, cc, cd, cf⟩ xm_sh_e C.1 hv e0 e1 e2
theorem pu_ND_V (W : gr_W g) (X : pu_CHX g) : ∀ h n i j k, pu_V g n i j → 0 < pu_HH g n i j → pu_HH g n i j ≤ h → k < pu_SZ g n i j → pu_V g (pu_ND g n i j k).1 (pu_ND g n i j k).2.1 (pu_ND g n i j k).2.2 ∧ 0 < pu_HH g (pu_ND g n i j k).1 (pu_ND g n i j k).2.1 (pu_ND g n i j k).2.2 := by
  intro h
  induction h with
  | zero => intro n i j k hv h0 hh; omega
  | succ h ih =>
    intro n i j k hv h0 hh hk
    by_cases c : k = 0
    · subst c; rw [pu_ND_0]; exact ⟨hv, h0⟩
    · obtain ⟨m, hm, nt, k', hk', l', e, eN⟩ := pu_ND_s W X hv h0 (by omega) hk
      obtain ⟨v', h0', hlt⟩ := (pu_part W X hv h0 hm).2.2.2.2 nt
      rw [eN]
      exact ih _ _ _ _ v' h0' (by omega) l'
theorem xq_node {post : Int32 → SX → Prop} {p0 : Int32} (W : gr_W g) (I : xm_Inv g u) (hs : ∀ u' k, xm_Inv g u' → xm_sh u' = xm_sh u → pu_HS g (pu_HH g) → p0 = nI k → k < pu_SZ g 0 0 (gr_L g) → pu_SZ g 0 0 (gr_L g) ≤ 1000000000 → post (nI (10000 * pu_cp g (pu_ND g 0 0 (gr_L g) k).1 (pu_ND g 0 0 (gr_L g) k).2.1 (pu_ND g 0 0 (gr_L g) k).2.2 + 100 * (pu_ND g 0 0 (gr_L g) k).2.1 + (pu_ND g 0 0 (gr_L g) k).2.2)) u') (hn : ∀ u', xm_Inv g u' → xm_sh u' = xm_sh u → (∀ k, k < 2 ^ 31 → ¬ (p0 = nI k ∧ k < pu_SZ g 0 0 (gr_L g) ∧ pu_SZ g 0 0 (gr_L g) ≤ 1000000000)) → post (-1) u') : wpX_node post u p0 := by
  unfold wpX_node
  refine xq_chart W I (fun fl I' e C => ?_)
  obtain ⟨_, _, tx, mR, mF, mO, cr, cc, cd, cf⟩ := I'
  refine xs_fillSizes (g := g) W mR C (fun a M => ?_)
  have hv : pu_V g 0 0 (gr_L g) := ⟨by decide, Nat.zero_le _, Nat.le_refl _⟩
  have hl := cx_lt W hv
  have hL := W.2.1
  have hP := W.1
  have hin : vp_in (nI (cx 0 0 (gr_L g))) 605 := vp_in_nI hl (by decide)
  have ec : (nI (cx 0 0 (gr_L g))).toNatClampNeg = cx 0 0 (gr_L g) := nI_clamp (by omega)
  refine xb_cell 0 0 (gr_L g) rfl rfl rfl ?_
  have ez := M _ _ _ hv
  have zl := pu_cz_le (pu_SZ g 0 0 (gr_L g))
  refine br_c (fun q => hn _ ⟨rfl, rfl, tx, mR, mF, mO, cr, cc, cd, cf⟩ (xm_sh_e.trans e) (fun k hk z => xb_nlt (lo := 0) (k := k) (by decide) q hk (by omega) z.1)) (fun q => ⟨hin, ?_⟩)
  obtain ⟨k, hk, rfl⟩ := nI_of q
  rw [ec, ez]
  refine pk_le (pu_cz (pu_SZ g 0 0 (gr_L g))) k (fun l => hn _ ⟨rfl, rfl, tx, mR, mF, mO, cr, cc, cd, cf⟩ (xm_sh_e.trans e) (fun k' hk' z => ?_)) (fun l => ⟨hin, ?_⟩)
  · rw [nI_eq hk hk'] at z
    unfold pu_cz at l
    rw [if_pos z.2.2] at l
    omega
  · refine pk_le (pu_cz (pu_SZ g 0 0 (gr_L g))) 1000000000 (fun l2 => ?_) (fun l2 => hn _ ⟨rfl, rfl, tx, mR, mF, mO, cr, cc, cd, cf⟩ (xm_sh_e.trans e) (fun k' hk' z => ?_))
    · have s9 : pu_SZ g 0 0 (gr_L g) ≤ 1000000000 := by
        by_cases c : pu_SZ g 0 0 (gr_L g) ≤ 1000000000
        · exact c
        · unfold pu_cz at l2; rw [if_neg c] at l2; omega
      have es : pu_cz (pu_SZ g 0 0 (gr_L g)) = pu_SZ g 0 0 (gr_L g) := if_pos s9
      rw [es] at l
      obtain ⟨X, mC⟩ := xm_chs C
      have h0 : 0 < pu_HH g 0 0 (gr_L g) := by
        by_cases c : pu_HH g 0 0 (gr_L g) = 0
        · rw [pu_SZ_0 c] at l; omega
        · omega
      obtain ⟨v', h0'⟩ := pu_ND_V W X _ _ _ _ k hv h0 (Nat.le_refl _) l
      have hl' := cx_lt W v'
      obtain ⟨e1, _, _⟩ := mC _ _ _ v' h0'
      have hp : pu_cp g (pu_ND g 0 0 (gr_L g) k).1 (pu_ND g 0 0 (gr_L g) k).2.1 (pu_ND g 0 0 (gr_L g) k).2.2 < gr_P g := (pu_part W X v' h0' (m := 0) (by decide)).1
      refine xs_findNode (g := g) W C.1 X mR mC M hv h0 s9 l ⟨vp_in_nI hl' (by decide), ?_⟩
      have v2 := v'.2
      refine xs_beginOf v'.1 (by omega) (by omega) (xs_endOf v'.1 (by omega) (by omega) ?_)
      rw [nI_clamp (by omega), e1, show (10000 : Int32) = nI 10000 from rfl, show (100 : Int32) = nI 100 from rfl, pk_mul, pk_mul, nI_add, nI_add]
      exact hs _ k ⟨rfl, rfl, tx, mR, mF, mO, cr, cc, cd, cf⟩ (xm_sh_e.trans e) C.1 rfl l s9
    · unfold pu_cz at l2
      rw [if_pos z.2.2] at l2; omega
theorem xq_distance {post : Int32 → SX → Prop} {p0 p1 p2 : Int32} (W : gr_W g) (I : xm_Inv g u) (hs : ∀ u' n i j, xm_Inv g u' → xm_sh u' = xm_sh u → pu_V g n i j → p0 = nI (10 + n) → p1 = nI i → p2 = nI j → post (if pd_D g n i j < 1000000 then nI (pd_D g n i j) else -1) u') (hn : ∀ u', xm_Inv g u' → xm_sh u' = xm_sh u → (∀ n i j, pu_V g n i j → ¬ (p0 = nI (10 + n) ∧ p1 = nI i ∧ p2 = nI j)) → post (-1) u') : wpX_distance post u p0 p1 p2 := by
  obtain ⟨f_productions, f_length, f_chartReady, f_countsReady, f_distancesReady, f_followsReady, f_filled, a_lefts, a_rights, a_ops, a_constants, a_text, a_heights, a_chosen, a_firstEnds, a_secondEnds, a_order, a_counts, a_distances, a_follows, a_sizes, a_values, a_operands, a_productive, a_used⟩ := u
  have I0 := I
  obtain ⟨rfl, rfl, tx, mR, mF, mO, cr, cc, cd, cf⟩ := I
  unfold wpX_distance
  refine xs_isSp W (fun n i j hv e0 e1 e2 => br_f (by decide) ?_) (fun q => br_t rfl (hn _ I0 rfl q))
  refine xs_needDistances (g := g) W tx mR mF cd (fun r a hr M => xb_cell n i j e0 e1 e2 ⟨vp_in_nI (cx_lt W hv) (by decide), nm_r (e' := nI (pd_D g n i j)) (by rw [nI_clamp (by have := cx_lt W hv; omega)]; exact M n i j hv) ?_⟩)
  have b := (pd_D_s W).1.1 n i j hv
  refine pk_le 1000000 (pd_D g n i j) (fun c => ?_) (fun c => ?_)
  · exact xb_pv (if_neg (by omega)) (hs _ n i j ⟨rfl, rfl, tx, mR, mF, mO, cr, cc, fun _ => M, cf⟩ (xm_sh_e.trans xm_sh_e.symm) hv e0 e1 e2)
  · exact xb_pv (if_pos c) (hs _ n i j ⟨rfl, rfl, tx, mR, mF, mO, cr, cc, fun _ => M, cf⟩ (xm_sh_e.trans xm_sh_e.symm) hv e0 e1 e2)
/-- needChart and needFollows, from any state -/
theorem xq_follows {post : SX → Prop} (W : gr_W g) (I : xm_Inv g u) (h : ∀ {f_chartReady f_countsReady f_distancesReady f_followsReady : Int32} {a_lefts a_rights a_ops a_constants a_text a_heights a_chosen a_firstEnds a_secondEnds a_order a_counts a_distances a_follows a_sizes : Nat → Int32} {a_values a_operands : Nat → Int64} {a_productive a_used : Nat → Int32} (fl : Nat), xm_Inv g (nI (gr_P g), nI (gr_L g), f_chartReady, f_countsReady, f_distancesReady, f_followsReady, nI fl, a_lefts, a_rights, a_ops, a_constants, a_text, a_heights, a_chosen, a_firstEnds, a_secondEnds, a_order, a_counts, a_distances, a_follows, a_sizes, a_values, a_operands, a_productive, a_used) → (a_lefts, a_rights, a_ops, a_constants, a_text) = xm_sh u → xm_Chart g a_heights a_chosen a_firstEnds a_secondEnds a_order fl → xm_Fo g a_follows → post (nI (gr_P g), nI (gr_L g), f_chartReady, f_countsReady, f_distancesReady, f_followsReady, nI fl, a_lefts, a_rights, a_ops, a_constants, a_text, a_heights, a_chosen, a_firstEnds, a_secondEnds, a_order, a_counts, a_distances, a_follows, a_sizes, a_values, a_operands, a_productive, a_used)) : wpX_needChart (fun u => wpX_needFollows post u) u := by
  refine xq_chart W I (fun fl I' e C => ?_)
  obtain ⟨_, _, tx, mR, mF, mO, cr, cc, cd, cf⟩ := I'
  exact xs_needFollows (g := g) W tx mR mF C.1 C.2.1 cf (fun r a b hr M => h fl ⟨rfl, rfl, tx, mR, mF, mO, cr, cc, cd, fun _ => M⟩ e C M)
end
section
variable {g : gr_G} {f_chartReady f_countsReady f_distancesReady f_followsReady f_filled : Int32} {a_lefts a_rights a_ops a_constants a_text a_heights a_chosen a_firstEnds a_secondEnds a_order a_counts a_distances a_follows a_sizes : Nat → Int32} {a_values a_operands : Nat → Int64} {a_productive a_used : Nat → Int32}
theorem xs_wf {post : Int32 → Prop} {k : Nat} (W : gr_W g) (hk : k ≤ gr_L g) (S : pu_HS g (pu_HH g)) (mH : xm_H g a_heights (pu_HH g)) (M : xm_Fo g a_follows) (h : ∀ m, m < 64 → (∀ t, t < 6 → (m.testBit t = true ↔ pf_FO g k t 0 0)) → post (nI (m + if 0 < pu_HH g 0 0 k then 64 else 0))) : wpX_whatFollows post (nI (gr_P g), nI (gr_L g), f_chartReady, f_countsReady, f_distancesReady, f_followsReady, f_filled, a_lefts, a_rights, a_ops, a_constants, a_text, a_heights, a_chosen, a_firstEnds, a_secondEnds, a_order, a_counts, a_distances, a_follows, a_sizes, a_values, a_operands, a_productive, a_used) (nI k) := by
  obtain ⟨f, mf, sd⟩ := M
  have hv : pu_V g 0 0 k := ⟨by decide, Nat.zero_le _, hk⟩
  have hl := cx_lt W hv
  have hb := (S _ _ _ hv).2.2
  have hin : vp_in (nI (cx 0 0 k)) 605 := vp_in_nI hl (by decide)
  have z := h _ (sd _ _ _ hv).1 (sd _ _ _ hv).2
  unfold wpX_whatFollows
  refine xb_cell 0 0 k rfl rfl rfl ⟨hin, hin, ?_⟩
  rw [nI_clamp (by omega), mH _ _ _ hv, mf _ _ _ hv]
  refine pk_le (pu_HH g 0 0 k) 0 (fun c => ?_) (fun c => ?_)
  · rw [if_neg (by omega)] at z
    rw [show (0 : Int32) = nI 0 from rfl, nI_add]; exact z
  · rw [if_pos (by omega)] at z
    rw [show (64 : Int32) = nI 64 from rfl, nI_add]; exact z
end
section
variable {g : gr_G} {u : SX}
theorem xq_expected {post : Int32 → SX → Prop} {p0 : Int32} (W : gr_W g) (I : xm_Inv g u) (hs : ∀ u' k m, xm_Inv g u' → xm_sh u' = xm_sh u → pu_HS g (pu_HH g) → k ≤ gr_L g → p0 = nI k → m < 64 → (∀ t, t < 6 → (m.testBit t = true ↔ pf_FO g k t 0 0)) → post (nI (m + if 0 < pu_HH g 0 0 k then 64 else 0)) u') (hn : ∀ u', xm_Inv g u' → xm_sh u' = xm_sh u → (∀ k, k ≤ gr_L g → p0 ≠ nI k) → post (-1) u') : wpX_expected post u p0 := by
  obtain ⟨f_productions, f_length, f_chartReady, f_countsReady, f_distancesReady, f_followsReady, f_filled, a_lefts, a_rights, a_ops, a_constants, a_text, a_heights, a_chosen, a_firstEnds, a_secondEnds, a_order, a_counts, a_distances, a_follows, a_sizes, a_values, a_operands, a_productive, a_used⟩ := u
  have I0 := I
  obtain ⟨rfl, rfl, _⟩ := I
  unfold wpX_expected
  refine xs_isPl W (fun k hk e0 => br_f (by decide) ?_) (fun q => br_t rfl (hn _ I0 rfl q))
  subst e0
  exact xq_follows W I0 (fun fl I' e C M => xs_wf W hk C.1 C.2.1 M (fun m hm h => hs _ k m I' (xm_sh_e.trans e) C.1 hk rfl hm h))
theorem fb_nz {k m : Nat} (hm : m < 64) (h : ∀ t, t < 6 → (m.testBit t = true ↔ pf_FO g k t 0 0)) : m ≠ 0 ↔ ∃ t, t < 6 ∧ pf_FO g k t 0 0 := by
  constructor
  · intro ne
    apply Classical.byContradiction
    intro z
    apply ne
    refine fb_ext hm (by decide) (fun t ht => ?_)
    rw [Nat.zero_testBit]
    cases e : m.testBit t with
    | false => rfl
    | true => exact absurd ⟨t, ht, (h t ht).mp e⟩ z
  · intro ⟨t, ht, q⟩ e
    have := (h t ht).mpr q
    rw [e, Nat.zero_testBit] at this
    exact absurd this (by decide)
theorem xq_errorAt {post : Int32 → SX → Prop} (W : gr_W g) (I : xm_Inv g u) (hs : ∀ u', xm_Inv g u' → xm_sh u' = xm_sh u → pu_HS g (pu_HH g) → (0 < pu_HH g 0 0 (gr_L g) → post (-1) u') ∧ (pu_HH g 0 0 (gr_L g) = 0 → ∀ k, k ≤ gr_L g → pf_B g k → (∀ k', k < k' → k' ≤ gr_L g → ¬ pf_B g k') → post (nI k) u') ∧ (pu_HH g 0 0 (gr_L g) = 0 → (∀ k, k ≤ gr_L g → ¬ pf_B g k) → post (-2) u')) : wpX_errorAt post u := by
  unfold wpX_errorAt
  refine xq_follows W I (fun {f1 f2 f3 f4 a1 a2 a3 a4 a5 a6 a7 a8 a9 a10 a11 a12 a13 a14 a15 a16 a17 a18} fl I' e C M => ?_)
  have H := hs _ I' (xm_sh_e.trans e) C.1
  have hv : pu_V g 0 0 (gr_L g) := ⟨by decide, Nat.zero_le _, Nat.le_refl _⟩
  have hl := cx_lt W hv
  have hb := (C.1 _ _ _ hv).2.2
  have hL := W.2.1
  refine xb_cell 0 0 (gr_L g) rfl rfl rfl ⟨vp_in_nI hl (by decide), ?_⟩
  rw [nI_clamp (by omega), C.2.1 _ _ _ hv]
  refine pk_le (pu_HH g 0 0 (gr_L g)) 0 (fun c => ?_) (fun c => H.1 c)
  have K : ∀ d, d ≤ gr_L g + 1 → (∀ k', d ≤ k' → k' ≤ gr_L g → ¬ pf_B g k') → wX_errorAt_33 post (nI (gr_P g)) (nI (gr_L g)) f1 f2 f3 f4 (nI fl) a1 a2 a3 a4 a5 a6 a7 a8 a9 a10 a11 a12 a13 a14 a15 a16 a17 a18 (d + 1) (nI d + (-1)) := by
    intro d
    induction d with
    | zero =>
      intro hd hist
      exact br_t ((xb_m1lt (b := 0) (by decide) (by decide)).mpr (Nat.le_refl _)) (H.2.2 (by omega) (fun k hk => hist k (by omega) hk))
    | succ d ih =>
      intro hd hist
      refine br_f (fun z => by have := (xb_m1lt (b := 0) (by omega) (by decide)).mp z; omega) ?_
      rw [pk_m1]
      refine xs_wf W (k := d) (by omega) C.1 C.2.1 M (fun m hm h => ?_)
      have nz := fb_nz hm h
      have bi := pf_B_iff W C.1 (k := d) (by omega)
      refine pk_eq (m + if 0 < pu_HH g 0 0 d then 64 else 0) 0 (fun q => nm_e (ih (by omega) (fun k' h1 h2 => ?_))) (fun q => H.2.1 (by omega) d (by omega) (bi.mpr ?_) (fun k' h1 h2 => hist k' (by omega) h2)) rfl rfl (by split <;> omega)
      · by_cases z : k' = d
        · rw [z]
          intro y
          obtain y | y := bi.mp y
          · have := nz.mpr y; omega
          · rw [if_pos y] at q; omega
        · exact hist k' (by omega) h2
      · by_cases z : 0 < pu_HH g 0 0 d
        · exact Or.inr z
        · rw [if_neg z] at q
          exact Or.inl (nz.mp (by omega))
  refine ⟨gr_L g + 1 + 1, ?_⟩
  have Z := K (gr_L g + 1) (Nat.le_refl _) (fun k' h1 h2 => by omega)
  rw [pk_m1] at Z
  exact Z
theorem xq_traits {post : Int32 → SX → Prop} {p0 : Int32} (W : gr_W g) (I : xm_Inv g u) (hs : ∀ u' n a b c, xm_Inv g u' → xm_sh u' = xm_sh u → pu_HS g (pu_HH g) → n < 5 → p0 = nI (10 + n) → ((a = 1 ∧ pf_PR g n) ∨ (a = 0 ∧ ¬ pf_PR g n)) → ((b = 2 ∧ 0 < pu_HH g n 0 0) ∨ (b = 0 ∧ ¬ 0 < pu_HH g n 0 0)) → ((c = 4 ∧ pf_US g n) ∨ (c = 0 ∧ ¬ pf_US g n)) → post (nI (a + b + c)) u') (hn : ∀ u', xm_Inv g u' → xm_sh u' = xm_sh u → (∀ n, n < 5 → p0 ≠ nI (10 + n)) → post (-1) u') : wpX_traits post u p0 := by
  obtain ⟨f_productions, f_length, f_chartReady, f_countsReady, f_distancesReady, f_followsReady, f_filled, a_lefts, a_rights, a_ops, a_constants, a_text, a_heights, a_chosen, a_firstEnds, a_secondEnds, a_order, a_counts, a_distances, a_follows, a_sizes, a_values, a_operands, a_productive, a_used⟩ := u
  have I0 := I
  obtain ⟨rfl, rfl, _⟩ := I
  unfold wpX_traits
  refine xs_isNt (fun n hn5 e0 => br_f (by decide) ?_) (fun q => br_t rfl (hn _ I0 rfl q))
  subst e0
  refine xq_chart W I0 (fun {f1 f2 f3 f4 a1 a2 a3 a4 a5 a6 a7 a8 a9 a10 a11 a12 a13 a14 a15 a16 a17 a18} fl I' e C => ?_)
  obtain ⟨_, _, tx, mR, mF, mO, cr, cc, cd, cf⟩ := I'
  refine xs_markProd (g := g) W mR mF (fun pr Pr => xs_markUsed (g := g) W mR mF Pr (fun us Us => ?_))
  have hv : pu_V g n 0 0 := ⟨hn5, Nat.le_refl _, Nat.zero_le _⟩
  have hl := cx_lt W hv
  have hb := (C.1 _ _ _ hv).2.2
  rw [xb_10]
  refine ⟨vp_in_nI hn5 (by decide), ?_⟩
  have T56 : ∀ x, ∀ z : Nat, x = nI z → z < 4 → ((∀ c, ((c = 4 ∧ pf_US g n) ∨ (c = 0 ∧ ¬ pf_US g n)) → post (nI (z + c)) (nI (gr_P g), nI (gr_L g), f1, f2, f3, f4, nI fl, a1, a2, a3, a4, a5, a6, a7, a8, a9, a10, a11, a12, a13, a14, a15, a16, pr, us))) → wX_traits_56 post (nI (10 + n)) x (nI (gr_P g)) (nI (gr_L g)) f1 f2 f3 f4 (nI fl) a1 a2 a3 a4 a5 a6 a7 a8 a9 a10 a11 a12 a13 a14 a15 a16 pr us := by
    intro x z ex hz h
    subst ex
    unfold wX_traits_56
    rw [xb_10]
    refine ⟨vp_in_nI hn5 (by decide), ?_⟩
    rw [nI_clamp (by omega)]
    obtain ⟨e1, e2⟩ | ⟨e1, e2⟩ := Us n hn5
    · exact br_f (by rw [e1]; decide) (nm_r (nI_add z 4) (h 4 (Or.inl ⟨rfl, e2⟩)))
    · exact br_t e1 (h 0 (Or.inr ⟨rfl, e2⟩))
  have T38 : ∀ x, ∀ a : Nat, x = nI a → a < 2 → ((a = 1 ∧ pf_PR g n) ∨ (a = 0 ∧ ¬ pf_PR g n)) → wX_traits_38 post (nI (10 + n)) x (nI (gr_P g)) (nI (gr_L g)) f1 f2 f3 f4 (nI fl) a1 a2 a3 a4 a5 a6 a7 a8 a9 a10 a11 a12 a13 a14 a15 a16 pr us := by
    intro x a ex ha hpa
    subst ex
    refine xb_cell n 0 0 rfl rfl rfl ⟨vp_in_nI hl (by decide), ?_⟩
    rw [nI_clamp (by omega), C.2.1 _ _ _ hv]
    refine pk_le (pu_HH g n 0 0) 0 (fun c => T56 _ a rfl (by omega) (fun cc' hc => ?_)) (fun c => nm_r (nI_add a 2) (T56 _ (a + 2) rfl (by omega) (fun cc' hc => ?_)))
    · exact hs _ n a 0 cc' ⟨rfl, rfl, tx, mR, mF, mO, cr, cc, cd, cf⟩ (xm_sh_e.trans e) C.1 hn5 rfl hpa (Or.inr ⟨rfl, by omega⟩) hc
    · exact hs _ n a 2 cc' ⟨rfl, rfl, tx, mR, mF, mO, cr, cc, cd, cf⟩ (xm_sh_e.trans e) C.1 hn5 rfl hpa (Or.inl ⟨rfl, c⟩) hc
  rw [nI_clamp (by omega)]
  obtain ⟨e1, e2⟩ | ⟨e1, e2⟩ := Pr n hn5
  · exact br_f (by rw [e1]; decide) (T38 1 1 rfl (by decide) (Or.inl ⟨rfl, e2⟩))
  · exact br_t e1 (T38 0 0 rfl (by decide) (Or.inr ⟨rfl, e2⟩))
end
end
section
/-! the reference: what is what, the chart -/
def ym_H (g : gr_G) (a : Nat → Int32) (H : pu_C) : Prop := ∀ n i j, pu_V g n i j → a (cy n i j) = nI (H n i j)
def ym_Z (g : gr_G) (a : Nat → Int32) : Prop := ∀ p, p < gr_P g → a p = nI (pu_k g p)
theorem pu_k_c {g : gr_G} {p : Nat} (W : gr_W g) (hp : p < gr_P g) : (pu_k g p = 0 ∧ gr_R g (3 * p) = 99 ∧ gr_R g (3 * p + 1) = 99 ∧ gr_R g (3 * p + 2) = 99) ∨ (pu_k g p = 1 ∧ gr_R g (3 * p) ≠ 99 ∧ gr_R g (3 * p + 1) = 99 ∧ gr_R g (3 * p + 2) = 99) ∨ (pu_k g p = 2 ∧ gr_R g (3 * p) ≠ 99 ∧ gr_R g (3 * p + 1) ≠ 99 ∧ gr_R g (3 * p + 2) = 99) ∨ (pu_k g p = 3 ∧ gr_R g (3 * p) ≠ 99 ∧ gr_R g (3 * p + 1) ≠ 99 ∧ gr_R g (3 * p + 2) ≠ 99) := by
  have gp := W.2.2.2.2.1 p hp
  unfold pu_k
  by_cases r0 : gr_R g (3 * p) = 99
  · have r1 := gp.1 r0
    exact Or.inl ⟨if_pos r0, r0, r1, gp.2 r1⟩
  · rw [if_neg r0]
    by_cases r1 : gr_R g (3 * p + 1) = 99
    · exact Or.inr (Or.inl ⟨if_pos r1, r0, r1, gp.2 r1⟩)
    · rw [if_neg r1]
      by_cases r2 : gr_R g (3 * p + 2) = 99
      · exact Or.inr (Or.inr (Or.inl ⟨if_pos r2, r0, r1, r2⟩))
      · exact Or.inr (Or.inr (Or.inr ⟨if_neg r2, r0, r1, r2⟩))
theorem cy_inj {g : gr_G} {n i j n' i' j' : Nat} (W : gr_W g) (a : pu_V g n i j) (b : pu_V g n' i' j') (e : cy n i j = cy n' i' j') : n = n' ∧ i = i' ∧ j = j' := by
  have hL := W.2.1
  unfold pu_V at a b
  exact cy_i e (by omega) (by omega) (by omega) (by omega)
theorem ym_H_up {g : gr_G} {hts : Nat → Int32} {H : pu_C} (W : gr_W g) (mH : ym_H g hts H) {n i j : Nat} (hv : pu_V g n i j) (h : Nat) : ym_H g (upd hts (cy n i j) (nI h)) (up3 H n i j h) := by
  intro a b c hv'
  by_cases z : a = n ∧ b = i ∧ c = j
  · obtain ⟨rfl, rfl, rfl⟩ := z
    rw [pk_us, up3_s]
  · rw [up3_n z, pk_un (fun e => z (cy_inj W hv' hv e))]
    exact mH a b c hv'
section
variable {g : gr_G} {f_productions f_length f_goal f_extra f_measured f_known f_more : Int32} {f_sum : Int64} {a_left a_size a_right a_text a_ops a_constants a_heights : Nat → Int32} {a_many : Nat → Int64} {a_chosen a_firstEnd a_secondEnd : Nat → Int32} {a_values a_nodes : Nat → Int64} {a_far a_productive a_useful a_covers : Nat → Int32}
theorem ys_tm {post : Int32 → Prop} {x : Int32} (ht : ∀ n, n < 6 → x = nI n → post 1) (hf : (∀ n, n < 6 → x ≠ nI n) → post 0) : wpY_terminal post (f_productions, f_length, f_goal, f_extra, f_measured, f_known, f_more, f_sum, a_left, a_size, a_right, a_text, a_ops, a_constants, a_heights, a_many, a_chosen, a_firstEnd, a_secondEnd, a_values, a_nodes, a_far, a_productive, a_useful, a_covers) x := by
  refine br_c (fun h => hf (fun n hn => xb_nlt (lo := 0) (by decide) h (by omega) (by omega))) (fun h => br_c (fun h2 => hf (fun n hn => xb_ngt (hi := 5) (by decide) h2 (by omega))) (fun h2 => ?_))
  obtain ⟨k, hk, rfl⟩ := nI_of h
  rw [show (5 : Int32) = nI 5 from rfl, nI_ltI (by decide) hk] at h2
  exact ht k (by omega) rfl
theorem ys_nt {post : Int32 → Prop} {x : Int32} (ht : ∀ n, n < 5 → x = nI (10 + n) → post 1) (hf : (∀ n, n < 5 → x ≠ nI (10 + n)) → post 0) : wpY_nonterminal post (f_productions, f_length, f_goal, f_extra, f_measured, f_known, f_more, f_sum, a_left, a_size, a_right, a_text, a_ops, a_constants, a_heights, a_many, a_chosen, a_firstEnd, a_secondEnd, a_values, a_nodes, a_far, a_productive, a_useful, a_covers) x := by
  refine br_c (fun h => hf (fun n hn => xb_nlt (lo := 10) (by decide) h (by omega) (by omega))) (fun h => br_c (fun h2 => hf (fun n hn => xb_ngt (hi := 14) (by decide) h2 (by omega))) (fun h2 => ?_))
  obtain ⟨k, k1, k2, e⟩ := xb_lit (n := 15) x 10 (by decide) h (fun z => h2 (by
    obtain ⟨q, hq, e⟩ : ∃ q, q < 2 ^ 31 ∧ x = nI q := nI_of (fun y => by
      rw [Int32.lt_iff_toInt_lt] at y
      rw [Int32.le_iff_toInt_le, nI_toInt (by decide)] at z
      rw [show (0 : Int32).toInt = 0 from rfl] at y
      omega)
    rw [e, nI_leI (by decide) hq] at z
    rw [e, show (14 : Int32) = nI 14 from rfl, nI_ltI (by decide) hq]; omega)) (by decide)
  exact ht (k - 10) (by omega) (by rw [e]; exact congrArg nI (by omega))
theorem ys_wrong {post : Int32 → Prop} {x : Int32} (ht : ∀ s, pu_ok s → x = sy_m s → post 0) (hf : (∀ s, pu_ok s → x ≠ sy_m s) → post 1) : wpY_wrong post (f_productions, f_length, f_goal, f_extra, f_measured, f_known, f_more, f_sum, a_left, a_size, a_right, a_text, a_ops, a_constants, a_heights, a_many, a_chosen, a_firstEnd, a_secondEnd, a_values, a_nodes, a_far, a_productive, a_useful, a_covers) x := by
  refine br_c (fun h => ht 99 (Or.inr (Or.inr rfl)) h) (fun h => ?_)
  refine ys_tm (fun n hn e => br_f (by decide) (ht n (Or.inl hn) (by rw [sy_n (by omega)]; exact e))) (fun h1 => br_t rfl ?_)
  refine ys_nt (fun n hn e => br_f (by decide) (ht (10 + n) (Or.inr (Or.inl ⟨by omega, by omega⟩)) (by rw [sy_n (by omega)]; exact e))) (fun h2 => br_t rfl (hf (fun s ok e => ?_)))
  by_cases c : s = 99
  · rw [c] at e; exact h e
  · rw [sy_n c] at e
    unfold pu_ok at ok
    by_cases c2 : s < 6
    · exact h1 s c2 e
    · exact h2 (s - 10) (by omega) (by rw [e]; exact congrArg nI (by omega))
theorem ys_cell {post : Int32 → Prop} {p0 p1 p2 : Int32} (n i j : Nat) (h0 : p0 = nI (10 + n)) (h1 : p1 = nI i) (h2 : p2 = nI j) (h : post (nI (cy n i j))) : wpY_cell post (f_productions, f_length, f_goal, f_extra, f_measured, f_known, f_more, f_sum, a_left, a_size, a_right, a_text, a_ops, a_constants, a_heights, a_many, a_chosen, a_firstEnd, a_secondEnd, a_values, a_nodes, a_far, a_productive, a_useful, a_covers) p0 p1 p2 := by
  subst h0 h1 h2
  have e : ((196 * (nI (10 + n) - 10)) + (14 * nI i)) + nI j = nI (cy n i j) := by
    rw [xb_10, show (196 : Int32) = nI 196 from rfl, show (14 : Int32) = nI 14 from rfl, pk_mul, pk_mul, nI_add, nI_add]; rfl
  unfold wpY_cell
  rw [e]; exact h
end
section
variable {g : gr_G} {f_goal f_extra f_measured f_known f_more : Int32} {f_sum : Int64} {a_left a_size a_right a_text a_ops a_constants a_heights : Nat → Int32} {a_many : Nat → Int64} {a_chosen a_firstEnd a_secondEnd : Nat → Int32} {a_values a_nodes : Nat → Int64} {a_far a_productive a_useful a_covers : Nat → Int32}
theorem ys_span {post : Int32 → Prop} {p0 p1 p2 : Int32} (W : gr_W g) (ht : ∀ n i j, pu_V g n i j → p0 = nI (10 + n) → p1 = nI i → p2 = nI j → post 1) (hf : (∀ n i j, pu_V g n i j → ¬ (p0 = nI (10 + n) ∧ p1 = nI i ∧ p2 = nI j)) → post 0) : wpY_span post (nI (gr_P g), nI (gr_L g), f_goal, f_extra, f_measured, f_known, f_more, f_sum, a_left, a_size, a_right, a_text, a_ops, a_constants, a_heights, a_many, a_chosen, a_firstEnd, a_secondEnd, a_values, a_nodes, a_far, a_productive, a_useful, a_covers) p0 p1 p2 := by
  have hL := W.2.1
  unfold wpY_span
  refine ys_nt (fun n hn en => br_f (by decide) ?_) (fun h => br_t rfl (hf (fun n i j hv q => h n hv.1 q.1)))
  refine br_c (fun h => hf (fun n i j hv q => xb_nlt (lo := 0) (k := i) (by decide) h (by have := hv.2; omega) (by omega) q.2.1)) (fun h => ?_)
  obtain ⟨i, hi, rfl⟩ := nI_of h
  refine br_c (fun h2 => hf (fun n i' j hv q => ?_)) (fun h2 => ?_)
  · have hv2 := hv.2
    have e1 := q.2.1
    rw [nI_eq hi (by omega)] at e1
    rw [q.2.2, nI_ltI (by omega) hi] at h2
    omega
  · obtain ⟨j, hj, rfl⟩ := nI_of (fun z : p2 < 0 => h2 (by
      rw [Int32.lt_iff_toInt_lt] at *
      rw [nI_toInt hi]
      rw [show (0 : Int32).toInt = 0 from rfl] at z
      omega))
    rw [nI_ltI hj hi] at h2
    refine pk_lt (gr_L g) j (fun l => hf (fun n' i' j' hv q => ?_)) (fun l => ht n i j ⟨hn, by omega, l⟩ en rfl rfl)
    have hv2 := hv.2
    have e2 := q.2.2
    rw [nI_eq hj (by omega)] at e2
    omega
theorem ys_stands {post : Int32 → Prop} {H : pu_C} {s i j h : Nat} {s' i' j' h' : Int32} (es : s' = sy_m s) (ei : i' = nI i) (ej : j' = nI j) (eh : h' = nI h) (ok : pu_ok s) (s99 : s ≠ 99) (hij : i ≤ j) (hj : j ≤ gr_L g) (W : gr_W g) (hh : h ≤ 1000) (tx : xm_T g a_text) (mH : ym_H g a_heights H) (hb : ∀ n i j, pu_V g n i j → H n i j ≤ 1000) (ht : pu_ps g H s i j h → post 1) (hf : ¬ pu_ps g H s i j h → post 0) : wpY_stands post (nI (gr_P g), nI (gr_L g), f_goal, f_extra, f_measured, f_known, f_more, f_sum, a_left, a_size, a_right, a_text, a_ops, a_constants, a_heights, a_many, a_chosen, a_firstEnd, a_secondEnd, a_values, a_nodes, a_far, a_productive, a_useful, a_covers) s' i' j' h' := by
  subst es ei ej eh
  have hL := W.2.1
  refine ek_if (sy_ge ok) (fun c => ?_) (fun c => ?_)
  · have hv := xb_ntV ok c hij hj
    have hl := cy_lt W hv
    have hb' := hb _ _ _ hv
    refine ys_cell (s - 10) i j (sy_nt c) rfl rfl ⟨vp_in_nI hl (by decide), nm_r (e' := nI (H (s - 10) i j)) (by rw [nI_clamp (by omega)]; exact mH _ _ _ hv) ?_⟩
    exact pk_le (H (s - 10) i j) 0 (fun z => hf (fun y => by have := (pu_ps_n c).mp y; omega)) (fun z => pk_le h (H (s - 10) i j) (fun z2 => hf (fun y => by have := (pu_ps_n c).mp y; omega)) (fun z2 => ht ((pu_ps_n c).mpr ⟨z, z2⟩)))
  · have st : s < 10 := by unfold pu_ok at ok; omega
    refine ek_if (d := j = i + 1) (by rw [nI_1, nI_eq (by omega) (by omega)]) (fun z => ⟨vp_in_nI (by omega) (by decide), ?_⟩) (fun z => hf (fun y => z ((pu_ps_t st).mp y).1))
    exact ek_if (d := gr_T g i = s) (by rw [nI_clamp (by omega), tx i (by omega)]; exact sy_eq ok (W.2.2.2.2.2 i (by omega))) (fun y => ht ((pu_ps_t st).mpr ⟨z, y⟩)) (fun y => hf (fun q => y ((pu_ps_t st).mp q).2))
theorem ys_fits {post : Int32 → Prop} {H : pu_C} {p i u v j h : Nat} (W : gr_W g) (hp : p < gr_P g) (hu : i ≤ u) (hv : u ≤ v) (hvj : v ≤ j) (hj : j ≤ gr_L g) (hh : h ≤ 1000) (tx : xm_T g a_text) (mR : xm_R g a_right) (mZ : ym_Z g a_size) (mH : ym_H g a_heights H) (hb : ∀ n i j, pu_V g n i j → H n i j ≤ 1000) (ht : pu_F g H p i u v j h → post 1) (hf : ¬ pu_F g H p i u v j h → post 0) : wpY_fits post (nI (gr_P g), nI (gr_L g), f_goal, f_extra, f_measured, f_known, f_more, f_sum, a_left, a_size, a_right, a_text, a_ops, a_constants, a_heights, a_many, a_chosen, a_firstEnd, a_secondEnd, a_values, a_nodes, a_far, a_productive, a_useful, a_covers) (nI p) (nI i) (nI u) (nI v) (nI j) (nI h) := by
  have hL := W.2.1
  have hP := W.1
  refine ⟨vp_in_nI (by omega) (by decide), nm_r (e' := nI (pu_k g p)) (by rw [nI_clamp (by omega)]; exact mZ p hp) ?_⟩
  have ok0 := pu_okR0 W hp
  have ok1 := pu_okR W hp (m := 1) (by decide)
  have ok2 := pu_okR W hp (m := 2) (by decide)
  have c := pu_k_c W hp
  have S0 : ∀ {post : Int32 → Prop}, gr_R g (3 * p) ≠ 99 → (pu_ps g H (gr_R g (3 * p)) i u h → post 1) → (¬ pu_ps g H (gr_R g (3 * p)) i u h → post 0) → wpY_stands post (nI (gr_P g), nI (gr_L g), f_goal, f_extra, f_measured, f_known, f_more, f_sum, a_left, a_size, a_right, a_text, a_ops, a_constants, a_heights, a_many, a_chosen, a_firstEnd, a_secondEnd, a_values, a_nodes, a_far, a_productive, a_useful, a_covers) (a_right (3 * nI p).toNatClampNeg) (nI i) (nI u) (nI h) := fun n99 a b => ys_stands (H := H) (xm_R0 W mR hp) rfl rfl rfl ok0 n99 hu (by omega) W hh tx mH hb a b
  have S1 : ∀ {post : Int32 → Prop}, gr_R g (3 * p + 1) ≠ 99 → (pu_ps g H (gr_R g (3 * p + 1)) u v h → post 1) → (¬ pu_ps g H (gr_R g (3 * p + 1)) u v h → post 0) → wpY_stands post (nI (gr_P g), nI (gr_L g), f_goal, f_extra, f_measured, f_known, f_more, f_sum, a_left, a_size, a_right, a_text, a_ops, a_constants, a_heights, a_many, a_chosen, a_firstEnd, a_secondEnd, a_values, a_nodes, a_far, a_productive, a_useful, a_covers) (a_right (3 * nI p + 1).toNatClampNeg) (nI u) (nI v) (nI h) := fun n99 a b => ys_stands (H := H) (xm_R1 W mR hp) rfl rfl rfl ok1 n99 hv (by omega) W hh tx mH hb a b
  have S2 : ∀ {post : Int32 → Prop}, gr_R g (3 * p + 2) ≠ 99 → (pu_ps g H (gr_R g (3 * p + 2)) v j h → post 1) → (¬ pu_ps g H (gr_R g (3 * p + 2)) v j h → post 0) → wpY_stands post (nI (gr_P g), nI (gr_L g), f_goal, f_extra, f_measured, f_known, f_more, f_sum, a_left, a_size, a_right, a_text, a_ops, a_constants, a_heights, a_many, a_chosen, a_firstEnd, a_secondEnd, a_values, a_nodes, a_far, a_productive, a_useful, a_covers) (a_right (3 * nI p + 2).toNatClampNeg) (nI v) (nI j) (nI h) := fun n99 a b => ys_stands (H := H) (xm_R2 W mR hp) rfl rfl rfl ok2 n99 hvj hj W hh tx mH hb a b
  obtain ⟨ek, r0, r1, r2⟩ | ⟨ek, r0, r1, r2⟩ | ⟨ek, r0, r1, r2⟩ | ⟨ek, r0, r1, r2⟩ := c
  · rw [ek]
    have F : pu_F g H p i u v j h ↔ (i = u ∧ u = v ∧ v = j) := by
      unfold pu_F; rw [pu_ps_a r0, pu_ps_a r1, pu_ps_a r2]
    refine br_f (by decide) (pk_eq v j (fun e => br_f (by decide) (pk_eq u j (fun e2 => br_f (by decide) (pk_eq i j (fun e3 => br_t (by decide) (br_t (by decide) (br_t (by decide) (ht (F.mpr ⟨by omega, by omega, e⟩))))) (fun e3 => hf (fun z => by have := F.mp z; omega)))) (fun e2 => hf (fun z => by have := F.mp z; omega)))) (fun e => hf (fun z => e (F.mp z).2.2)))
  · rw [ek]
    have F : pu_F g H p i u v j h ↔ (pu_ps g H (gr_R g (3 * p)) i u h ∧ u = v ∧ v = j) := by
      unfold pu_F; rw [pu_ps_a r1, pu_ps_a r2]
    refine br_f (by decide) (pk_eq v j (fun e => br_f (by decide) (pk_eq u j (fun e2 => br_t (by decide) (br_f (by decide) ⟨xb_i0 (by omega), S0 r0 (fun f0 => br_f (by decide) (br_t (by decide) (br_t (by decide) (ht (F.mpr ⟨f0, by omega, e⟩))))) (fun f0 => br_t rfl (hf (fun z => f0 (F.mp z).1)))⟩)) (fun e2 => hf (fun z => by have := F.mp z; omega)))) (fun e => hf (fun z => e (F.mp z).2.2)))
  · rw [ek]
    have F : pu_F g H p i u v j h ↔ (pu_ps g H (gr_R g (3 * p)) i u h ∧ pu_ps g H (gr_R g (3 * p + 1)) u v h ∧ v = j) := by
      unfold pu_F; rw [pu_ps_a r2]
    refine br_f (by decide) (pk_eq v j (fun e => br_t (by decide) (br_t (by decide) (br_f (by decide) ⟨xb_i0 (by omega), S0 r0 (fun f0 => br_f (by decide) (br_f (by decide) ⟨xb_i1 (by omega), S1 r1 (fun f1 => br_f (by decide) (br_t (by decide) (ht (F.mpr ⟨f0, f1, e⟩)))) (fun f1 => br_t rfl (hf (fun z => f1 (F.mp z).2.1)))⟩)) (fun f0 => br_t rfl (hf (fun z => f0 (F.mp z).1)))⟩))) (fun e => hf (fun z => e (F.mp z).2.2)))
  · rw [ek]
    refine br_t (by decide) (br_t (by decide) (br_t (by decide) (br_f (by decide) ⟨xb_i0 (by omega), S0 r0 (fun f0 => br_f (by decide) (br_f (by decide) ⟨xb_i1 (by omega), S1 r1 (fun f1 => br_f (by decide) (br_f (by decide) ⟨xb_i2 (by omega), S2 r2 (fun f2 => br_f (by decide) (ht ⟨f0, f1, f2⟩)) (fun f2 => br_t rfl (hf (fun z => f2 z.2.2)))⟩)) (fun f1 => br_t rfl (hf (fun z => f1 z.2.1)))⟩)) (fun f0 => br_t rfl (hf (fun z => f0 z.1)))⟩)))
theorem ys_fitsSome {post : Int32 → Prop} {H : pu_C} {p i j h : Nat} (W : gr_W g) (hp : p < gr_P g) (hij : i ≤ j) (hj : j ≤ gr_L g) (hh : h ≤ 1000) (tx : xm_T g a_text) (mR : xm_R g a_right) (mZ : ym_Z g a_size) (mH : ym_H g a_heights H) (hb : ∀ n i j, pu_V g n i j → H n i j ≤ 1000) (ht : ∀ u v, i ≤ u → u ≤ v → v ≤ j → pu_F g H p i u v j h → post 1) (hf : (∀ u v, i ≤ u → u ≤ v → v ≤ j → ¬ pu_F g H p i u v j h) → post 0) : wpY_fitsSome post (nI (gr_P g), nI (gr_L g), f_goal, f_extra, f_measured, f_known, f_more, f_sum, a_left, a_size, a_right, a_text, a_ops, a_constants, a_heights, a_many, a_chosen, a_firstEnd, a_secondEnd, a_values, a_nodes, a_far, a_productive, a_useful, a_covers) (nI p) (nI i) (nI j) (nI h) := by
  have hL := W.2.1
  have K13 : ∀ {J3 : Int32 → Prop} (u : Nat), i ≤ u → u ≤ j → ((∀ v, u ≤ v → v ≤ j → ¬ pu_F g H p i u v j h) → J3 (nI (u + 1))) → ∀ d v, v + d = j + 1 → u ≤ v → (∀ v', u ≤ v' → v' < v → ¬ pu_F g H p i u v' j h) → wY_fitsSome_13 post J3 (nI p) (nI i) (nI j) (nI h) (nI u) (nI (gr_P g)) (nI (gr_L g)) f_goal f_extra f_measured f_known f_more f_sum a_left a_size a_right a_text a_ops a_constants a_heights a_many a_chosen a_firstEnd a_secondEnd a_values a_nodes a_far a_productive a_useful a_covers (d + 1) (nI v) := by
    intro J3 u hiu huj hJ d
    induction d with
    | zero =>
      intro v hv huv hist
      exact br_t (nI_lt (by omega) (by omega)) (nm_r (nI_1 u) (hJ (fun v' h1 h2 => hist v' h1 (by omega))))
    | succ d ih =>
      intro v hv huv hist
      refine br_f (nI_nlt (by omega) (by omega)) (ys_fits W hp hiu huv (by omega) hj hh tx mR mZ mH hb (fun f => br_f (by decide) (ht u v hiu huv (by omega) f)) (fun f => br_t rfl (nm_r (nI_1 v) (ih (v + 1) (by omega) (by omega) (fun v' h1 h2 => ?_)))))
      by_cases c : v' = v
      · rw [c]; exact f
      · exact hist v' h1 (by omega)
  have K3 : ∀ d u, u + d = j + 1 → i ≤ u → (∀ u' v, i ≤ u' → u' < u → u' ≤ v → v ≤ j → ¬ pu_F g H p i u' v j h) → wY_fitsSome_3 post (nI p) (nI i) (nI j) (nI h) (nI (gr_P g)) (nI (gr_L g)) f_goal f_extra f_measured f_known f_more f_sum a_left a_size a_right a_text a_ops a_constants a_heights a_many a_chosen a_firstEnd a_secondEnd a_values a_nodes a_far a_productive a_useful a_covers (d + 1) (nI u) := by
    intro d
    induction d with
    | zero =>
      intro u hu hiu hist
      exact br_t (nI_lt (by omega) (by omega)) (hf (fun u' v h1 h2 h3 => hist u' v h1 (by omega) h2 h3))
    | succ d ih =>
      intro u hu hiu hist
      refine br_f (nI_nlt (by omega) (by omega)) ⟨j + 1 - u + 1, K13 u hiu (by omega) (fun hn => ih (u + 1) (by omega) (by omega) (fun u' v h1 h2 h3 h4 => ?_)) (j + 1 - u) u (by omega) (Nat.le_refl _) (fun v' h1 h2 => by omega)⟩
      by_cases c : u' = u
      · rw [c]; rw [c] at h3; exact hn v h3 h4
      · exact hist u' v h1 (by omega) h3 h4
  exact ⟨j + 1 - i + 1, K3 (j + 1 - i) i (by omega) (Nat.le_refl _) (fun u' v h1 h2 => by omega)⟩
theorem ys_hasTree {post : Int32 → Prop} {H : pu_C} {n i j h : Nat} (W : gr_W g) (hv : pu_V g n i j) (h0 : 0 < h) (hh : h ≤ 1000) (tx : xm_T g a_text) (mR : xm_R g a_right) (mF : xm_F g a_left) (mZ : ym_Z g a_size) (mH : ym_H g a_heights H) (hb : ∀ n i j, pu_V g n i j → H n i j ≤ 1000) (ht : pu_HT g H n i j h → post 1) (hf : ¬ pu_HT g H n i j h → post 0) : wpY_hasTree post (nI (gr_P g), nI (gr_L g), f_goal, f_extra, f_measured, f_known, f_more, f_sum, a_left, a_size, a_right, a_text, a_ops, a_constants, a_heights, a_many, a_chosen, a_firstEnd, a_secondEnd, a_values, a_nodes, a_far, a_productive, a_useful, a_covers) (nI (10 + n)) (nI i) (nI j) (nI h) := by
  have hP := W.1
  have hn5 := hv.1
  have K3 : ∀ d p, p + d = gr_P g → (∀ q u v, q < p → gr_F g q = n → i ≤ u → u ≤ v → v ≤ j → ¬ pu_F g H q i u v j h) → wY_hasTree_3 post (nI (10 + n)) (nI i) (nI j) (nI h) (nI (gr_P g)) (nI (gr_L g)) f_goal f_extra f_measured f_known f_more f_sum a_left a_size a_right a_text a_ops a_constants a_heights a_many a_chosen a_firstEnd a_secondEnd a_values a_nodes a_far a_productive a_useful a_covers (d + 1) (nI p) := by
    intro d
    induction d with
    | zero =>
      intro p hp hist
      refine br_t (nI_le (by omega) (by omega)) (hf (fun z => ?_))
      obtain ⟨_, q, u, v, hq, hn, h1, h2, h3, f⟩ := z
      exact hist q u v (by omega) hn h1 h2 h3 f
    | succ d ih =>
      intro p hp hist
      have hp' : p < gr_P g := by omega
      have hF := W.2.2.1 p hp'
      refine br_f (nI_ge (by omega) (by omega)) ⟨vp_in_nI (by omega) (by decide), ?_⟩
      refine ek_if (d := gr_F g p = n) (by rw [xm_Fp W mF hp', nI_eq (by omega) (by omega)]; omega) (fun c => ?_) (fun c => nm_r (nI_1 p) (ih (p + 1) (by omega) (fun q u v hq hn h1 h2 h3 => ?_)))
      · refine ys_fitsSome W hp' hv.2.1 hv.2.2 hh tx mR mZ mH hb (fun u v h1 h2 h3 f => br_f (by decide) (ht ⟨h0, p, u, v, hp', c, h1, h2, h3, f⟩)) (fun nf => br_t rfl (nm_r (nI_1 p) (ih (p + 1) (by omega) (fun q u v hq hn h1 h2 h3 => ?_))))
        by_cases z : q = p
        · rw [z]; exact nf u v h1 h2 h3
        · exact hist q u v (by omega) hn h1 h2 h3
      · by_cases z : q = p
        · rw [z] at hn; exact absurd hn c
        · exact hist q u v (by omega) hn h1 h2 h3
  exact ⟨gr_P g + 1, K3 (gr_P g) 0 (by omega) (fun q u v hq => by omega)⟩
end
end
section
/-! the reference: the chart's rounds -/
def yc_H (g : gr_G) (H : pu_C) : Nat := pu_cnt (fun x => decide (x / 11 % 11 ≤ x % 11 ∧ x % 11 ≤ gr_L g ∧ H (x / 121) (x / 11 % 11) (x % 11) ≠ 0)) 605
theorem yc_up {g : gr_G} {H : pu_C} {n i j h : Nat} (W : gr_W g) (hv : pu_V g n i j) (e : H n i j = 0) (h0 : h ≠ 0) : yc_H g H + 1 ≤ yc_H g (up3 H n i j h) := by
  obtain ⟨e1, e2, e3⟩ := pd_cell W hv
  refine pu_cnt_lt (x0 := cx n i j) ?_ ?_ (fun x hx q => ?_) (cx_lt W hv)
  · rw [e1, e2, e3]; exact decide_eq_false (fun q => q.2.2 e)
  · rw [e1, e2, e3, up3_s]; exact decide_eq_true ⟨hv.2.1, hv.2.2, h0⟩
  · have q := of_decide_eq_true q
    refine decide_eq_true ⟨q.1, q.2.1, ?_⟩
    by_cases z : x / 121 = n ∧ x / 11 % 11 = i ∧ x % 11 = j
    · rw [z.1, z.2.1, z.2.2, up3_s]; exact h0
    · rw [up3_n z]; exact q.2.2
def yd_dn (i j n : Nat) : Nat → Nat → Nat → Prop := fun n' i' j' => i' < i ∨ (i' = i ∧ (j' < j ∨ (j' = j ∧ n' < n)))
def yd_I (g : gr_G) (H : pu_C) (m : Nat) (dn : Nat → Nat → Nat → Prop) : Prop := (∀ n i j, pu_V g n i j → H n i j ≤ m + 1) ∧ (∀ n i j, pu_V g n i j → ∀ k, H n i j = k + 1 → pu_HT g H n i j (k + 1) ∧ ¬ pu_HT g H n i j k) ∧ (∀ n i j, pu_V g n i j → H n i j = 0 → ¬ pu_HT g H n i j m) ∧ (∀ n i j, pu_V g n i j → dn n i j → H n i j = 0 → ¬ pu_HT g H n i j (m + 1))
def ym_0 (g : gr_G) (a : Nat → Int32) : Prop := ∀ x, x < 980 → ¬ pu_V g (x / 196) (x % 196 / 14) (x % 14) → a x = 0
theorem cy_dec {g : gr_G} {n i j : Nat} (W : gr_W g) (hv : pu_V g n i j) : cy n i j / 196 = n ∧ cy n i j % 196 / 14 = i ∧ cy n i j % 14 = j := by
  have := W.2.1
  unfold pu_V at hv
  unfold cy; omega
theorem cy_enc (x : Nat) : cy (x / 196) (x % 196 / 14) (x % 14) = x := by unfold cy; omega
theorem ym_0_up {g : gr_G} {a : Nat → Int32} {n i j : Nat} {v : Int32} (W : gr_W g) (h : ym_0 g a) (hv : pu_V g n i j) : ym_0 g (upd a (cy n i j) v) := by
  intro x hx nv
  by_cases c : x = cy n i j
  · obtain ⟨e1, e2, e3⟩ := cy_dec W hv
    rw [c, e1, e2, e3] at nv
    exact absurd hv nv
  · rw [pk_un c]; exact h x hx nv
def yd_L (g : gr_G) (m : Nat) (dn : Nat → Nat → Nat → Prop) (more : Int32) (hts : Nat → Int32) : Prop := ∃ H, ym_H g hts H ∧ ym_0 g hts ∧ yd_I g H m dn ∧ m ≤ yc_H g H ∧ ((more = 0 ∧ ∀ n i j, pu_V g n i j → H n i j ≤ m) ∨ (more = 1 ∧ m + 1 ≤ yc_H g H))
theorem yd_L_dn {g : gr_G} {m : Nat} {dn dn' : Nat → Nat → Nat → Prop} {more : Int32} {hts : Nat → Int32} (l : yd_L g m dn more hts) (h : ∀ n i j, pu_V g n i j → dn' n i j → dn n i j) : yd_L g m dn' more hts := by
  obtain ⟨H, h1, h2, ⟨I1, I2, I3, I4⟩, b, c⟩ := l
  exact ⟨H, h1, h2, ⟨I1, I2, I3, fun n i j hv d => I4 n i j hv (h n i j hv d)⟩, b, c⟩
theorem yd_fill {g : gr_G} {H : pu_C} {m n i j : Nat} {dn : Nat → Nat → Nat → Prop} (W : gr_W g) (I : yd_I g H m dn) (hv : pu_V g n i j) (h0 : H n i j = 0) (t : pu_HT g H n i j (m + 1)) : yd_I g (up3 H n i j (m + 1)) m dn := by
  have A : pu_ag g H (up3 H n i j (m + 1)) (m + 1) := by
    intro n' i' j' hv' k k0 k1
    by_cases z : n' = n ∧ i' = i ∧ j' = j
    · obtain ⟨rfl, rfl, rfl⟩ := z
      rw [up3_s, h0]; omega
    · rw [up3_n z]
  obtain ⟨I1, I2, I3, I4⟩ := I
  have Z : ∀ n' i' j', up3 H n i j (m + 1) n' i' j' = 0 → H n' i' j' = 0 := by
    intro n' i' j' e
    by_cases z : n' = n ∧ i' = i ∧ j' = j
    · obtain ⟨rfl, rfl, rfl⟩ := z; exact h0
    · rw [up3_n z] at e; exact e
  refine ⟨fun n' i' j' hv' => ?_, fun n' i' j' hv' k ek => ?_, fun n' i' j' hv' e0 z => ?_, fun n' i' j' hv' d e0 z => ?_⟩
  · by_cases z : n' = n ∧ i' = i ∧ j' = j
    · obtain ⟨rfl, rfl, rfl⟩ := z
      rw [up3_s]; omega
    · rw [up3_n z]; exact I1 _ _ _ hv'
  · by_cases z : n' = n ∧ i' = i ∧ j' = j
    · obtain ⟨rfl, rfl, rfl⟩ := z
      rw [up3_s] at ek
      have : k = m := by omega
      subst this
      exact ⟨pu_HT_im W A hv.2.2 t, fun z => I3 _ _ _ hv h0 (pu_HT_im W (pu_ag_sy (pu_ag_le A (by omega))) hv.2.2 z)⟩
    · rw [up3_n z] at ek
      have b := I1 _ _ _ hv'
      have a := I2 _ _ _ hv' k ek
      exact ⟨pu_HT_im W (pu_ag_le A (by omega)) hv'.2.2 a.1, fun z => a.2 (pu_HT_im W (pu_ag_sy (pu_ag_le A (by omega))) hv'.2.2 z)⟩
  · exact I3 _ _ _ hv' (Z _ _ _ e0) (pu_HT_im W (pu_ag_sy (pu_ag_le A (by omega))) hv'.2.2 z)
  · exact I4 _ _ _ hv' d (Z _ _ _ e0) (pu_HT_im W (pu_ag_sy A) hv'.2.2 z)
def ym_Chart (g : gr_G) (hts : Nat → Int32) : Prop := pu_HS g (pu_HH g) ∧ ym_H g hts (pu_HH g) ∧ ym_0 g hts
section
variable {g : gr_G} {f_goal f_extra f_measured f_known f_more : Int32} {f_sum : Int64} {a_left a_size a_right a_text a_ops a_constants a_heights : Nat → Int32} {a_many : Nat → Int64} {a_chosen a_firstEnd a_secondEnd : Nat → Int32} {a_values a_nodes : Nat → Int64} {a_far a_productive a_useful a_covers : Nat → Int32}
theorem ys_deriveSpan {post : SY → Prop} {m i j : Nat} (W : gr_W g) (hm : m ≤ 605) (hij : i ≤ j) (hj : j ≤ gr_L g) (tx : xm_T g a_text) (mR : xm_R g a_right) (mF : xm_F g a_left) (mZ : ym_Z g a_size) (l : yd_L g m (yd_dn i j 0) f_more a_heights) (hpost : ∀ (f_more : Int32) (a_heights : Nat → Int32), yd_L g m (yd_dn i j 5) f_more a_heights → post (nI (gr_P g), nI (gr_L g), f_goal, f_extra, f_measured, f_known, f_more, f_sum, a_left, a_size, a_right, a_text, a_ops, a_constants, a_heights, a_many, a_chosen, a_firstEnd, a_secondEnd, a_values, a_nodes, a_far, a_productive, a_useful, a_covers)) : wpY_deriveSpan post (nI (gr_P g), nI (gr_L g), f_goal, f_extra, f_measured, f_known, f_more, f_sum, a_left, a_size, a_right, a_text, a_ops, a_constants, a_heights, a_many, a_chosen, a_firstEnd, a_secondEnd, a_values, a_nodes, a_far, a_productive, a_useful, a_covers) (nI i) (nI j) (nI (m + 1)) := by
  have K : ∀ d n, n + d = 5 → ∀ (f_more : Int32) (a_heights : Nat → Int32), yd_L g m (yd_dn i j n) f_more a_heights → wY_deriveSpan_4 post (nI i) (nI j) (nI (m + 1)) (nI (gr_P g)) (nI (gr_L g)) f_goal f_extra f_measured f_known f_sum (d + 1) (nI (10 + n)) f_more a_left a_size a_right a_text a_ops a_constants a_heights a_many a_chosen a_firstEnd a_secondEnd a_values a_nodes a_far a_productive a_useful a_covers := by
    intro d
    induction d with
    | zero =>
      intro n hn f_more a_heights l
      have e : n = 5 := by omega
      subst e
      exact br_t (nI_le (a := 15) (b := 15) (by decide) (by decide)) (hpost _ _ l)
    | succ d ih =>
      intro n hn f_more a_heights l
      have hv : pu_V g n i j := ⟨by omega, hij, hj⟩
      have hl := cy_lt W hv
      have hin : vp_in (nI (cy n i j)) 980 := vp_in_nI hl (by decide)
      have ec : (nI (cy n i j)).toNatClampNeg = cy n i j := nI_clamp (by omega)
      obtain ⟨H, mH, m0, I, b, c⟩ := l
      have hb : ∀ n i j, pu_V g n i j → H n i j ≤ 1000 := fun n i j h => by have := I.1 n i j h; omega
      have hbc := hb _ _ _ hv
      refine br_f (nI_ge (b := 15) (by omega) (by decide)) (ys_cell n i j rfl rfl rfl ⟨hin, ?_⟩)
      refine pk_eq (H n i j) 0 (fun e => ?_) (fun e => nm_r (nI_1 (10 + n)) (ih (n + 1) (by omega) _ _ ⟨H, mH, m0, ⟨I.1, I.2.1, I.2.2.1, fun n' i' j' hv' q e' => ?_⟩, b, c⟩)) (by rw [ec]; exact mH _ _ _ hv)
      · refine ys_hasTree W hv (by omega) (by omega) tx mR mF mZ mH hb (fun t => br_f (by decide) ⟨hin, nm_r (e' := upd a_heights (cy n i j) (nI (m + 1))) (by rw [ec]) (nm_r (nI_1 (10 + n)) (ih (n + 1) (by omega) 1 _ ⟨_, ym_H_up W mH hv (m + 1), ym_0_up W m0 hv, ?_, ?_, Or.inr ⟨rfl, ?_⟩⟩))⟩) (fun t => br_t rfl (nm_r (nI_1 (10 + n)) (ih (n + 1) (by omega) _ _ ⟨H, mH, m0, ⟨I.1, I.2.1, I.2.2.1, fun n' i' j' hv' q e' => ?_⟩, b, c⟩)))
        · have I' := yd_fill W I hv e t
          refine ⟨I'.1, I'.2.1, I'.2.2.1, fun n' i' j' hv' q e' => ?_⟩
          by_cases z : n' = n ∧ i' = i ∧ j' = j
          · obtain ⟨rfl, rfl, rfl⟩ := z
            rw [up3_s] at e'; omega
          · exact I'.2.2.2 n' i' j' hv' (by unfold yd_dn at *; omega) e'
        · have := yc_up W hv e (show m + 1 ≠ 0 by omega); omega
        · have := yc_up W hv e (show m + 1 ≠ 0 by omega); omega
        · by_cases z : n' = n ∧ i' = i ∧ j' = j
          · obtain ⟨rfl, rfl, rfl⟩ := z; exact t
          · exact I.2.2.2 n' i' j' hv' (by unfold yd_dn at *; omega) e'
      · by_cases z : n' = n ∧ i' = i ∧ j' = j
        · obtain ⟨rfl, rfl, rfl⟩ := z; exact absurd e' e
        · exact I.2.2.2 n' i' j' hv' (by unfold yd_dn at *; omega) e'
  exact ⟨5 + 1, K 5 0 rfl _ _ l⟩
theorem ys_derive {post : SY → Prop} (W : gr_W g) (tx : xm_T g a_text) (mR : xm_R g a_right) (mF : xm_F g a_left) (mZ : ym_Z g a_size) (hpost : ∀ (f_more : Int32) (a_heights : Nat → Int32), ym_Chart g a_heights → post (nI (gr_P g), nI (gr_L g), f_goal, f_extra, f_measured, f_known, f_more, f_sum, a_left, a_size, a_right, a_text, a_ops, a_constants, a_heights, a_many, a_chosen, a_firstEnd, a_secondEnd, a_values, a_nodes, a_far, a_productive, a_useful, a_covers)) : wpY_derive post (nI (gr_P g), nI (gr_L g), f_goal, f_extra, f_measured, f_known, f_more, f_sum, a_left, a_size, a_right, a_text, a_ops, a_constants, a_heights, a_many, a_chosen, a_firstEnd, a_secondEnd, a_values, a_nodes, a_far, a_productive, a_useful, a_covers) := by
  have hL := W.2.1
  have K60 : ∀ {J29 J50 : Int32 → Int32 → Int32 → Int32 → Int32 → Int32 → Int32 → Int32 → Int64 → (Nat → Int32) → (Nat → Int32) → (Nat → Int32) → (Nat → Int32) → (Nat → Int32) → (Nat → Int32) → (Nat → Int32) → (Nat → Int64) → (Nat → Int32) → (Nat → Int32) → (Nat → Int32) → (Nat → Int64) → (Nat → Int64) → (Nat → Int32) → (Nat → Int32) → (Nat → Int32) → (Nat → Int32) → Prop} (m i : Nat), m ≤ 605 → i ≤ gr_L g → (∀ (f_more : Int32) (a_heights : Nat → Int32), yd_L g m (yd_dn (i + 1) (i + 1) 0) f_more a_heights → J50 (nI (i + 1)) (nI (gr_P g)) (nI (gr_L g)) f_goal f_extra f_measured f_known f_more f_sum a_left a_size a_right a_text a_ops a_constants a_heights a_many a_chosen a_firstEnd a_secondEnd a_values a_nodes a_far a_productive a_useful a_covers) → ∀ d j, j + d = gr_L g + 1 → i ≤ j → ∀ (f_more : Int32) (a_heights : Nat → Int32), yd_L g m (yd_dn i j 0) f_more a_heights → wY_derive_60 post J29 J50 (nI (m + 1)) (nI i) (d + 1) (nI j) (nI (gr_P g)) (nI (gr_L g)) f_goal f_extra f_measured f_known f_more f_sum a_left a_size a_right a_text a_ops a_constants a_heights a_many a_chosen a_firstEnd a_secondEnd a_values a_nodes a_far a_productive a_useful a_covers := by
    intro J29 J50 m i hm hi hJ d
    induction d with
    | zero =>
      intro j hj hij f_more a_heights l
      refine br_t (nI_lt (by omega) (by omega)) (nm_r (nI_1 i) (hJ _ _ (yd_L_dn l (fun n' i' j' hv q => ?_))))
      unfold pu_V at hv; unfold yd_dn at *; omega
    | succ d ih =>
      intro j hj hij f_more a_heights l
      refine br_f (nI_nlt (by omega) (by omega)) (ys_deriveSpan (g := g) W hm hij (by omega) tx mR mF mZ l (fun f_more a_heights l' => nm_r (nI_1 j) (ih (j + 1) (by omega) (by omega) _ _ (yd_L_dn l' (fun n' i' j' hv q => ?_)))))
      unfold pu_V at hv; unfold yd_dn at *; omega
  have K50 : ∀ {J29 : Int32 → Int32 → Int32 → Int32 → Int32 → Int32 → Int32 → Int32 → Int64 → (Nat → Int32) → (Nat → Int32) → (Nat → Int32) → (Nat → Int32) → (Nat → Int32) → (Nat → Int32) → (Nat → Int32) → (Nat → Int64) → (Nat → Int32) → (Nat → Int32) → (Nat → Int32) → (Nat → Int64) → (Nat → Int64) → (Nat → Int32) → (Nat → Int32) → (Nat → Int32) → (Nat → Int32) → Prop} (m : Nat), m ≤ 605 → (∀ (f_more : Int32) (a_heights : Nat → Int32), yd_L g m (fun _ _ _ => True) f_more a_heights → J29 (nI (m + 1 + 1)) (nI (gr_P g)) (nI (gr_L g)) f_goal f_extra f_measured f_known f_more f_sum a_left a_size a_right a_text a_ops a_constants a_heights a_many a_chosen a_firstEnd a_secondEnd a_values a_nodes a_far a_productive a_useful a_covers) → ∀ d i, i + d = gr_L g + 1 → ∀ (f_more : Int32) (a_heights : Nat → Int32), yd_L g m (yd_dn i i 0) f_more a_heights → wY_derive_50 post J29 (nI (m + 1)) (d + 1) (nI i) (nI (gr_P g)) (nI (gr_L g)) f_goal f_extra f_measured f_known f_more f_sum a_left a_size a_right a_text a_ops a_constants a_heights a_many a_chosen a_firstEnd a_secondEnd a_values a_nodes a_far a_productive a_useful a_covers := by
    intro J29 m hm hJ d
    induction d with
    | zero =>
      intro i hi f_more a_heights l
      refine br_t (nI_lt (by omega) (by omega)) (nm_r (nI_1 (m + 1)) (hJ _ _ (yd_L_dn l (fun n' i' j' hv q => ?_))))
      unfold pu_V at hv; unfold yd_dn at *; omega
    | succ d ih =>
      intro i hi f_more a_heights l
      exact br_f (nI_nlt (by omega) (by omega)) ⟨d + 1 + 1, K60 m i hm (by omega) (fun f_more a_heights l' => ih (i + 1) (by omega) _ _ l') (d + 1) i (by omega) (Nat.le_refl _) _ _ l⟩
  have K29 : ∀ d m, m + d = 606 → ∀ (f_more : Int32) (a_heights : Nat → Int32), (∃ H, ym_H g a_heights H ∧ ym_0 g a_heights ∧ (∀ n i j, pu_V g n i j → H n i j ≤ m) ∧ (∀ n i j, pu_V g n i j → ∀ k, H n i j = k + 1 → pu_HT g H n i j (k + 1) ∧ ¬ pu_HT g H n i j k) ∧ (∀ n i j, pu_V g n i j → H n i j = 0 → ¬ pu_HT g H n i j m) ∧ ((f_more = 0 ∧ pu_HS g H) ∨ (f_more = 1 ∧ m ≤ yc_H g H))) → wY_derive_29 post (d + 1) (nI (m + 1)) (nI (gr_P g)) (nI (gr_L g)) f_goal f_extra f_measured f_known f_more f_sum a_left a_size a_right a_text a_ops a_constants a_heights a_many a_chosen a_firstEnd a_secondEnd a_values a_nodes a_far a_productive a_useful a_covers := by
    intro d
    induction d with
    | zero =>
      intro m hm f_more a_heights l
      obtain ⟨H, mH, m0, I1, I2, I3, ⟨rfl, S⟩ | ⟨_, mu⟩⟩ := l
      · exact br_f (nI_ge (b := 981) (by omega) (by decide)) (br_t rfl (hpost _ _ ⟨pu_HH_s S, fun n i j hv => by rw [mH n i j hv, pu_HH_e W S hv], m0⟩))
      · have : yc_H g H ≤ 605 := pu_cnt_le _ _
        omega
    | succ d ih =>
      intro m hm f_more a_heights l
      obtain ⟨H, mH, m0, I1, I2, I3, ⟨rfl, S⟩ | ⟨rfl, mu⟩⟩ := l
      · exact br_f (nI_ge (b := 981) (by omega) (by decide)) (br_t rfl (hpost _ _ ⟨pu_HH_s S, fun n i j hv => by rw [mH n i j hv, pu_HH_e W S hv], m0⟩))
      · refine br_f (nI_ge (b := 981) (by omega) (by decide)) (br_f (by decide) ⟨gr_L g + 1 + 1, ?_⟩)
        refine K50 m (by omega) (fun f_more a_heights l' => ih (m + 1) (by omega) _ _ ?_) (gr_L g + 1) 0 (by omega) 0 _ ⟨H, mH, m0, ⟨fun n i j hv => by have := I1 n i j hv; omega, I2, I3, fun n i j hv q => by unfold yd_dn at q; omega⟩, mu, Or.inl ⟨rfl, I1⟩⟩
        obtain ⟨H', mH', m0', ⟨J1, J2, J3, J4⟩, b', c'⟩ := l'
        refine ⟨H', mH', m0', J1, J2, fun n i j hv e => J4 n i j hv trivial e, ?_⟩
        obtain ⟨rfl, le⟩ | ⟨rfl, mu'⟩ := c'
        · refine Or.inl ⟨rfl, fun n i j hv => ⟨fun e h z => J4 n i j hv trivial e (pu_HT_cut W le hv.2.2 z), J2 n i j hv, ?_⟩⟩
          have := le n i j hv; omega
        · exact Or.inr ⟨rfl, mu'⟩
  have K2 : ∀ d x, x + d = 980 → ∀ (a_heights : Nat → Int32), (∀ y, y < x → a_heights y = 0) → wY_derive_2 post (nI (gr_P g)) (nI (gr_L g)) f_goal f_extra f_measured f_known f_more f_sum (d + 1) (nI x) a_left a_size a_right a_text a_ops a_constants a_heights a_many a_chosen a_firstEnd a_secondEnd a_values a_nodes a_far a_productive a_useful a_covers := by
    intro d
    induction d with
    | zero =>
      intro x hx a_heights hz
      have e : x = 980 := by omega
      subst e
      exact br_t (nI_le (a := 980) (b := 980) (by decide) (by decide)) ⟨606 + 1, K29 606 0 (by decide) 1 _ ⟨fun _ _ _ => 0, fun n i j hv => hz _ (cy_lt W hv), fun x hx _ => hz x hx, fun _ _ _ _ => Nat.le_refl _, fun n i j hv k e => absurd e (Nat.succ_ne_zero k).symm, fun n i j hv e z => absurd z.1 (by decide), Or.inr ⟨rfl, Nat.zero_le _⟩⟩⟩
    | succ d ih =>
      intro x hx a_heights hz
      refine br_f (nI_ge (b := 980) (by omega) (by decide)) ⟨vp_in_nI (by omega) (by decide), nm_r (e' := upd a_heights x 0) (by rw [nI_clamp (by omega)]) (nm_r (nI_1 x) (ih (x + 1) (by omega) _ (fun y hy => ?_)))⟩
      by_cases c : y = x
      · rw [c, pk_us]
      · rw [pk_un c]; exact hz y (by omega)
  exact ⟨980 + 1, K2 980 0 rfl _ (fun y hy => absurd hy (by omega))⟩
end
end
section
/-! the reference: how many trees -/
def ym_m (g : gr_G) (a : Nat → Int64) (f : pu_C) : Prop := ∀ n i j, pu_V g n i j → a (cy n i j) = lN (f n i j)
def yn_mu (g : gr_G) (f : pu_C) : Nat := pu_cnt (fun x => decide (x / 11 % 11 ≤ x % 11 ∧ x % 11 ≤ gr_L g ∧ f (x / 121) (x / 11 % 11) (x % 11) = 0)) 605
theorem yn_mu_up {g : gr_G} {f : pu_C} {n i j v : Nat} (W : gr_W g) (hv : pu_V g n i j) (e : f n i j = 0) (h0 : 0 < v) : yn_mu g (up3 f n i j v) < yn_mu g f := by
  obtain ⟨e1, e2, e3⟩ := pd_cell W hv
  refine pu_cnt_lt (x0 := cx n i j) ?_ ?_ (fun x hx q => ?_) (cx_lt W hv)
  · rw [e1, e2, e3, up3_s]; exact decide_eq_false (fun q => by have := q.2.2; omega)
  · rw [e1, e2, e3]; exact decide_eq_true ⟨hv.2.1, hv.2.2, e⟩
  · have q := of_decide_eq_true q
    refine decide_eq_true ⟨q.1, q.2.1, ?_⟩
    by_cases z : x / 121 = n ∧ x / 11 % 11 = i ∧ x % 11 = j
    · rw [z.1, z.2.1, z.2.2]; exact e
    · have := q.2.2; rw [up3_n z] at this; exact this
theorem ym_m_up {g : gr_G} {a : Nat → Int64} {f : pu_C} (W : gr_W g) (m : ym_m g a f) {n i j : Nat} (hv : pu_V g n i j) (v : Nat) : ym_m g (vp_updL a (cy n i j) (lN v)) (up3 f n i j v) := by
  intro a' b c hv'
  by_cases z : a' = n ∧ b = i ∧ c = j
  · obtain ⟨rfl, rfl, rfl⟩ := z
    rw [pk_uLs, up3_s]
  · rw [up3_n z, pk_uLn (fun e => z (cy_inj W hv' hv e))]
    exact m a' b c hv'
section
variable {g : gr_G} {f_goal f_extra f_measured f_known f_more : Int32} {f_sum : Int64} {a_left a_size a_right a_text a_ops a_constants a_heights : Nat → Int32} {a_many : Nat → Int64} {a_chosen a_firstEnd a_secondEnd : Nat → Int32} {a_values a_nodes : Nat → Int64} {a_far a_productive a_useful a_covers : Nat → Int32}
theorem ys_number {post : Int64 → Prop} {f : pu_C} {s i j : Nat} {s' i' j' : Int32} (es : s' = sy_m s) (ei : i' = nI i) (ej : j' = nI j) (ok : pu_ok s) (hij : i ≤ j) (hj : j ≤ gr_L g) (W : gr_W g) (mm : ym_m g a_many f) (h : post (lN (pu_pt f s i j))) : wpY_number post (nI (gr_P g), nI (gr_L g), f_goal, f_extra, f_measured, f_known, f_more, f_sum, a_left, a_size, a_right, a_text, a_ops, a_constants, a_heights, a_many, a_chosen, a_firstEnd, a_secondEnd, a_values, a_nodes, a_far, a_productive, a_useful, a_covers) s' i' j' := by
  subst es ei ej
  refine ek_if (sy_ge ok) (fun c => ?_) (fun c => ?_)
  · have hv := xb_ntV ok c hij hj
    have hl := cy_lt W hv
    refine ys_cell (s - 10) i j (sy_nt c) rfl rfl ⟨vp_in_nI hl (by decide), ?_⟩
    rw [nI_clamp (by omega), mm _ _ _ hv]
    have e : pu_pt f s i j = f (s - 10) i j := if_pos c
    rw [e] at h; exact h
  · have e : pu_pt f s i j = 1 := if_neg c
    rw [e] at h; exact h
theorem ys_capped {post : Int64 → Prop} {x : Nat} {x' : Int64} (e : x' = lN x) (hx : x < 2 ^ 63) (h : post (lN (pu_cap x))) : wpY_capped post (nI (gr_P g), nI (gr_L g), f_goal, f_extra, f_measured, f_known, f_more, f_sum, a_left, a_size, a_right, a_text, a_ops, a_constants, a_heights, a_many, a_chosen, a_firstEnd, a_secondEnd, a_values, a_nodes, a_far, a_productive, a_useful, a_covers) x' := by
  subst e
  refine ek_if (d := 1000000000 ≤ x) (pk_lLE (a := 1000000000) (by decide) hx) (fun c => ?_) (fun c => ?_)
  · have e : pu_cap x = 1000000000 := if_neg (by omega)
    rw [e] at h; exact h
  · have e : pu_cap x = x := if_pos (by omega)
    rw [e] at h; exact h
theorem ys_add132 {post : Int32 → SY → Prop} {J3 J13 : Int32 → Int64 → Prop} {x1 x2 x3 x4 : Int32} {v a b c Q : Nat} (ha : a ≤ 1000000000) (hb : b ≤ 1000000000) (hc : c ≤ 1000000000) (h0 : a = 0 ∨ b = 0 ∨ c = 0 → post 0 (nI (gr_P g), nI (gr_L g), f_goal, f_extra, f_measured, f_known, f_more, lN (pu_cap Q), a_left, a_size, a_right, a_text, a_ops, a_constants, a_heights, a_many, a_chosen, a_firstEnd, a_secondEnd, a_values, a_nodes, a_far, a_productive, a_useful, a_covers)) (h1 : 0 < a → 0 < b → 0 < c → J13 (nI (v + 1)) (lN (pu_cap (Q + pu_cap (pu_cap (a * b) * c))))) : wY_added_132 post J3 J13 x1 x2 x3 x4 (nI v) (lN a) (lN b) (lN c) (nI (gr_P g)) (nI (gr_L g)) f_goal f_extra f_measured f_known f_more (lN (pu_cap Q)) a_left a_size a_right a_text a_ops a_constants a_heights a_many a_chosen a_firstEnd a_secondEnd a_values a_nodes a_far a_productive a_useful a_covers := by
  have z : ∀ {x : Nat}, x ≤ 1000000000 → (lN x = 0 ↔ x = 0) := fun hx => pk_lEQ (b := 0) (by omega) (by decide)
  refine ek_if (z ha) (fun e => h0 (Or.inl e)) (fun ea => ek_if (z hb) (fun e => h0 (Or.inr (Or.inl e))) (fun eb => ek_if (z hc) (fun e => h0 (Or.inr (Or.inr e))) (fun ec => ?_)))
  have m1 : a * b ≤ 1000000000 * 1000000000 := Nat.mul_le_mul ha hb
  have k1 := pu_cap_le (a * b)
  have m2 : pu_cap (a * b) * c ≤ 1000000000 * 1000000000 := Nat.mul_le_mul k1 hc
  have k2 := pu_cap_le (pu_cap (a * b) * c)
  have k3 := pu_cap_le Q
  refine ys_capped (x := a * b) (by rw [lN_mul]) (by omega) (ys_capped (x := pu_cap (a * b) * c) (by rw [lN_mul]) (by omega) (ys_capped (x := pu_cap Q + pu_cap (pu_cap (a * b) * c)) (by rw [lN_add]) (by omega) (nm_r (nI_1 v) ?_)))
  rw [pu_cap_add]
  exact h1 (by omega) (by omega) (by omega)
theorem pu_pt_le {f : pu_C} (hb : ∀ n i j, pu_V g n i j → f n i j ≤ 1000000000) {s i j : Nat} (ok : pu_ok s) (hij : i ≤ j) (hj : j ≤ gr_L g) : pu_pt f s i j ≤ 1000000000 := by
  unfold pu_pt
  by_cases c : 10 ≤ s ∧ s < 99
  · rw [if_pos c]; exact hb _ _ _ (xb_ntV ok c hij hj)
  · rw [if_neg c]; omega
theorem pu_pt_a {f : pu_C} {s i j : Nat} (h : s = 99) : pu_pt f s i j = 1 := if_neg (by omega)
theorem ys_add {post : Int32 → SY → Prop} {J3 J13 : Int32 → Int64 → Prop} {f : pu_C} {p i j u v Q : Nat} (W : gr_W g) (hp : p < gr_P g) (h1 : i ≤ u) (h2 : u ≤ v) (h3 : v ≤ j) (hj : j ≤ gr_L g) (mR : xm_R g a_right) (mZ : ym_Z g a_size) (mm : ym_m g a_many f) (hb : ∀ n i j, pu_V g n i j → f n i j ≤ 1000000000)
    (hE : ¬ pu_c3 g (pu_ps' f) p i u v j → post 0 (nI (gr_P g), nI (gr_L g), f_goal, f_extra, f_measured, f_known, f_more, lN (pu_cap Q), a_left, a_size, a_right, a_text, a_ops, a_constants, a_heights, a_many, a_chosen, a_firstEnd, a_secondEnd, a_values, a_nodes, a_far, a_productive, a_useful, a_covers)) (hV : pu_c3 g (pu_ps' f) p i u v j → J13 (nI (v + 1)) (lN (pu_cap (Q + pu_tm g f p i u v j)))) :
    vp_in (nI p) 12 ∧ (((1 ≤ (a_size (nI p).toNatClampNeg) → (vp_in (3 * nI p) 36 ∧ (wpY_number (fun r_35 => (wY_added_65 post J3 J13 (nI p) (nI i) (nI j) (nI u) (nI v) r_35 (nI (gr_P g)) (nI (gr_L g)) f_goal f_extra f_measured f_known f_more (lN (pu_cap Q)) a_left a_size a_right a_text a_ops a_constants a_heights a_many a_chosen a_firstEnd a_secondEnd a_values a_nodes a_far a_productive a_useful a_covers)) (nI (gr_P g), nI (gr_L g), f_goal, f_extra, f_measured, f_known, f_more, lN (pu_cap Q), a_left, a_size, a_right, a_text, a_ops, a_constants, a_heights, a_many, a_chosen, a_firstEnd, a_secondEnd, a_values, a_nodes, a_far, a_productive, a_useful, a_covers) (a_right (3 * nI p).toNatClampNeg) (nI i) (nI u)))) ∧ (¬ 1 ≤ (a_size (nI p).toNatClampNeg) → (wY_added_65 post J3 J13 (nI p) (nI i) (nI j) (nI u) (nI v) 1 (nI (gr_P g)) (nI (gr_L g)) f_goal f_extra f_measured f_known f_more (lN (pu_cap Q)) a_left a_size a_right a_text a_ops a_constants a_heights a_many a_chosen a_firstEnd a_secondEnd a_values a_nodes a_far a_productive a_useful a_covers)))) := by
  have hP := W.1
  have ok0 := pu_okR0 W hp
  have ok1 := pu_okR W hp (m := 1) (by decide)
  have ok2 := pu_okR W hp (m := 2) (by decide)
  have ez : a_size (nI p).toNatClampNeg = nI (pu_k g p) := by rw [nI_clamp (by omega)]; exact mZ p hp
  have hin : vp_in (nI p) 12 := vp_in_nI (by omega) (by decide)
  have b0 := pu_pt_le hb ok0 h1 (show u ≤ gr_L g by omega)
  have b1 := pu_pt_le hb ok1 h2 (show v ≤ gr_L g by omega)
  have b2 := pu_pt_le hb ok2 h3 hj
  have k3 := pu_k_le g p
  have T132 : wY_added_132 post J3 J13 (nI p) (nI i) (nI j) (nI u) (nI v) (lN (pu_pt f (gr_R g (3 * p)) i u)) (lN (pu_pt f (gr_R g (3 * p + 1)) u v)) (lN (pu_pt f (gr_R g (3 * p + 2)) v j)) (nI (gr_P g)) (nI (gr_L g)) f_goal f_extra f_measured f_known f_more (lN (pu_cap Q)) a_left a_size a_right a_text a_ops a_constants a_heights a_many a_chosen a_firstEnd a_secondEnd a_values a_nodes a_far a_productive a_useful a_covers := by
    refine ys_add132 b0 b1 b2 (fun z => hE (fun c => ?_)) (fun q0 q1 q2 => hV ⟨pu_pt_pos.mp q0, pu_pt_pos.mp q1, pu_pt_pos.mp q2⟩)
    have a0 := pu_pt_pos.mpr c.1
    have a1 := pu_pt_pos.mpr c.2.1
    have a2 := pu_pt_pos.mpr c.2.2
    omega
  have c := pu_k_c W hp
  have T99 : wY_added_99 post J3 J13 (nI p) (nI i) (nI j) (nI u) (nI v) (lN (pu_pt f (gr_R g (3 * p)) i u)) (lN (pu_pt f (gr_R g (3 * p + 1)) u v)) (nI (gr_P g)) (nI (gr_L g)) f_goal f_extra f_measured f_known f_more (lN (pu_cap Q)) a_left a_size a_right a_text a_ops a_constants a_heights a_many a_chosen a_firstEnd a_secondEnd a_values a_nodes a_far a_productive a_useful a_covers := by
    refine ⟨hin, pk_le 3 (pu_k g p) (fun l => ⟨xb_i2 (by omega), ys_number (f := f) (xm_R2 W mR hp) rfl rfl ok2 h3 hj W mm T132⟩) (fun l => ?_) rfl ez⟩
    rw [pu_pt_a (show gr_R g (3 * p + 2) = 99 by omega)] at T132
    exact T132
  have T65 : wY_added_65 post J3 J13 (nI p) (nI i) (nI j) (nI u) (nI v) (lN (pu_pt f (gr_R g (3 * p)) i u)) (nI (gr_P g)) (nI (gr_L g)) f_goal f_extra f_measured f_known f_more (lN (pu_cap Q)) a_left a_size a_right a_text a_ops a_constants a_heights a_many a_chosen a_firstEnd a_secondEnd a_values a_nodes a_far a_productive a_useful a_covers := by
    refine ⟨hin, pk_le 2 (pu_k g p) (fun l => ⟨xb_i1 (by omega), ys_number (f := f) (xm_R1 W mR hp) rfl rfl ok1 h2 (by omega) W mm T99⟩) (fun l => ?_) rfl ez⟩
    rw [pu_pt_a (show gr_R g (3 * p + 1) = 99 by omega)] at T99
    exact T99
  refine ⟨hin, pk_le 1 (pu_k g p) (fun l => ⟨xb_i0 (by omega), ys_number (f := f) (xm_R0 W mR hp) rfl rfl ok0 h1 (by omega) W mm T65⟩) (fun l => ?_) rfl ez⟩
  rw [pu_pt_a (show gr_R g (3 * p) = 99 by omega)] at T65
  exact T65
theorem ys_added {post : Int32 → SY → Prop} {f : pu_C} {p i j Q : Nat} (W : gr_W g) (hp : p < gr_P g) (hij : i ≤ j) (hj : j ≤ gr_L g) (tx : xm_T g a_text) (mR : xm_R g a_right) (mZ : ym_Z g a_size) (C : ym_Chart g a_heights) (mm : ym_m g a_many f) (hb : ∀ n i j, pu_V g n i j → f n i j ≤ 1000000000)
    (hE : ∀ (f_sum : Int64) u v, i ≤ u → u ≤ v → v ≤ j → pu_G g p i u v j → ¬ pu_c3 g (pu_ps' f) p i u v j → post 0 (nI (gr_P g), nI (gr_L g), f_goal, f_extra, f_measured, f_known, f_more, f_sum, a_left, a_size, a_right, a_text, a_ops, a_constants, a_heights, a_many, a_chosen, a_firstEnd, a_secondEnd, a_values, a_nodes, a_far, a_productive, a_useful, a_covers)) (hV : (∀ u v, i ≤ u → u ≤ v → v ≤ j → pu_G g p i u v j → pu_c3 g (pu_ps' f) p i u v j) → post 1 (nI (gr_P g), nI (gr_L g), f_goal, f_extra, f_measured, f_known, f_more, lN (pu_cap (Q + pu_s2 g f p i j (j + 1))), a_left, a_size, a_right, a_text, a_ops, a_constants, a_heights, a_many, a_chosen, a_firstEnd, a_secondEnd, a_values, a_nodes, a_far, a_productive, a_useful, a_covers)) : wpY_added post (nI (gr_P g), nI (gr_L g), f_goal, f_extra, f_measured, f_known, f_more, lN (pu_cap Q), a_left, a_size, a_right, a_text, a_ops, a_constants, a_heights, a_many, a_chosen, a_firstEnd, a_secondEnd, a_values, a_nodes, a_far, a_productive, a_useful, a_covers) (nI p) (nI i) (nI j) := by
  have hL := W.2.1
  have hbH : ∀ n i j, pu_V g n i j → pu_HH g n i j ≤ 1000 := fun n i j hv => by have := (C.1 n i j hv).2.2; omega
  have K13 : ∀ {J3 : Int32 → Int64 → Prop} (u Q : Nat), i ≤ u → u ≤ j → ((∀ v, u ≤ v → v ≤ j → pu_G g p i u v j → pu_c3 g (pu_ps' f) p i u v j) → J3 (nI (u + 1)) (lN (pu_cap (Q + pu_s1 g f p i u j (j + 1))))) → ∀ d v, v + d = j + 1 → u ≤ v → (∀ v', u ≤ v' → v' < v → pu_G g p i u v' j → pu_c3 g (pu_ps' f) p i u v' j) → wY_added_13 post J3 (nI p) (nI i) (nI j) (nI u) (nI (gr_P g)) (nI (gr_L g)) f_goal f_extra f_measured f_known f_more a_left a_size a_right a_text a_ops a_constants a_heights a_many a_chosen a_firstEnd a_secondEnd a_values a_nodes a_far a_productive a_useful a_covers (d + 1) (nI v) (lN (pu_cap (Q + pu_s1 g f p i u j v))) := by
    intro J3 u Q hiu huj hJ d
    induction d with
    | zero =>
      intro v hv huv hist
      have e : v = j + 1 := by omega
      subst e
      exact br_t (nI_lt (by omega) (by omega)) (nm_r (nI_1 u) (hJ (fun v' h1 h2 => hist v' h1 (by omega))))
    | succ d ih =>
      intro v hv huv hist
      have sb : pu_s1 g f p i u j (v + 1) = pu_s1 g f p i u j v + pu_tF g f p i u v j := by
        show pu_s1 g f p i u j v + (if u ≤ v then pu_tF g f p i u v j else 0) = _
        rw [if_pos huv]
      refine br_f (nI_nlt (by omega) (by omega)) (ys_fits (H := pu_HH g) W hp hiu huv (by omega) hj (by decide) tx mR mZ C.2.1 hbH (fun G => br_f (by decide) (ys_add W hp hiu huv (by omega) hj mR mZ mm hb (fun nc => hE _ u v hiu huv (by omega) G nc) (fun c => ?_))) (fun G => br_t rfl (nm_r (nI_1 v) ?_)))
      · have := ih (v + 1) (by omega) (by omega) (fun v' h1 h2 G' => by
          by_cases c' : v' = v
          · rw [c']; exact c
          · exact hist v' h1 (by omega) G')
        rw [sb, pu_tF_t G, ← Nat.add_assoc] at this
        exact this
      · have := ih (v + 1) (by omega) (by omega) (fun v' h1 h2 G' => by
          by_cases c' : v' = v
          · rw [c'] at G'; exact absurd G' G
          · exact hist v' h1 (by omega) G')
        rw [sb, pu_tF_f G] at this
        exact this
  have K3 : ∀ d u, u + d = j + 1 → i ≤ u → (∀ u' v, i ≤ u' → u' < u → u' ≤ v → v ≤ j → pu_G g p i u' v j → pu_c3 g (pu_ps' f) p i u' v j) → wY_added_3 post (nI p) (nI i) (nI j) (nI (gr_P g)) (nI (gr_L g)) f_goal f_extra f_measured f_known f_more a_left a_size a_right a_text a_ops a_constants a_heights a_many a_chosen a_firstEnd a_secondEnd a_values a_nodes a_far a_productive a_useful a_covers (d + 1) (nI u) (lN (pu_cap (Q + pu_s2 g f p i j u))) := by
    intro d
    induction d with
    | zero =>
      intro u hu hiu hist
      have e : u = j + 1 := by omega
      subst e
      exact br_t (nI_lt (by omega) (by omega)) (hV (fun u' v h1 h2 h3 => hist u' v h1 (by omega) h2 h3))
    | succ d ih =>
      intro u hu hiu hist
      refine br_f (nI_nlt (by omega) (by omega)) ⟨j + 1 - u + 1, ?_⟩
      have Z := K13 (J3 := wY_added_3 post (nI p) (nI i) (nI j) (nI (gr_P g)) (nI (gr_L g)) f_goal f_extra f_measured f_known f_more a_left a_size a_right a_text a_ops a_constants a_heights a_many a_chosen a_firstEnd a_secondEnd a_values a_nodes a_far a_productive a_useful a_covers (d + 1)) u (Q + pu_s2 g f p i j u) hiu (by omega) (fun al => by
        have := ih (u + 1) (by omega) (by omega) (fun u' v h1 h2 h3 h4 G => by
          by_cases c : u' = u
          · rw [c]; rw [c] at G h3; exact al v h3 h4 G
          · exact hist u' v h1 (by omega) h3 h4 G)
        rw [pu_s2_s hiu, ← Nat.add_assoc] at this
        exact this) (j + 1 - u) u (by omega) (Nat.le_refl _) (fun v' h1 h2 => by omega)
      rw [pu_s1_0, Nat.add_zero] at Z
      exact Z
  have Z := K3 (j + 1 - i) i (by omega) (Nat.le_refl _) (fun u' v h1 h2 => by omega)
  rw [pu_s2_0, Nat.add_zero] at Z
  exact ⟨_, Z⟩
def yn_P (g : gr_G) (m0 : Nat) (dn : Nat → Nat → Nat → Prop) (more : Int32) (a : Nat → Int64) : Prop := ∃ f, pu_CI g f ∧ ym_m g a f ∧ ((more = 0 ∧ yn_mu g f ≤ m0 ∧ ∀ n i j, pu_V g n i j → dn n i j → 0 < pu_HH g n i j → f n i j = 0 → ¬ pu_al g (pu_ps' f) n i j) ∨ (more = 1 ∧ yn_mu g f < m0))
theorem yn_P_dn {g : gr_G} {m0 : Nat} {dn dn' : Nat → Nat → Nat → Prop} {more : Int32} {a : Nat → Int64} (l : yn_P g m0 dn more a) (h : ∀ n i j, pu_V g n i j → dn' n i j → dn n i j) : yn_P g m0 dn' more a := by
  obtain ⟨f, h1, h2, ⟨e, mu, h3⟩ | h3⟩ := l
  · exact ⟨f, h1, h2, Or.inl ⟨e, mu, fun n i j hv d => h3 n i j hv (h n i j hv d)⟩⟩
  · exact ⟨f, h1, h2, Or.inr h3⟩
theorem ys_countSpan {post : SY → Prop} {m0 i j : Nat} (W : gr_W g) (hij : i ≤ j) (hj : j ≤ gr_L g) (tx : xm_T g a_text) (mR : xm_R g a_right) (mF : xm_F g a_left) (mZ : ym_Z g a_size) (C : ym_Chart g a_heights) (l : yn_P g m0 (yd_dn i j 0) f_more a_many) (hpost : ∀ (f_more : Int32) (f_sum : Int64) (a_many : Nat → Int64), yn_P g m0 (yd_dn i j 5) f_more a_many → post (nI (gr_P g), nI (gr_L g), f_goal, f_extra, f_measured, f_known, f_more, f_sum, a_left, a_size, a_right, a_text, a_ops, a_constants, a_heights, a_many, a_chosen, a_firstEnd, a_secondEnd, a_values, a_nodes, a_far, a_productive, a_useful, a_covers)) : wpY_countSpan post (nI (gr_P g), nI (gr_L g), f_goal, f_extra, f_measured, f_known, f_more, f_sum, a_left, a_size, a_right, a_text, a_ops, a_constants, a_heights, a_many, a_chosen, a_firstEnd, a_secondEnd, a_values, a_nodes, a_far, a_productive, a_useful, a_covers) (nI i) (nI j) := by
  have hP := W.1
  have K51 : ∀ {J3 : Int32 → Int32 → Int32 → Int32 → Int32 → Int32 → Int32 → Int32 → Int64 → (Nat → Int32) → (Nat → Int32) → (Nat → Int32) → (Nat → Int32) → (Nat → Int32) → (Nat → Int32) → (Nat → Int32) → (Nat → Int64) → (Nat → Int32) → (Nat → Int32) → (Nat → Int32) → (Nat → Int64) → (Nat → Int64) → (Nat → Int32) → (Nat → Int32) → (Nat → Int32) → (Nat → Int32) → Prop} (n : Nat) (f_more : Int32) (a_many : Nat → Int64) (f : pu_C), pu_V g n i j → pu_CI g f → ym_m g a_many f → (¬ pu_al g (pu_ps' f) n i j → ∀ f_sum, J3 (nI (10 + n + 1)) (nI (gr_P g)) (nI (gr_L g)) f_goal f_extra f_measured f_known f_more f_sum a_left a_size a_right a_text a_ops a_constants a_heights a_many a_chosen a_firstEnd a_secondEnd a_values a_nodes a_far a_productive a_useful a_covers) → (pu_al g (pu_ps' f) n i j → ∀ f_sum, J3 (nI (10 + n + 1)) (nI (gr_P g)) (nI (gr_L g)) f_goal f_extra f_measured f_known 1 f_sum a_left a_size a_right a_text a_ops a_constants a_heights (vp_updL a_many (cy n i j) (lN (pu_cap (pu_s3 g f n i j (gr_P g))))) a_chosen a_firstEnd a_secondEnd a_values a_nodes a_far a_productive a_useful a_covers) → ∀ d p, p + d = gr_P g → (∀ q u v, q < p → gr_F g q = n → i ≤ u → u ≤ v → v ≤ j → pu_G g q i u v j → pu_c3 g (pu_ps' f) q i u v j) → wY_countSpan_51 post J3 (nI i) (nI j) (nI (10 + n)) (nI (cy n i j)) (d + 1) 1 (nI p) (nI (gr_P g)) (nI (gr_L g)) f_goal f_extra f_measured f_known f_more (lN (pu_cap (pu_s3 g f n i j p))) a_left a_size a_right a_text a_ops a_constants a_heights a_many a_chosen a_firstEnd a_secondEnd a_values a_nodes a_far a_productive a_useful a_covers := by
    intro J3 n f_more a_many f hv CI mm hE hV d
    have hn5 := hv.1
    have hl := cy_lt W hv
    induction d with
    | zero =>
      intro p hp hist
      have e : p = gr_P g := by omega
      subst e
      exact br_t (nI_le (Nat.le_refl _) (by omega)) (br_f (by decide) ⟨vp_in_nI hl (by decide), nm_r (e' := vp_updL a_many (cy n i j) (lN (pu_cap (pu_s3 g f n i j (gr_P g))))) (by rw [nI_clamp (by omega)]) (nm_r (nI_1 (10 + n)) (hV hist _))⟩)
    | succ d ih =>
      intro p hp hist
      have hp' : p < gr_P g := by omega
      have hF := W.2.2.1 p hp'
      refine br_f (nI_ge (by omega) (by omega)) (br_f (by decide) ⟨vp_in_nI (by omega) (by decide), ?_⟩)
      refine ek_if (d := gr_F g p = n) (by rw [xm_Fp W mF hp', nI_eq (by omega) (by omega)]; omega) (fun c => ?_) (fun c => nm_r (nI_1 p) ?_)
      · refine ys_added (g := g) (f := f) W hp' hij hj tx mR mZ C mm (fun _ _ _ h => pu_CI_le CI h) (fun fs u v h1 h2 h3 G nc => br_t rfl (nm_r (nI_1 p) ?_)) (fun al => br_f (by decide) (nm_r (nI_1 p) ?_))
        · have J := hE (fun al => nc (al p u v hp' c h1 h2 h3 G)) fs
          by_cases z : gr_P g ≤ p + 1
          · exact br_t (nI_le z (by omega)) (br_t rfl (nm_r (nI_1 (10 + n)) J))
          · exact br_f (nI_ge (by omega) (by omega)) (br_t rfl (br_t rfl (nm_r (nI_1 (10 + n)) J)))
        · have Z := ih (p + 1) (by omega) (fun q u v hq h0 h1 h2 h3 G => by
            by_cases cc : q = p
            · rw [cc]; rw [cc] at G; exact al u v h1 h2 h3 G
            · exact hist q u v (by omega) h0 h1 h2 h3 G)
          rw [pu_s3_s c] at Z
          exact Z
      · have Z := ih (p + 1) (by omega) (fun q u v hq h0 h1 h2 h3 G => by
          by_cases cc : q = p
          · rw [cc] at h0; exact absurd h0 c
          · exact hist q u v (by omega) h0 h1 h2 h3 G)
        rw [pu_s3_n c] at Z
        exact Z
  have K3 : ∀ d n, n + d = 5 → ∀ (f_more : Int32) (f_sum : Int64) (a_many : Nat → Int64), yn_P g m0 (yd_dn i j n) f_more a_many → wY_countSpan_3 post (nI i) (nI j) (d + 1) (nI (10 + n)) (nI (gr_P g)) (nI (gr_L g)) f_goal f_extra f_measured f_known f_more f_sum a_left a_size a_right a_text a_ops a_constants a_heights a_many a_chosen a_firstEnd a_secondEnd a_values a_nodes a_far a_productive a_useful a_covers := by
    intro d
    induction d with
    | zero =>
      intro n hn f_more f_sum a_many l
      have e : n = 5 := by omega
      subst e
      exact br_t (nI_le (a := 15) (b := 15) (by decide) (by decide)) (hpost _ _ _ l)
    | succ d ih =>
      intro n hn f_more f_sum a_many l
      have hv : pu_V g n i j := ⟨by omega, hij, hj⟩
      have hl := cy_lt W hv
      have hin : vp_in (nI (cy n i j)) 980 := vp_in_nI hl (by decide)
      have ec : (nI (cy n i j)).toNatClampNeg = cy n i j := nI_clamp (by omega)
      obtain ⟨f, CI, mm, fl⟩ := l
      have hb := (C.1 _ _ _ hv).2.2
      have fb := pu_CI_le CI hv
      have skip : (0 < pu_HH g n i j → f n i j = 0 → ¬ pu_al g (pu_ps' f) n i j) → yn_P g m0 (yd_dn i j (n + 1)) f_more a_many := by
        intro sk
        refine ⟨f, CI, mm, ?_⟩
        obtain ⟨e, mu, h3⟩ | h3 := fl
        · refine Or.inl ⟨e, mu, fun n' i' j' hv' q h0 f0 => ?_⟩
          by_cases z : n' = n ∧ i' = i ∧ j' = j
          · obtain ⟨rfl, rfl, rfl⟩ := z; exact sk h0 f0
          · exact h3 n' i' j' hv' (by unfold yd_dn at *; omega) h0 f0
        · exact Or.inr h3
      refine br_f (nI_ge (b := 15) (by omega) (by decide)) (ys_cell n i j rfl rfl rfl ⟨hin, ?_⟩)
      rw [ec, C.2.1 _ _ _ hv]
      refine pk_le (pu_HH g n i j) 0 (fun z => nm_r (nI_1 (10 + n)) (ih (n + 1) (by omega) _ _ _ (skip (fun h0 => by omega)))) (fun z => ⟨hin, ?_⟩)
      rw [mm _ _ _ hv]
      refine ek_if (d := f n i j = 0) (pk_lEQ (b := 0) (by omega) (by decide)) (fun f0 => ⟨gr_P g + 1, ?_⟩) (fun f0 => nm_r (nI_1 (10 + n)) (ih (n + 1) (by omega) _ _ _ (skip (fun _ q => absurd q f0))))
      refine K51 n f_more a_many f hv CI mm (fun na fs => ih (n + 1) (by omega) _ _ _ (skip (fun _ _ => na))) (fun al fs => ih (n + 1) (by omega) 1 _ _ ⟨_, (pu_CI_up W CI hv z f0 al).1, ym_m_up W mm hv _, Or.inr ⟨rfl, ?_⟩⟩) (gr_P g) 0 (by omega) (fun q u v hq => by omega)
      obtain ⟨p, u, v, hp, hn', h1, h2, h3, G⟩ := pu_tree W C.1 hv z
      have pos : 0 < pu_cap (pu_s3 g f n i j (gr_P g)) := pu_cap_pos (pu_s3_pos hp hn' h1 h2 h3 G (al p u v hp hn' h1 h2 h3 G))
      have := yn_mu_up W hv f0 pos
      obtain ⟨_, mu, _⟩ | ⟨_, mu⟩ := fl <;> omega
  exact ⟨5 + 1, K3 5 0 rfl _ _ _ l⟩
def ym_Cts (g : gr_G) (a : Nat → Int64) : Prop := pu_CS g (pu_CC g) ∧ ym_m g a (pu_CC g)
theorem ys_count {post : SY → Prop} (W : gr_W g) (tx : xm_T g a_text) (mR : xm_R g a_right) (mF : xm_F g a_left) (mZ : ym_Z g a_size) (C : ym_Chart g a_heights) (hpost : ∀ (f_more : Int32) (f_sum : Int64) (a_many : Nat → Int64), ym_Cts g a_many → post (nI (gr_P g), nI (gr_L g), f_goal, f_extra, f_measured, f_known, f_more, f_sum, a_left, a_size, a_right, a_text, a_ops, a_constants, a_heights, a_many, a_chosen, a_firstEnd, a_secondEnd, a_values, a_nodes, a_far, a_productive, a_useful, a_covers)) : wpY_count post (nI (gr_P g), nI (gr_L g), f_goal, f_extra, f_measured, f_known, f_more, f_sum, a_left, a_size, a_right, a_text, a_ops, a_constants, a_heights, a_many, a_chosen, a_firstEnd, a_secondEnd, a_values, a_nodes, a_far, a_productive, a_useful, a_covers) := by
  have hL := W.2.1
  have K51 : ∀ {J27 : Int32 → Int32 → Int32 → Int32 → Int32 → Int32 → Int32 → Int64 → (Nat → Int32) → (Nat → Int32) → (Nat → Int32) → (Nat → Int32) → (Nat → Int32) → (Nat → Int32) → (Nat → Int32) → (Nat → Int64) → (Nat → Int32) → (Nat → Int32) → (Nat → Int32) → (Nat → Int64) → (Nat → Int64) → (Nat → Int32) → (Nat → Int32) → (Nat → Int32) → (Nat → Int32) → Prop} {J41 : Int32 → Int32 → Int32 → Int32 → Int32 → Int32 → Int32 → Int32 → Int64 → (Nat → Int32) → (Nat → Int32) → (Nat → Int32) → (Nat → Int32) → (Nat → Int32) → (Nat → Int32) → (Nat → Int32) → (Nat → Int64) → (Nat → Int32) → (Nat → Int32) → (Nat → Int32) → (Nat → Int64) → (Nat → Int64) → (Nat → Int32) → (Nat → Int32) → (Nat → Int32) → (Nat → Int32) → Prop} (m0 i : Nat), i ≤ gr_L g → (∀ (f_more : Int32) (f_sum : Int64) (a_many : Nat → Int64), yn_P g m0 (yd_dn (i + 1) (i + 1) 0) f_more a_many → J41 (nI (i + 1)) (nI (gr_P g)) (nI (gr_L g)) f_goal f_extra f_measured f_known f_more f_sum a_left a_size a_right a_text a_ops a_constants a_heights a_many a_chosen a_firstEnd a_secondEnd a_values a_nodes a_far a_productive a_useful a_covers) → ∀ d j, j + d = gr_L g + 1 → i ≤ j → ∀ (f_more : Int32) (f_sum : Int64) (a_many : Nat → Int64), yn_P g m0 (yd_dn i j 0) f_more a_many → wY_count_51 post J27 J41 (nI i) (d + 1) (nI j) (nI (gr_P g)) (nI (gr_L g)) f_goal f_extra f_measured f_known f_more f_sum a_left a_size a_right a_text a_ops a_constants a_heights a_many a_chosen a_firstEnd a_secondEnd a_values a_nodes a_far a_productive a_useful a_covers := by
    intro J27 J41 m0 i hi hJ d
    induction d with
    | zero =>
      intro j hj hij f_more f_sum a_many l
      refine br_t (nI_lt (by omega) (by omega)) (nm_r (nI_1 i) (hJ _ _ _ (yn_P_dn l (fun n' i' j' hv q => ?_))))
      unfold pu_V at hv; unfold yd_dn at *; omega
    | succ d ih =>
      intro j hj hij f_more f_sum a_many l
      refine br_f (nI_nlt (by omega) (by omega)) (ys_countSpan (g := g) W hij (by omega) tx mR mF mZ C l (fun f_more f_sum a_many l' => nm_r (nI_1 j) (ih (j + 1) (by omega) (by omega) _ _ _ (yn_P_dn l' (fun n' i' j' hv q => ?_)))))
      unfold pu_V at hv; unfold yd_dn at *; omega
  have K41 : ∀ {J27 : Int32 → Int32 → Int32 → Int32 → Int32 → Int32 → Int32 → Int64 → (Nat → Int32) → (Nat → Int32) → (Nat → Int32) → (Nat → Int32) → (Nat → Int32) → (Nat → Int32) → (Nat → Int32) → (Nat → Int64) → (Nat → Int32) → (Nat → Int32) → (Nat → Int32) → (Nat → Int64) → (Nat → Int64) → (Nat → Int32) → (Nat → Int32) → (Nat → Int32) → (Nat → Int32) → Prop} (m0 : Nat), (∀ (f_more : Int32) (f_sum : Int64) (a_many : Nat → Int64), yn_P g m0 (fun _ _ _ => True) f_more a_many → J27 (nI (gr_P g)) (nI (gr_L g)) f_goal f_extra f_measured f_known f_more f_sum a_left a_size a_right a_text a_ops a_constants a_heights a_many a_chosen a_firstEnd a_secondEnd a_values a_nodes a_far a_productive a_useful a_covers) → ∀ d i, i + d = gr_L g + 1 → ∀ (f_more : Int32) (f_sum : Int64) (a_many : Nat → Int64), yn_P g m0 (yd_dn i i 0) f_more a_many → wY_count_41 post J27 (d + 1) (nI i) (nI (gr_P g)) (nI (gr_L g)) f_goal f_extra f_measured f_known f_more f_sum a_left a_size a_right a_text a_ops a_constants a_heights a_many a_chosen a_firstEnd a_secondEnd a_values a_nodes a_far a_productive a_useful a_covers := by
    intro J27 m0 hJ d
    induction d with
    | zero =>
      intro i hi f_more f_sum a_many l
      refine br_t (nI_lt (by omega) (by omega)) (hJ _ _ _ (yn_P_dn l (fun n' i' j' hv q => ?_)))
      unfold pu_V at hv; unfold yd_dn at *; omega
    | succ d ih =>
      intro i hi f_more f_sum a_many l
      exact br_f (nI_nlt (by omega) (by omega)) ⟨d + 1 + 1, K51 m0 i (by omega) (fun f_more f_sum a_many l' => ih (i + 1) (by omega) _ _ _ l') (d + 1) i (by omega) (Nat.le_refl _) _ _ _ l⟩
  have F : ∀ n (f_sum : Int64) (a_many : Nat → Int64) f, pu_CI g f → ym_m g a_many f → pu_ccl g (pu_ps' f) → wY_count_27 post (n + 1) (nI (gr_P g)) (nI (gr_L g)) f_goal f_extra f_measured f_known 0 f_sum a_left a_size a_right a_text a_ops a_constants a_heights a_many a_chosen a_firstEnd a_secondEnd a_values a_nodes a_far a_productive a_useful a_covers := by
    intro n f_sum a_many f CI mm cl
    exact br_t rfl (hpost _ _ _ ⟨pu_CC_s ⟨CI, cl⟩, fun n i j hv => by rw [mm n i j hv, pu_CC_e W ⟨CI, cl⟩ hv]⟩)
  have K27 : ∀ d (f_sum : Int64) (a_many : Nat → Int64) f, pu_CI g f → ym_m g a_many f → yn_mu g f ≤ d → wY_count_27 post (d + 1 + 1) (nI (gr_P g)) (nI (gr_L g)) f_goal f_extra f_measured f_known 1 f_sum a_left a_size a_right a_text a_ops a_constants a_heights a_many a_chosen a_firstEnd a_secondEnd a_values a_nodes a_far a_productive a_useful a_covers := by
    intro d
    induction d with
    | zero =>
      intro f_sum a_many f CI mm mu
      refine br_f (by decide) ⟨gr_L g + 1 + 1, K41 (yn_mu g f) (fun f_more f_sum a_many l => ?_) (gr_L g + 1) 0 (by omega) 0 f_sum a_many ⟨f, CI, mm, Or.inl ⟨rfl, Nat.le_refl _, fun n i j hv q => by unfold yd_dn at q; omega⟩⟩⟩
      obtain ⟨f', CI', mm', ⟨rfl, mu', h3⟩ | ⟨rfl, mu'⟩⟩ := l
      · refine F _ _ _ f' CI' mm' (fun n i j hv h0 al => ?_)
        by_cases c : f' n i j = 0
        · exact absurd al (h3 n i j hv trivial h0 c)
        · show 0 < f' n i j
          omega
      · omega
    | succ d ih =>
      intro f_sum a_many f CI mm mu
      refine br_f (by decide) ⟨gr_L g + 1 + 1, K41 (yn_mu g f) (fun f_more f_sum a_many l => ?_) (gr_L g + 1) 0 (by omega) 0 f_sum a_many ⟨f, CI, mm, Or.inl ⟨rfl, Nat.le_refl _, fun n i j hv q => by unfold yd_dn at q; omega⟩⟩⟩
      obtain ⟨f', CI', mm', ⟨rfl, mu', h3⟩ | ⟨rfl, mu'⟩⟩ := l
      · refine F _ _ _ f' CI' mm' (fun n i j hv h0 al => ?_)
        by_cases c : f' n i j = 0
        · exact absurd al (h3 n i j hv trivial h0 c)
        · show 0 < f' n i j
          omega
      · exact ih _ _ f' CI' mm' (by omega)
  have K2 : ∀ d x, x + d = 980 → ∀ (a_many : Nat → Int64), (∀ y, y < x → a_many y = 0) → wY_count_2 post (nI (gr_P g)) (nI (gr_L g)) f_goal f_extra f_measured f_known f_more f_sum (d + 1) (nI x) a_left a_size a_right a_text a_ops a_constants a_heights a_many a_chosen a_firstEnd a_secondEnd a_values a_nodes a_far a_productive a_useful a_covers := by
    intro d
    induction d with
    | zero =>
      intro x hx a_many hz
      have e : x = 980 := by omega
      subst e
      exact br_t (nI_le (a := 980) (b := 980) (by decide) (by decide)) ⟨_, K27 605 _ _ (fun _ _ _ => 0) ⟨fun _ _ _ _ _ => rfl, fun n i j hv h => absurd h (Nat.lt_irrefl 0), fun Q cl n i j hv h => absurd h (Nat.lt_irrefl 0)⟩ (fun n i j hv => hz _ (cy_lt W hv)) (pu_cnt_le _ _)⟩
    | succ d ih =>
      intro x hx a_many hz
      refine br_f (nI_ge (b := 980) (by omega) (by decide)) ⟨vp_in_nI (by omega) (by decide), nm_r (e' := vp_updL a_many x 0) (by rw [nI_clamp (by omega)]) (nm_r (nI_1 x) (ih (x + 1) (by omega) _ (fun y hy => ?_)))⟩
      by_cases c : y = x
      · rw [c, pk_uLs]
      · rw [pk_uLn c]; exact hz y (by omega)
  exact ⟨980 + 1, K2 980 0 rfl _ (fun y hy => absurd hy (by omega))⟩
end
end
section
/-! the reference: the chosen tree -/
theorem pd_mx {Q : Nat → Prop} {N k : Nat} (hk : k ≤ N) (q : Q k) : ∃ m, m ≤ N ∧ Q m ∧ ∀ k, k ≤ N → Q k → k ≤ m := by
  obtain ⟨m, h1, h2, h3⟩ := pd_max Q N
  have a := h2 k hk q
  refine ⟨m, h1, ?_, h2⟩
  obtain e | h3 := h3
  · have : k = m := by omega
    rw [← this]; exact q
  · exact h3
theorem pu_CHX_of {g : gr_G} (W : gr_W g) (S : pu_HS g (pu_HH g)) : pu_CHX g := by
  intro n i j hv h0
  obtain ⟨h, eh⟩ : ∃ h, pu_HH g n i j = h + 1 := ⟨pu_HH g n i j - 1, by omega⟩
  obtain ⟨_, p, u, v, hp, hn, a, b, c, F⟩ := ((S n i j hv).2.1 h eh).1
  rw [← eh] at F
  obtain ⟨p1, ⟨hp1, hn1, u1, v1, a1, b1, c1, F1⟩, least⟩ := pk_least (fun p => p < gr_P g ∧ gr_F g p = n ∧ ∃ u v, i ≤ u ∧ u ≤ v ∧ v ≤ j ∧ pu_F g (pu_HH g) p i u v j (pu_HH g n i j)) ⟨p, hp, hn, u, v, a, b, c, F⟩
  obtain ⟨u2, _, ⟨v2, a2, b2, c2, F2⟩, mu⟩ := pd_mx (Q := fun u => ∃ v, i ≤ u ∧ u ≤ v ∧ v ≤ j ∧ pu_F g (pu_HH g) p1 i u v j (pu_HH g n i j)) (N := j) (show u1 ≤ j by omega) ⟨v1, a1, b1, c1, F1⟩
  obtain ⟨v3, _, ⟨b3, c3, F3⟩, mv⟩ := pd_mx (Q := fun v => u2 ≤ v ∧ v ≤ j ∧ pu_F g (pu_HH g) p1 i u2 v j (pu_HH g n i j)) (N := j) c2 ⟨b2, c2, F2⟩
  have ch : pu_Ch g (pu_HH g) n i j p1 u2 v3 := by
    refine ⟨hp1, hn1, a2, b3, c3, F3, fun p' u' v' q1 q2 q3 q4 q5 q6 => least p' q1 ⟨by omega, q2, u', v', q3, q4, q5, q6⟩, fun u' v' q3 q4 q5 q7 q6 => ?_⟩
    have m1 := mu u' (by omega) ⟨v', q3, q4, q5, q6⟩
    by_cases e : u' = u2
    · subst e
      have m2 := mv v' q5 ⟨q4, q5, q6⟩
      omega
    · omega
  rw [pu_ch_s ch]; exact ch
def yb_dn (u v : Nat) : Nat → Nat → Prop := fun u' v' => u' < u ∨ (u' = u ∧ v' < v)
def yb_L (g : gr_G) (H : pu_C) (p i j h c : Nat) (dn : Nat → Nat → Prop) (ch0 fe0 se0 ch fe se : Nat → Int32) : Prop := (∀ x, x ≠ c → ch x = ch0 x ∧ fe x = fe0 x ∧ se x = se0 x) ∧ ((ch c = ch0 c ∧ fe c = fe0 c ∧ se c = se0 c ∧ ∀ u v, i ≤ u → u ≤ v → v ≤ j → dn u v → ¬ pu_F g H p i u v j h) ∨ (∃ u v, i ≤ u ∧ u ≤ v ∧ v ≤ j ∧ dn u v ∧ pu_F g H p i u v j h ∧ ch c = nI p ∧ fe c = nI u ∧ se c = nI v ∧ ∀ u' v', i ≤ u' → u' ≤ v' → v' ≤ j → dn u' v' → (u < u' ∨ (u = u' ∧ v < v')) → ¬ pu_F g H p i u' v' j h))
theorem yb_L_dn {g : gr_G} {H : pu_C} {p i j h c : Nat} {dn dn' : Nat → Nat → Prop} {ch0 fe0 se0 ch fe se : Nat → Int32} (l : yb_L g H p i j h c dn ch0 fe0 se0 ch fe se) (h1 : ∀ u v, i ≤ u → u ≤ v → v ≤ j → (dn' u v ↔ dn u v)) : yb_L g H p i j h c dn' ch0 fe0 se0 ch fe se := by
  obtain ⟨a, ⟨b1, b2, b3, b4⟩ | ⟨u, v, q1, q2, q3, q4, q5, q6, q7, q8, q9⟩⟩ := l
  · exact ⟨a, Or.inl ⟨b1, b2, b3, fun u v x y z d => b4 u v x y z ((h1 u v x y z).mp d)⟩⟩
  · exact ⟨a, Or.inr ⟨u, v, q1, q2, q3, (h1 u v q1 q2 q3).mpr q4, q5, q6, q7, q8, fun u' v' x y z d => q9 u' v' x y z ((h1 u' v' x y z).mp d)⟩⟩
theorem yb_b' : ∀ p : Fin 64, vp_nar .byte (nI p.val).toInt8.toInt32 = nI p.val := by
  intro p
  rw [pk_vb]
  revert p
  decide +kernel
theorem yb_b {p : Nat} (h : p < 64) : vp_nar .byte (nI p).toInt8.toInt32 = nI p := yb_b' ⟨p, h⟩
section
variable {g : gr_G} {f_goal f_extra f_measured f_known f_more : Int32} {f_sum : Int64} {a_left a_size a_right a_text a_ops a_constants a_heights : Nat → Int32} {a_many : Nat → Int64} {a_chosen a_firstEnd a_secondEnd : Nat → Int32} {a_values a_nodes : Nat → Int64} {a_far a_productive a_useful a_covers : Nat → Int32}
theorem ys_chooseBy {post : SY → Prop} {H : pu_C} {p n i j h : Nat} (W : gr_W g) (hp : p < gr_P g) (hv : pu_V g n i j) (hh : h ≤ 1000) (tx : xm_T g a_text) (mR : xm_R g a_right) (mZ : ym_Z g a_size) (mH : ym_H g a_heights H) (hb : ∀ n i j, pu_V g n i j → H n i j ≤ 1000)
    (hpost : ∀ (ch fe se : Nat → Int32), yb_L g H p i j h (cy n i j) (fun _ _ => True) a_chosen a_firstEnd a_secondEnd ch fe se → post (nI (gr_P g), nI (gr_L g), f_goal, f_extra, f_measured, f_known, f_more, f_sum, a_left, a_size, a_right, a_text, a_ops, a_constants, a_heights, a_many, ch, fe, se, a_values, a_nodes, a_far, a_productive, a_useful, a_covers)) : wpY_chooseBy post (nI (gr_P g), nI (gr_L g), f_goal, f_extra, f_measured, f_known, f_more, f_sum, a_left, a_size, a_right, a_text, a_ops, a_constants, a_heights, a_many, a_chosen, a_firstEnd, a_secondEnd, a_values, a_nodes, a_far, a_productive, a_useful, a_covers) (nI p) (nI (cy n i j)) (nI i) (nI j) (nI h) := by
  have hL := W.2.1
  have hP := W.1
  have hl := cy_lt W hv
  have hin : vp_in (nI (cy n i j)) 980 := vp_in_nI hl (by decide)
  have ec : (nI (cy n i j)).toNatClampNeg = cy n i j := nI_clamp (by omega)
  have hij := hv.2.1
  have hj := hv.2.2
  have K14 : ∀ {J3 : Int32 → (Nat → Int32) → (Nat → Int32) → (Nat → Int32) → (Nat → Int32) → (Nat → Int32) → (Nat → Int32) → (Nat → Int32) → (Nat → Int64) → (Nat → Int32) → (Nat → Int32) → (Nat → Int32) → (Nat → Int64) → (Nat → Int64) → (Nat → Int32) → (Nat → Int32) → (Nat → Int32) → (Nat → Int32) → Prop} (u : Nat), i ≤ u → u ≤ j → (∀ (ch fe se : Nat → Int32), yb_L g H p i j h (cy n i j) (yb_dn (u + 1) 0) a_chosen a_firstEnd a_secondEnd ch fe se → J3 (nI (u + 1)) a_left a_size a_right a_text a_ops a_constants a_heights a_many ch fe se a_values a_nodes a_far a_productive a_useful a_covers) → ∀ d v, v + d = j + 1 → u ≤ v → ∀ (ch fe se : Nat → Int32), yb_L g H p i j h (cy n i j) (yb_dn u v) a_chosen a_firstEnd a_secondEnd ch fe se → wY_chooseBy_14 post J3 (nI p) (nI (cy n i j)) (nI i) (nI j) (nI h) (nI u) (nI (gr_P g)) (nI (gr_L g)) f_goal f_extra f_measured f_known f_more f_sum (d + 1) (nI v) a_left a_size a_right a_text a_ops a_constants a_heights a_many ch fe se a_values a_nodes a_far a_productive a_useful a_covers := by
    intro J3 u hiu huj hJ d
    induction d with
    | zero =>
      intro v hvd huv ch fe se l
      refine br_t (nI_lt (by omega) (by omega)) (nm_r (nI_1 u) (hJ _ _ _ (yb_L_dn l (fun u' v' h1 h2 h3 => ?_))))
      unfold yb_dn; omega
    | succ d ih =>
      intro v hvd huv ch fe se l
      refine br_f (nI_nlt (by omega) (by omega)) (ys_fits (H := H) W hp hiu huv (by omega) hj hh tx mR mZ mH hb (fun f => br_f (by decide) ⟨hin, nm_r (e' := upd ch (cy n i j) (nI p)) (by rw [ec, yb_b (by omega)]) ⟨hin, nm_r (e' := upd fe (cy n i j) (nI u)) (by rw [ec, yb_b (by omega)]) ⟨hin, nm_r (e' := upd se (cy n i j) (nI v)) (by rw [ec, yb_b (by omega)]) (nm_r (nI_1 v) (ih (v + 1) (by omega) (by omega) _ _ _ ⟨fun x hx => ?_, Or.inr ⟨u, v, hiu, huv, by omega, Or.inr ⟨rfl, by omega⟩, f, pk_us, pk_us, pk_us, fun u' v' h1 h2 h3 h4 h5 => ?_⟩⟩))⟩⟩⟩) (fun f => br_t rfl (nm_r (nI_1 v) (ih (v + 1) (by omega) (by omega) _ _ _ ?_))))
      · rw [pk_un hx, pk_un hx, pk_un hx]; exact l.1 x hx
      · unfold yb_dn at h4; omega
      · obtain ⟨a, ⟨b1, b2, b3, b4⟩ | ⟨u0, v0, q1, q2, q3, q4, q5, q6, q7, q8, q9⟩⟩ := l
        · refine ⟨a, Or.inl ⟨b1, b2, b3, fun u' v' x y z d => ?_⟩⟩
          by_cases e : u' = u ∧ v' = v
          · rw [e.1, e.2]; exact f
          · exact b4 u' v' x y z (by unfold yb_dn at *; omega)
        · refine ⟨a, Or.inr ⟨u0, v0, q1, q2, q3, by unfold yb_dn at *; omega, q5, q6, q7, q8, fun u' v' x y z d => ?_⟩⟩
          by_cases e : u' = u ∧ v' = v
          · rw [e.1, e.2]; exact fun _ => f
          · exact q9 u' v' x y z (by unfold yb_dn at *; omega)
  have K3 : ∀ d u, u + d = j + 1 → i ≤ u → ∀ (ch fe se : Nat → Int32), yb_L g H p i j h (cy n i j) (yb_dn u 0) a_chosen a_firstEnd a_secondEnd ch fe se → wY_chooseBy_3 post (nI p) (nI (cy n i j)) (nI i) (nI j) (nI h) (nI (gr_P g)) (nI (gr_L g)) f_goal f_extra f_measured f_known f_more f_sum (d + 1) (nI u) a_left a_size a_right a_text a_ops a_constants a_heights a_many ch fe se a_values a_nodes a_far a_productive a_useful a_covers := by
    intro d
    induction d with
    | zero =>
      intro u hu hiu ch fe se l
      refine br_t (nI_lt (by omega) (by omega)) (hpost _ _ _ (yb_L_dn l (fun u' v' h1 h2 h3 => ⟨fun _ => ?_, fun _ => trivial⟩)))
      unfold yb_dn; omega
    | succ d ih =>
      intro u hu hiu ch fe se l
      refine br_f (nI_nlt (by omega) (by omega)) ⟨j + 1 - u + 1, K14 u hiu (by omega) (fun ch fe se l' => ih (u + 1) (by omega) (by omega) _ _ _ l') (j + 1 - u) u (by omega) (Nat.le_refl _) _ _ _ (yb_L_dn l (fun u' v' h1 h2 h3 => ?_))⟩
      unfold yb_dn; omega
  exact ⟨j + 1 - i + 1, K3 (j + 1 - i) i (by omega) (Nat.le_refl _) _ _ _ ⟨fun x _ => ⟨rfl, rfl, rfl⟩, Or.inl ⟨rfl, rfl, rfl, fun u v h1 h2 h3 d => by unfold yb_dn at d; omega⟩⟩⟩
def yb_C (g : gr_G) (H : pu_C) (n i j h c p : Nat) (ch0 fe0 se0 ch fe se : Nat → Int32) : Prop := (∀ x, x ≠ c → ch x = ch0 x ∧ fe x = fe0 x ∧ se x = se0 x) ∧ ((∀ q, p ≤ q → q < gr_P g → gr_F g q = n → ∀ u v, i ≤ u → u ≤ v → v ≤ j → ¬ pu_F g H q i u v j h) ∨ (∃ q u v, p ≤ q ∧ q < gr_P g ∧ gr_F g q = n ∧ i ≤ u ∧ u ≤ v ∧ v ≤ j ∧ pu_F g H q i u v j h ∧ ch c = nI q ∧ fe c = nI u ∧ se c = nI v ∧ (∀ u' v', i ≤ u' → u' ≤ v' → v' ≤ j → (u < u' ∨ (u = u' ∧ v < v')) → ¬ pu_F g H q i u' v' j h) ∧ (∀ q', p ≤ q' → q' < q → gr_F g q' = n → ∀ u v, i ≤ u → u ≤ v → v ≤ j → ¬ pu_F g H q' i u v j h)))
theorem yb_step {g : gr_G} {H : pu_C} {n i j h c p : Nat} {ch0 fe0 se0 ch fe se ch' fe' se' : Nat → Int32} (hp : p < gr_P g) (hn : gr_F g p = n) (C : yb_C g H n i j h c (p + 1) ch0 fe0 se0 ch fe se) (l : yb_L g H p i j h c (fun _ _ => True) ch fe se ch' fe' se') : yb_C g H n i j h c p ch0 fe0 se0 ch' fe' se' := by
  obtain ⟨a, b⟩ := C
  obtain ⟨a', b'⟩ := l
  refine ⟨fun x hx => ?_, ?_⟩
  · obtain ⟨e1, e2, e3⟩ := a x hx
    obtain ⟨f1, f2, f3⟩ := a' x hx
    exact ⟨f1.trans e1, f2.trans e2, f3.trans e3⟩
  · obtain ⟨b1, b2, b3, b4⟩ | ⟨u, v, q1, q2, q3, _, q5, q6, q7, q8, q9⟩ := b'
    · obtain b | ⟨q, u, v, r1, r2, r3, r4, r5, r6, r7, r8, r9, r10, r11, r12⟩ := b
      · refine Or.inl (fun q h1 h2 h3 u v x y z => ?_)
        by_cases e : q = p
        · rw [e]; exact b4 u v x y z trivial
        · exact b q (by omega) h2 h3 u v x y z
      · refine Or.inr ⟨q, u, v, by omega, r2, r3, r4, r5, r6, r7, b1.trans r8, b2.trans r9, b3.trans r10, r11, fun q' h1 h2 h3 u v x y z => ?_⟩
        by_cases e : q' = p
        · rw [e]; exact b4 u v x y z trivial
        · exact r12 q' (by omega) h2 h3 u v x y z
    · exact Or.inr ⟨p, u, v, Nat.le_refl _, hp, hn, q1, q2, q3, q5, q6, q7, q8, fun u' v' x y z w => q9 u' v' x y z trivial w, fun q' h1 h2 => by omega⟩
theorem yb_skip {g : gr_G} {H : pu_C} {n i j h c p : Nat} {ch0 fe0 se0 ch fe se : Nat → Int32} (hn : gr_F g p ≠ n) (C : yb_C g H n i j h c (p + 1) ch0 fe0 se0 ch fe se) : yb_C g H n i j h c p ch0 fe0 se0 ch fe se := by
  obtain ⟨a, b | ⟨q, u, v, r1, r2, r3, r4, r5, r6, r7, r8, r9, r10, r11, r12⟩⟩ := C
  · refine ⟨a, Or.inl (fun q h1 h2 h3 => ?_)⟩
    by_cases e : q = p
    · rw [e] at h3; exact absurd h3 hn
    · exact b q (by omega) h2 h3
  · refine ⟨a, Or.inr ⟨q, u, v, by omega, r2, r3, r4, r5, r6, r7, r8, r9, r10, r11, fun q' h1 h2 h3 => ?_⟩⟩
    by_cases e : q' = p
    · rw [e] at h3; exact absurd h3 hn
    · exact r12 q' (by omega) h2 h3
/-- at the end the arrays hold the chosen tree -/
theorem yb_end {g : gr_G} {n i j : Nat} {ch0 fe0 se0 ch fe se : Nat → Int32} (W : gr_W g) (S : pu_HS g (pu_HH g)) (hv : pu_V g n i j) (h0 : 0 < pu_HH g n i j) (C : yb_C g (pu_HH g) n i j (pu_HH g n i j) (cy n i j) 0 ch0 fe0 se0 ch fe se) : ch (cy n i j) = nI (pu_ch g n i j).1 ∧ fe (cy n i j) = nI (pu_ch g n i j).2.1 ∧ se (cy n i j) = nI (pu_ch g n i j).2.2 := by
  obtain ⟨_, b | ⟨q, u, v, _, r2, r3, r4, r5, r6, r7, r8, r9, r10, r11, r12⟩⟩ := C
  · obtain ⟨c1, c2, c3, c4, c5, c6, _⟩ := pu_CHX_of W S n i j hv h0
    exact absurd c6 (b _ (Nat.zero_le _) c1 c2 _ _ c3 c4 c5)
  · have ch : pu_Ch g (pu_HH g) n i j q u v := ⟨r2, r3, r4, r5, r6, r7, fun p' u' v' h1 h2 h3 h4 h5 => r12 p' (Nat.zero_le _) h1 h2 u' v' h3 h4 h5, r11⟩
    rw [pu_ch_s ch]
    exact ⟨r8, r9, r10⟩
end
end
section
/-! the reference: values and sizes of the chosen tree -/
theorem ev_fold_s (f : Int64 → Int64 → Int64) (x : Nat → Int64) : ∀ d a s, ev_fold f x (d + 1) a s = f (ev_fold f x d a s) (x (a + d)) := by
  intro d
  induction d with
  | zero => intro a s; rfl
  | succ d ih =>
    intro a s
    have e := ih (a + 1) (f s (x a))
    rw [show a + 1 + d = a + (d + 1) by omega] at e
    exact e
theorem ev_add (x : Nat → Int64) : ∀ d a s t, ev_fold (fun s y => s + y) x d a (s + t) = s + ev_fold (fun s y => s + y) x d a t := by
  intro d
  induction d with
  | zero => intro a s t; rfl
  | succ d ih =>
    intro a s t
    rw [ev_fold_s, ev_fold_s, ih, Int64.add_assoc]
theorem ev_mul (x : Nat → Int64) : ∀ d a s t, ev_fold (fun s y => s * y) x d a (s * t) = s * ev_fold (fun s y => s * y) x d a t := by
  intro d
  induction d with
  | zero => intro a s t; rfl
  | succ d ih =>
    intro a s t
    rw [ev_fold_s, ev_fold_s, ih, Int64.mul_assoc]
theorem ev_dg (x : Nat → Int64) (d a : Nat) (s : Int64) : ev_fold (fun s y => s * 10 + y) x d a s = ev_fold (fun s y => 10 * s + y) x d a s := by
  have : (fun (s y : Int64) => s * 10 + y) = (fun s y => 10 * s + y) := by
    funext s y; rw [Int64.mul_comm]
  rw [this]
theorem ev_tail (x : Nat → Int64) (k : Nat) : ev_fold (fun s y => s + y) x (k + 1) 0 0 - x 0 = ev_fold (fun s y => s + y) x k 1 0 := by
  have e : ev_fold (fun s y => s + y) x (k + 1) 0 0 = x 0 + ev_fold (fun s y => s + y) x k 1 0 := by
    rw [← ev_add]
    show ev_fold (fun s y => s + y) x k (0 + 1) (0 + x 0) = _
    rw [Int64.add_comm 0 (x 0)]
  rw [e]
  generalize ev_fold (fun s y => s + y) x k 1 0 = z
  rw [Int64.add_comm, Int64.add_sub_cancel]
def pu_c2 (x : Nat) : Nat := if x < 2000000000 then x else 2000000000
theorem pu_c2_le (x : Nat) : pu_c2 x ≤ 2000000000 := by unfold pu_c2; split <;> omega
theorem pu_c2_add (a b : Nat) : pu_c2 (pu_c2 a + pu_c2 b) = pu_c2 (a + b) := by unfold pu_c2; (repeat' split) <;> omega
theorem pu_sum_k {g : gr_G} {n i j : Nat} (W : gr_W g) (X : pu_CHX g) (hv : pu_V g n i j) (h0 : 0 < pu_HH g n i j) : 1 + pu_sum (pu_pz g (pu_SZ g) n i j) (pu_k g (pu_cp g n i j)) = pu_SZ g n i j := by
  have hp : pu_cp g n i j < gr_P g := (pu_part W X hv h0 (m := 0) (by decide)).1
  rw [pu_SZ_eq W X hv h0]
  have z : ∀ m, pu_s g n i j m = 99 → pu_pz g (pu_SZ g) n i j m = 0 := fun m e => pu_pz_f (fun q => by unfold pu_nt at q; omega)
  obtain ⟨ek, r0, r1, r2⟩ | ⟨ek, r0, r1, r2⟩ | ⟨ek, r0, r1, r2⟩ | ⟨ek, r0, r1, r2⟩ := pu_k_c W hp
  · rw [ek, z 0 r0, z 1 r1, z 2 r2]; rfl
  · rw [ek, z 1 r1, z 2 r2]
    show 1 + (0 + pu_pz g (pu_SZ g) n i j 0) = _
    omega
  · rw [ek, z 2 r2]
    show 1 + (0 + pu_pz g (pu_SZ g) n i j 0 + pu_pz g (pu_SZ g) n i j 1) = _
    omega
  · rw [ek]
    show 1 + (0 + pu_pz g (pu_SZ g) n i j 0 + pu_pz g (pu_SZ g) n i j 1 + pu_pz g (pu_SZ g) n i j 2) = _
    omega
section
variable {g : gr_G} {f_goal f_extra f_measured f_known f_more : Int32} {f_sum : Int64} {a_left a_size a_right a_text a_ops a_constants a_heights : Nat → Int32} {a_many : Nat → Int64} {a_chosen a_firstEnd a_secondEnd : Nat → Int32} {a_values a_nodes : Nat → Int64} {a_far a_productive a_useful a_covers : Nat → Int32}
theorem ys_pb {post : Int32 → Prop} {n i j m : Nat} (W : gr_W g) (hv : pu_V g n i j) (hm : m < 3) (e2 : a_firstEnd (cy n i j) = nI (pu_ch g n i j).2.1) (e3 : a_secondEnd (cy n i j) = nI (pu_ch g n i j).2.2) (h : post (nI (pu_b g n i j m))) : wpY_partBegin post (nI (gr_P g), nI (gr_L g), f_goal, f_extra, f_measured, f_known, f_more, f_sum, a_left, a_size, a_right, a_text, a_ops, a_constants, a_heights, a_many, a_chosen, a_firstEnd, a_secondEnd, a_values, a_nodes, a_far, a_productive, a_useful, a_covers) (nI (cy n i j)) (nI i) (nI m) := by
  have hl := cy_lt W hv
  have hin : vp_in (nI (cy n i j)) 980 := vp_in_nI hl (by decide)
  have ec : (nI (cy n i j)).toNatClampNeg = cy n i j := nI_clamp (by omega)
  have hmm : m = 0 ∨ m = 1 ∨ m = 2 := by omega
  obtain rfl | rfl | rfl := hmm
  · exact br_t rfl h
  · refine br_f (by decide) (br_t rfl ⟨hin, ?_⟩)
    rw [ec, e2]; exact h
  · refine br_f (by decide) (br_f (by decide) ⟨hin, ?_⟩)
    rw [ec, e3]; exact h
theorem ys_pe {post : Int32 → Prop} {n i j m : Nat} (W : gr_W g) (hv : pu_V g n i j) (hm : m < 3) (e2 : a_firstEnd (cy n i j) = nI (pu_ch g n i j).2.1) (e3 : a_secondEnd (cy n i j) = nI (pu_ch g n i j).2.2) (h : post (nI (pu_e g n i j m))) : wpY_partEnd post (nI (gr_P g), nI (gr_L g), f_goal, f_extra, f_measured, f_known, f_more, f_sum, a_left, a_size, a_right, a_text, a_ops, a_constants, a_heights, a_many, a_chosen, a_firstEnd, a_secondEnd, a_values, a_nodes, a_far, a_productive, a_useful, a_covers) (nI (cy n i j)) (nI j) (nI m) := by
  have hl := cy_lt W hv
  have hin : vp_in (nI (cy n i j)) 980 := vp_in_nI hl (by decide)
  have ec : (nI (cy n i j)).toNatClampNeg = cy n i j := nI_clamp (by omega)
  have hmm : m = 0 ∨ m = 1 ∨ m = 2 := by omega
  obtain rfl | rfl | rfl := hmm
  · refine br_t rfl ⟨hin, ?_⟩
    rw [ec, e2]; exact h
  · refine br_f (by decide) (br_t rfl ⟨hin, ?_⟩)
    rw [ec, e3]; exact h
  · exact br_f (by decide) (br_f (by decide) h)
/-- behind the loop: the action -/
theorem ys_evEnd {post : SY → Prop} {c p k o : Nat} {cst x5 x7 x9 x11 x13 x15 : Int64} {x17 : Int32} {x : Nat → Int64} (hc : c < 980) (hp : p < 12) (hk : k ≤ 3) (ez : a_size p = nI k) (ec : (a_constants p).toInt64 = cst) (eo : a_ops p = nI o) (ho : o < 8)
    (h5 : x5 = ev_fold (fun s y => s + y) x k 0 0) (h7 : x7 = ev_fold (fun s y => s * y) x k 0 1) (h9 : x9 = ev_fold (fun s y => s * 10 + y) x k 0 cst) (h11 : x11 = ev_fold ev_gr x k 0 cst) (h13 : 0 < k → x13 = x 0) (h15 : 0 < k → x15 = x (k - 1))
    (hpost : post (nI (gr_P g), nI (gr_L g), f_goal, f_extra, f_measured, f_known, f_more, f_sum, a_left, a_size, a_right, a_text, a_ops, a_constants, a_heights, a_many, a_chosen, a_firstEnd, a_secondEnd, vp_updL a_values c (if x17 = 0 then ev_act (nI o) cst k x else ev_N), a_nodes, a_far, a_productive, a_useful, a_covers)) :
    vp_in (nI p) 12 ∧ (∀ x18_10, x18_10 = (a_constants (nI p).toNatClampNeg).toInt64 → (vp_in (nI p) 12 ∧ (∀ x20_12, x20_12 = a_ops (nI p).toNatClampNeg → (((x20_12 = 1 → (∀ x18_36, x18_36 = x18_10 + x5 → (wY_evaluate_298 post (nI c) (nI p) x5 x7 x9 x11 x13 x15 x17 x18_36 x20_12 (nI (gr_P g)) (nI (gr_L g)) f_goal f_extra f_measured f_known f_more f_sum a_left a_size a_right a_text a_ops a_constants a_heights a_many a_chosen a_firstEnd a_secondEnd a_values a_nodes a_far a_productive a_useful a_covers))) ∧ (¬ x20_12 = 1 → (wY_evaluate_298 post (nI c) (nI p) x5 x7 x9 x11 x13 x15 x17 x18_10 x20_12 (nI (gr_P g)) (nI (gr_L g)) f_goal f_extra f_measured f_known f_more f_sum a_left a_size a_right a_text a_ops a_constants a_heights a_many a_chosen a_firstEnd a_secondEnd a_values a_nodes a_far a_productive a_useful a_covers))))))) := by
  have hinp : vp_in (nI p) 12 := vp_in_nI hp (by decide)
  have hin : vp_in (nI c) 980 := vp_in_nI hc (by decide)
  have ecl : (nI p).toNatClampNeg = p := nI_clamp (by omega)
  have ecc : (nI c).toNatClampNeg = c := nI_clamp (by omega)
  have ezz : a_size (nI p).toNatClampNeg = nI k := by rw [ecl]; exact ez
  have T447 : ∀ v : Int64, v = ev_act (nI o) cst k x → wY_evaluate_447 post (nI c) x17 v (nI (gr_P g)) (nI (gr_L g)) f_goal f_extra f_measured f_known f_more f_sum a_left a_size a_right a_text a_ops a_constants a_heights a_many a_chosen a_firstEnd a_secondEnd a_values a_nodes a_far a_productive a_useful a_covers := by
    intro v hvv
    refine br_c (fun z => ⟨hin, nm_r (e' := vp_updL a_values c (if x17 = 0 then ev_act (nI o) cst k x else ev_N)) (by rw [ecc, if_pos z, hvv]) hpost⟩) (fun z => ⟨hin, nm_r (e' := vp_updL a_values c (if x17 = 0 then ev_act (nI o) cst k x else ev_N)) (by rw [ecc, if_neg z]; rfl) hpost⟩)
  have cs : o = 0 ∨ o = 1 ∨ o = 2 ∨ o = 3 ∨ o = 4 ∨ o = 5 ∨ o = 6 ∨ o = 7 := by omega
  refine ⟨hinp, nm_r (e' := cst) (by rw [ecl]; exact ec) ⟨hinp, nm_r (e' := nI o) (by rw [ecl]; exact eo) ?_⟩⟩
  unfold ev_act at T447
  obtain rfl | rfl | rfl | rfl | rfl | rfl | rfl | rfl := cs
  · rw [if_neg (by decide), if_neg (by decide), if_neg (by decide), if_neg (by decide), if_neg (by decide), if_neg (by decide), if_neg (by decide)] at T447
    exact br_f (by decide) (br_f (by decide) (br_f (by decide) (br_f (by decide) (br_f (by decide) (br_f (by decide) (br_f (by decide) (T447 cst rfl)))))))
  · rw [if_pos (by decide)] at T447
    exact br_t (by decide) (nm_e (br_f (by decide) (br_f (by decide) (br_f (by decide) (br_f (by decide) (br_f (by decide) (br_f (by decide) (T447 _ (by rw [h5])))))))))
  · rw [if_neg (by decide), if_pos (by decide)] at T447
    refine br_f (by decide) (br_t (by decide) (nm_e (br_f (by decide) (br_f (by decide) (br_f (by decide) (br_f (by decide) (br_f (by decide) (T447 _ ?_))))))))
    rw [h7, ← ev_mul, Int64.mul_one]
  · rw [if_neg (by decide), if_neg (by decide), if_pos (by decide)] at T447
    refine br_f (by decide) (br_f (by decide) (br_t (by decide) ⟨hinp, pk_eq k 0 (fun e => ?_) (fun e => ?_) ezz rfl⟩))
    · rw [if_pos e] at T447
      exact br_f (by decide) (br_f (by decide) (br_f (by decide) (br_f (by decide) (T447 _ rfl))))
    · rw [if_neg e] at T447
      refine br_f (by decide) (br_f (by decide) (br_f (by decide) (br_f (by decide) (T447 _ ?_))))
      obtain ⟨q, rfl⟩ : ∃ q, k = q + 1 := ⟨k - 1, by omega⟩
      rw [h13 (by omega), h5, ev_tail]; rfl
  · rw [if_neg (by decide), if_neg (by decide), if_neg (by decide), if_pos (by decide)] at T447
    exact br_f (by decide) (br_f (by decide) (br_f (by decide) (br_t (by decide) (br_f (by decide) (br_f (by decide) (br_f (by decide) (T447 _ (by rw [h9, ev_dg]))))))))
  · rw [if_neg (by decide), if_neg (by decide), if_neg (by decide), if_neg (by decide), if_pos (by decide)] at T447
    exact br_f (by decide) (br_f (by decide) (br_f (by decide) (br_f (by decide) (br_t (by decide) (br_f (by decide) (br_f (by decide) (T447 _ h11)))))))
  · rw [if_neg (by decide), if_neg (by decide), if_neg (by decide), if_neg (by decide), if_neg (by decide), if_pos (by decide)] at T447
    refine br_f (by decide) (br_f (by decide) (br_f (by decide) (br_f (by decide) (br_f (by decide) (br_t (by decide) ⟨hinp, pk_le k 0 (fun e => ?_) (fun e => ?_) ezz rfl⟩)))))
    · rw [if_pos (by omega)] at T447
      exact br_f (by decide) (T447 _ rfl)
    · obtain ⟨q, rfl⟩ : ∃ q, k = q + 1 := ⟨k - 1, by omega⟩
      rw [if_neg (by omega)] at T447
      refine nm_r (e' := cst + ev_fold (fun s y => s + y) x q 1 0) (by rw [h13 (by omega), h5, ev_tail]) (br_c (fun z => br_f (by decide) (T447 _ ?_)) (fun z => ⟨z, br_f (by decide) (T447 _ ?_)⟩))
      · rw [show q + 1 - 1 = q from rfl, if_pos z]; rfl
      · rw [show q + 1 - 1 = q from rfl, if_neg z, h13 (by omega)]
  · rw [if_neg (by decide), if_neg (by decide), if_neg (by decide), if_neg (by decide), if_neg (by decide), if_neg (by decide), if_pos (by decide)] at T447
    refine br_f (by decide) (br_f (by decide) (br_f (by decide) (br_f (by decide) (br_f (by decide) (br_f (by decide) (br_t (by decide) ⟨hinp, pk_le k 0 (fun e => ?_) (fun e => ?_) ezz rfl⟩))))))
    · rw [if_pos (by omega)] at T447
      exact T447 _ rfl
    · rw [if_neg (by omega)] at T447
      refine br_c (fun z => T447 _ ?_) (fun z => T447 _ ?_)
      · rw [h13 (by omega)] at z ⊢; rw [if_pos z]
      · rw [h13 (by omega)] at z
        rw [if_neg z, h15 (by omega)]
theorem ys_evaluate {post : SY → Prop} {n i j o : Nat} (W : gr_W g) (X : pu_CHX g) (hv : pu_V g n i j) (h0 : 0 < pu_HH g n i j) (mR : xm_R g a_right) (mZ : ym_Z g a_size) (e2 : a_firstEnd (cy n i j) = nI (pu_ch g n i j).2.1) (e3 : a_secondEnd (cy n i j) = nI (pu_ch g n i j).2.2) (eo : a_ops (pu_cp g n i j) = nI o) (ho : o < 8)
    (mV : ∀ m, m < 3 → pu_nt (pu_s g n i j m) → a_values (cy (pu_s g n i j m - 10) (pu_b g n i j m) (pu_e g n i j m)) = pu_VL g a_ops a_constants (pu_s g n i j m - 10) (pu_b g n i j m) (pu_e g n i j m))
    (mN : ∀ m, m < 3 → pu_nt (pu_s g n i j m) → a_nodes (cy (pu_s g n i j m - 10) (pu_b g n i j m) (pu_e g n i j m)) = lN (pu_c2 (pu_SZ g (pu_s g n i j m - 10) (pu_b g n i j m) (pu_e g n i j m))))
    (hpost : ∀ (vals nds : Nat → Int64), (∀ x, x ≠ cy n i j → vals x = a_values x ∧ nds x = a_nodes x) → vals (cy n i j) = pu_VL g a_ops a_constants n i j → nds (cy n i j) = lN (pu_c2 (pu_SZ g n i j)) → post (nI (gr_P g), nI (gr_L g), f_goal, f_extra, f_measured, f_known, f_more, f_sum, a_left, a_size, a_right, a_text, a_ops, a_constants, a_heights, a_many, a_chosen, a_firstEnd, a_secondEnd, vals, nds, a_far, a_productive, a_useful, a_covers)) : wpY_evaluate post (nI (gr_P g), nI (gr_L g), f_goal, f_extra, f_measured, f_known, f_more, f_sum, a_left, a_size, a_right, a_text, a_ops, a_constants, a_heights, a_many, a_chosen, a_firstEnd, a_secondEnd, a_values, a_nodes, a_far, a_productive, a_useful, a_covers) (nI (cy n i j)) (nI i) (nI j) (nI (pu_cp g n i j)) := by
  have hP := W.1
  have hp : pu_cp g n i j < gr_P g := (pu_part W X hv h0 (m := 0) (by decide)).1
  have hl := cy_lt W hv
  have hin : vp_in (nI (cy n i j)) 980 := vp_in_nI hl (by decide)
  have ec : (nI (cy n i j)).toNatClampNeg = cy n i j := nI_clamp (by omega)
  have hinp : vp_in (nI (pu_cp g n i j)) 12 := vp_in_nI (by omega) (by decide)
  have ecp : (nI (pu_cp g n i j)).toNatClampNeg = pu_cp g n i j := nI_clamp (by omega)
  have k3 := pu_k_le g (pu_cp g n i j)
  have eV := pu_VL_eq (ops := a_ops) (cs := a_constants) W X hv h0
  rw [eo] at eV
  generalize ex : pu_pv g (pu_VL g a_ops a_constants) n i j = x at eV
  have K45 : ∀ d m, m + d = pu_k g (pu_cp g n i j) → ∀ (x5 x7 x9 x11 x13 x15 : Int64) (x17 : Int32) (nds : Nat → Int64), x5 = ev_fold (fun s y => s + y) x m 0 0 → x7 = ev_fold (fun s y => s * y) x m 0 1 → x9 = ev_fold (fun s y => s * 10 + y) x m 0 (a_constants (pu_cp g n i j)).toInt64 → x11 = ev_fold ev_gr x m 0 (a_constants (pu_cp g n i j)).toInt64 → (0 < m → x13 = x 0) → (0 < m → x15 = x (m - 1)) → ((x17 = 0 ∧ ∀ q, q < m → x q ≠ ev_N) ∨ (x17 = 1 ∧ ∃ q, q < m ∧ x q = ev_N)) → (∀ y, y ≠ cy n i j → nds y = a_nodes y) → nds (cy n i j) = lN (pu_c2 (1 + pu_sum (pu_pz g (pu_SZ g) n i j) m)) → wY_evaluate_45 post (nI (cy n i j)) (nI i) (nI j) (nI (pu_cp g n i j)) (nI (gr_P g)) (nI (gr_L g)) f_goal f_extra f_measured f_known f_more f_sum (d + 1) x5 x7 x9 x11 x13 x15 x17 (nI m) a_left a_size a_right a_text a_ops a_constants a_heights a_many a_chosen a_firstEnd a_secondEnd a_values nds a_far a_productive a_useful a_covers := by
    intro d
    induction d with
    | zero =>
      intro m hm x5 x7 x9 x11 x13 x15 x17 nds h5 h7 h9 h11 h13 h15 h17 hy hn
      have e : m = pu_k g (pu_cp g n i j) := by omega
      subst e
      refine ⟨hinp, br_t (by rw [ecp, mZ _ hp]; exact nI_le (Nat.le_refl _) (by omega)) (ys_evEnd (x := x) hl (by omega) k3 (mZ _ hp) rfl eo ho h5 h7 h9 h11 h13 h15 (hpost _ _ (fun y hyy => ⟨pk_uLn hyy, hy y hyy⟩) ?_ ?_))⟩
      · rw [pk_uLs, eV]
        obtain ⟨rfl, q⟩ | ⟨rfl, q⟩ := h17
        · rw [if_pos rfl, ev_v_f (fun ⟨r, hr, z⟩ => q r hr z)]
        · rw [if_neg (by decide), ev_v_t q]
      · rw [hn, pu_sum_k W X hv h0]
    | succ d ih =>
      intro m hm x5 x7 x9 x11 x13 x15 x17 nds h5 h7 h9 h11 h13 h15 h17 hy hn
      have hm3 : m < 3 := by omega
      obtain ⟨_, ok, hbe, heL, hpt⟩ := pu_part W X hv h0 hm3
      have s99 : pu_s g n i j m ≠ 99 := fun z => by have := pu_k_a (p := pu_cp g n i j) hm3 z; omega
      -- the end of one turn
      have T190 : ∀ (nds : Nat → Int64), (∀ y, y ≠ cy n i j → nds y = a_nodes y) → nds (cy n i j) = lN (pu_c2 (1 + pu_sum (pu_pz g (pu_SZ g) n i j) (m + 1))) → wY_evaluate_190 post (wY_evaluate_45 post (nI (cy n i j)) (nI i) (nI j) (nI (pu_cp g n i j)) (nI (gr_P g)) (nI (gr_L g)) f_goal f_extra f_measured f_known f_more f_sum (d + 1)) (nI (cy n i j)) (nI i) (nI j) (nI (pu_cp g n i j)) x5 x7 x9 x11 x13 (x m) x17 (nI m) (nI (gr_P g)) (nI (gr_L g)) f_goal f_extra f_measured f_known f_more f_sum a_left a_size a_right a_text a_ops a_constants a_heights a_many a_chosen a_firstEnd a_secondEnd a_values nds a_far a_productive a_useful a_covers := by
        intro nds hy hn
        have T218 : ∀ (x13' : Int64) (x17' : Int32), x13' = x 0 → ((x17' = 0 ∧ ∀ q, q < m + 1 → x q ≠ ev_N) ∨ (x17' = 1 ∧ ∃ q, q < m + 1 ∧ x q = ev_N)) → wY_evaluate_218 post (wY_evaluate_45 post (nI (cy n i j)) (nI i) (nI j) (nI (pu_cp g n i j)) (nI (gr_P g)) (nI (gr_L g)) f_goal f_extra f_measured f_known f_more f_sum (d + 1)) (nI (cy n i j)) (nI i) (nI j) (nI (pu_cp g n i j)) x5 x7 x9 x11 x13' (x m) x17' (nI m) (nI (gr_P g)) (nI (gr_L g)) f_goal f_extra f_measured f_known f_more f_sum a_left a_size a_right a_text a_ops a_constants a_heights a_many a_chosen a_firstEnd a_secondEnd a_values nds a_far a_productive a_useful a_covers := by
          intro x13' x17' q13 q17
          have go : ∀ x11', x11' = ev_fold ev_gr x (m + 1) 0 (a_constants (pu_cp g n i j)).toInt64 → wY_evaluate_45 post (nI (cy n i j)) (nI i) (nI j) (nI (pu_cp g n i j)) (nI (gr_P g)) (nI (gr_L g)) f_goal f_extra f_measured f_known f_more f_sum (d + 1) (x5 + x m) (x7 * x m) (x9 * 10 + x m) x11' x13' (x m) x17' (nI (m + 1)) a_left a_size a_right a_text a_ops a_constants a_heights a_many a_chosen a_firstEnd a_secondEnd a_values nds a_far a_productive a_useful a_covers := by
            intro x11' q11
            refine ih (m + 1) (by omega) _ _ _ _ _ _ _ nds ?_ ?_ ?_ q11 (fun _ => q13) (fun _ => rfl) q17 hy hn
            · rw [ev_fold_s, h5, Nat.zero_add]
            · rw [ev_fold_s, h7, Nat.zero_add]
            · rw [ev_fold_s, h9, Nat.zero_add]
          refine nm_e (nm_e (nm_e (br_c (fun z => nm_r (nI_1 m) (go _ ?_)) (fun z => nm_r (nI_1 m) (go _ ?_)))))
          · rw [ev_fold_s, ← h11, Nat.zero_add]; unfold ev_gr; rw [if_pos z]
          · rw [ev_fold_s, ← h11, Nat.zero_add]; unfold ev_gr; rw [if_neg z]
        have T206 : ∀ z0 : Int32, ((z0 = 0 ∧ x m ≠ ev_N) ∨ (z0 = 1 ∧ x m = ev_N)) → wY_evaluate_206 post (wY_evaluate_45 post (nI (cy n i j)) (nI i) (nI j) (nI (pu_cp g n i j)) (nI (gr_P g)) (nI (gr_L g)) f_goal f_extra f_measured f_known f_more f_sum (d + 1)) (nI (cy n i j)) (nI i) (nI j) (nI (pu_cp g n i j)) x5 x7 x9 x11 x13 (x m) (nI m) z0 x17 (nI (gr_P g)) (nI (gr_L g)) f_goal f_extra f_measured f_known f_more f_sum a_left a_size a_right a_text a_ops a_constants a_heights a_many a_chosen a_firstEnd a_secondEnd a_values nds a_far a_productive a_useful a_covers := by
          intro z0 hz
          have q17 : ((x17 ||| z0 = 0 ∧ ∀ q, q < m + 1 → x q ≠ ev_N) ∨ (x17 ||| z0 = 1 ∧ ∃ q, q < m + 1 ∧ x q = ev_N)) := by
            obtain ⟨rfl, q⟩ | ⟨rfl, q, hq, e⟩ := h17
            · obtain ⟨rfl, w⟩ | ⟨rfl, w⟩ := hz
              · refine Or.inl ⟨by decide, fun r hr => ?_⟩
                by_cases c : r = m
                · rw [c]; exact w
                · exact q r (by omega)
              · exact Or.inr ⟨by decide, m, by omega, w⟩
            · obtain ⟨rfl, w⟩ | ⟨rfl, w⟩ := hz
              · exact Or.inr ⟨by decide, q, by omega, e⟩
              · exact Or.inr ⟨by decide, q, by omega, e⟩
          refine nm_e (pk_eq m 0 (fun e => T218 _ _ (by rw [e]) q17) (fun e => T218 _ _ (h13 (by omega)) q17))
        exact br_c (fun z => T206 1 (Or.inr ⟨rfl, z⟩)) (fun z => T206 0 (Or.inl ⟨rfl, z⟩))
      refine ⟨hinp, br_f (by rw [ecp, mZ _ hp]; exact nI_ge (by omega) (by omega)) ⟨xb_i (by omega) hm3, nm_r (e' := sy_m (pu_s g n i j m)) (xm_Rm W mR hp hm3) ?_⟩⟩
      refine ys_pb W hv hm3 e2 e3 (ys_pe W hv hm3 e2 e3 ?_)
      have ps : pu_sum (pu_pz g (pu_SZ g) n i j) (m + 1) = pu_sum (pu_pz g (pu_SZ g) n i j) m + pu_pz g (pu_SZ g) n i j m := rfl
      by_cases nt : pu_nt (pu_s g n i j m)
      · obtain ⟨v', h0', hlt⟩ := hpt nt
        have hl' := cy_lt W v'
        have ecd : (nI (cy (pu_s g n i j m - 10) (pu_b g n i j m) (pu_e g n i j m))).toNatClampNeg = cy (pu_s g n i j m - 10) (pu_b g n i j m) (pu_e g n i j m) := nI_clamp (by omega)
        have ind : vp_in (nI (cy (pu_s g n i j m - 10) (pu_b g n i j m) (pu_e g n i j m))) 980 := vp_in_nI hl' (by decide)
        have ne : cy (pu_s g n i j m - 10) (pu_b g n i j m) (pu_e g n i j m) ≠ cy n i j := fun e => by
          obtain ⟨a1, a2, a3⟩ := cy_inj W v' hv e
          rw [a1, a2, a3] at hlt; omega
        have exm : x m = pu_VL g a_ops a_constants (pu_s g n i j m - 10) (pu_b g n i j m) (pu_e g n i j m) := by rw [← ex]; exact pu_pv_t hm3 nt
        refine br_t ((sy_ge ok).mpr nt) (ys_cell (pu_s g n i j m - 10) (pu_b g n i j m) (pu_e g n i j m) (sy_nt nt) rfl rfl (br_t ((sy_ge ok).mpr nt) ⟨ind, ?_⟩))
        rw [ecd, mV m hm3 nt, ← exm]
        refine br_f (fun z => by have := (sy_lt ok).mp z; unfold pu_nt at nt; omega) ⟨hin, ind, ?_⟩
        rw [ec, ecd, hn, hy _ ne, mN m hm3 nt, lN_add]
        have l1 := pu_c2_le (1 + pu_sum (pu_pz g (pu_SZ g) n i j) m)
        have l2 := pu_c2_le (pu_SZ g (pu_s g n i j m - 10) (pu_b g n i j m) (pu_e g n i j m))
        have ev : pu_c2 (1 + pu_sum (pu_pz g (pu_SZ g) n i j) (m + 1)) = pu_c2 (pu_c2 (1 + pu_sum (pu_pz g (pu_SZ g) n i j) m) + pu_c2 (pu_SZ g (pu_s g n i j m - 10) (pu_b g n i j m) (pu_e g n i j m))) := by
          rw [pu_c2_add, ps, pu_pz_t nt, Nat.add_assoc]
        have T189 : ∀ z : Int64, z = lN (pu_c2 (1 + pu_sum (pu_pz g (pu_SZ g) n i j) (m + 1))) → wY_evaluate_189 post (wY_evaluate_45 post (nI (cy n i j)) (nI i) (nI j) (nI (pu_cp g n i j)) (nI (gr_P g)) (nI (gr_L g)) f_goal f_extra f_measured f_known f_more f_sum (d + 1)) (nI (cy n i j)) (nI i) (nI j) (nI (pu_cp g n i j)) x5 x7 x9 x11 x13 (x m) x17 (nI m) z (nI (cy n i j)) (nI (gr_P g)) (nI (gr_L g)) f_goal f_extra f_measured f_known f_more f_sum a_left a_size a_right a_text a_ops a_constants a_heights a_many a_chosen a_firstEnd a_secondEnd a_values nds a_far a_productive a_useful a_covers := by
          intro z hz
          exact ⟨hin, nm_r (e' := vp_updL nds (cy n i j) z) (by rw [ec]) (T190 _ (fun y hyy => by rw [pk_uLn hyy]; exact hy y hyy) (by rw [pk_uLs]; exact hz))⟩
        refine ek_if (d := 2000000000 ≤ pu_c2 (1 + pu_sum (pu_pz g (pu_SZ g) n i j) m) + pu_c2 (pu_SZ g (pu_s g n i j m - 10) (pu_b g n i j m) (pu_e g n i j m))) (pk_lLE (a := 2000000000) (by decide) (by omega)) (fun z => T189 _ ?_) (fun z => ⟨hin, ind, T189 _ ?_⟩)
        · rw [ev]
          have : pu_c2 (pu_c2 (1 + pu_sum (pu_pz g (pu_SZ g) n i j) m) + pu_c2 (pu_SZ g (pu_s g n i j m - 10) (pu_b g n i j m) (pu_e g n i j m))) = 2000000000 := if_neg (by omega)
          rw [this]; rfl
        · rw [ev]
          have : pu_c2 (pu_c2 (1 + pu_sum (pu_pz g (pu_SZ g) n i j) m) + pu_c2 (pu_SZ g (pu_s g n i j m - 10) (pu_b g n i j m) (pu_e g n i j m))) = pu_c2 (1 + pu_sum (pu_pz g (pu_SZ g) n i j) m) + pu_c2 (pu_SZ g (pu_s g n i j m - 10) (pu_b g n i j m) (pu_e g n i j m)) := if_pos (by omega)
          rw [this]
      · have lt : sy_m (pu_s g n i j m) < 10 := (sy_lt ok).mpr (by unfold pu_nt at nt; unfold pu_ok at ok; omega)
        have nge : ¬ 10 ≤ sy_m (pu_s g n i j m) := fun z => nt ((sy_ge ok).mp z)
        have exm : x m = (sy_m (pu_s g n i j m)).toInt64 := by rw [← ex]; exact pu_pv_f (fun q => nt q.2)
        refine br_f nge (br_f nge (br_t lt ?_))
        rw [← exm]
        refine T190 nds hy ?_
        rw [hn, ps, pu_pz_f nt]; rfl
  refine ⟨hinp, nm_r (e' := (a_constants (pu_cp g n i j)).toInt64) (by rw [ecp]) ⟨hinp, nm_r (e' := (a_constants (pu_cp g n i j)).toInt64) (by rw [ecp]) ⟨hin, nm_r (e' := vp_updL a_nodes (cy n i j) 1) (by rw [ec]) ⟨pu_k g (pu_cp g n i j) + 1, K45 (pu_k g (pu_cp g n i j)) 0 (by omega) _ _ _ _ _ _ _ _ rfl rfl rfl rfl (fun q => by omega) (fun q => by omega) (Or.inl ⟨rfl, fun q hq => by omega⟩) (fun y hyy => pk_uLn hyy) pk_uLs⟩⟩⟩⟩
end
end
section
/-! the reference: all that it knows -/
theorem pu_lev {g : gr_G} (W : gr_W g) (S : pu_HS g (pu_HH g)) {n i j k : Nat} (hv : pu_V g n i j) (e : pu_HH g n i j = k + 1) (hk : 0 < k) : ∃ n' i' j', pu_V g n' i' j' ∧ pu_HH g n' i' j' = k := by
  apply Classical.byContradiction
  intro z
  obtain ⟨⟨_, p, u, v, hp, hn, a, b, c, F⟩, no⟩ := (S n i j hv).2.1 k e
  have hL := hv.2.2
  have Q : ∀ {s x y : Nat}, pu_ok s → x ≤ y → y ≤ gr_L g → pu_ps g (pu_HH g) s x y (k + 1) → pu_ps g (pu_HH g) s x y k := by
    intro s x y ok hxy hy f
    by_cases nt : pu_nt s
    · have q := (pu_ps_n nt).mp f
      have hv' := xb_ntV ok nt hxy hy
      refine (pu_ps_n nt).mpr ⟨q.1, ?_⟩
      by_cases w : pu_HH g (s - 10) x y = k
      · exact absurd ⟨_, _, _, hv', w⟩ z
      · omega
    · unfold pu_nt at nt
      unfold pu_ok at ok
      by_cases c1 : s = 99
      · exact (pu_ps_a c1).mpr ((pu_ps_a c1).mp f)
      · exact (pu_ps_t (by omega)).mpr ((pu_ps_t (by omega)).mp f)
  exact no ⟨hk, p, u, v, hp, hn, a, b, c, Q (pu_okR0 W hp) a (by omega) F.1, Q (pu_okR W hp (by decide)) b (by omega) F.2.1, Q (pu_okR W hp (by decide)) c hL F.2.2⟩
theorem pu_cont {g : gr_G} (W : gr_W g) (S : pu_HS g (pu_HH g)) {h : Nat} (h0 : 0 < h) : ∀ d n i j, pu_V g n i j → pu_HH g n i j = h + d → ∃ n' i' j', pu_V g n' i' j' ∧ pu_HH g n' i' j' = h := by
  intro d
  induction d with
  | zero => intro n i j hv e; exact ⟨n, i, j, hv, e⟩
  | succ d ih =>
    intro n i j hv e
    obtain ⟨n', i', j', hv', e'⟩ := pu_lev W S (k := h + d) hv e (by omega)
    exact ih n' i' j' hv' e'
def yk_D (g : gr_G) (ops cs : Nat → Int32) (n i j : Nat) (ch fe se : Nat → Int32) (vals nds : Nat → Int64) : Prop := ch (cy n i j) = nI (pu_ch g n i j).1 ∧ fe (cy n i j) = nI (pu_ch g n i j).2.1 ∧ se (cy n i j) = nI (pu_ch g n i j).2.2 ∧ vals (cy n i j) = pu_VL g ops cs n i j ∧ nds (cy n i j) = lN (pu_c2 (pu_SZ g n i j))
def yk_P (g : gr_G) (ops cs : Nat → Int32) (dn : Nat → Nat → Prop) (ch fe se : Nat → Int32) (vals nds : Nat → Int64) : Prop := ∀ n i j, pu_V g n i j → 0 < pu_HH g n i j → dn (pu_HH g n i j) (cy n i j) → yk_D g ops cs n i j ch fe se vals nds
def yk_dn (h x : Nat) : Nat → Nat → Prop := fun k y => k < h ∨ (k = h ∧ y < x)
def ym_Known (g : gr_G) (ops cs hts : Nat → Int32) (many : Nat → Int64) (ch fe se : Nat → Int32) (vals nds : Nat → Int64) : Prop := ym_Chart g hts ∧ ym_Cts g many ∧ yk_P g ops cs (fun _ _ => True) ch fe se vals nds
section
variable {g : gr_G} {f_goal f_extra f_measured f_known f_more : Int32} {f_sum : Int64} {a_left a_size a_right a_text a_ops a_constants a_heights : Nat → Int32} {a_many : Nat → Int64} {a_chosen a_firstEnd a_secondEnd : Nat → Int32} {a_values a_nodes : Nat → Int64} {a_far a_productive a_useful a_covers : Nat → Int32}
theorem ys_choose {post : SY → Prop} {n i j : Nat} (W : gr_W g) (tx : xm_T g a_text) (mR : xm_R g a_right) (mF : xm_F g a_left) (mZ : ym_Z g a_size) (mO : ∀ p, p < gr_P g → ∃ o, o < 8 ∧ a_ops p = nI o) (C : ym_Chart g a_heights) (hv : pu_V g n i j) (h0 : 0 < pu_HH g n i j) (P : yk_P g a_ops a_constants (yk_dn (pu_HH g n i j) 0) a_chosen a_firstEnd a_secondEnd a_values a_nodes)
    (hpost : ∀ (ch fe se : Nat → Int32) (vals nds : Nat → Int64), (∀ x, x ≠ cy n i j → ch x = a_chosen x ∧ fe x = a_firstEnd x ∧ se x = a_secondEnd x ∧ vals x = a_values x ∧ nds x = a_nodes x) → yk_D g a_ops a_constants n i j ch fe se vals nds → post (nI (gr_P g), nI (gr_L g), f_goal, f_extra, f_measured, f_known, 1, f_sum, a_left, a_size, a_right, a_text, a_ops, a_constants, a_heights, a_many, ch, fe, se, vals, nds, a_far, a_productive, a_useful, a_covers)) : wpY_choose post (nI (gr_P g), nI (gr_L g), f_goal, f_extra, f_measured, f_known, f_more, f_sum, a_left, a_size, a_right, a_text, a_ops, a_constants, a_heights, a_many, a_chosen, a_firstEnd, a_secondEnd, a_values, a_nodes, a_far, a_productive, a_useful, a_covers) (nI (cy n i j)) (nI (pu_HH g n i j)) := by
  have hL := W.2.1
  have hP := W.1
  have S := C.1
  have X := pu_CHX_of W S
  have hl := cy_lt W hv
  have hin : vp_in (nI (cy n i j)) 980 := vp_in_nI hl (by decide)
  have ec : (nI (cy n i j)).toNatClampNeg = cy n i j := nI_clamp (by omega)
  have hb : ∀ n i j, pu_V g n i j → pu_HH g n i j ≤ 1000 := fun n i j hv => by have := (S n i j hv).2.2; omega
  have hbc := hb _ _ _ hv
  have hn5 := hv.1
  have K33 : ∀ p, p ≤ gr_P g → ∀ (f_more : Int32) (ch fe se : Nat → Int32), yb_C g (pu_HH g) n i j (pu_HH g n i j) (cy n i j) p a_chosen a_firstEnd a_secondEnd ch fe se → wY_choose_33 post (nI (cy n i j)) (nI (pu_HH g n i j)) (nI (10 + n)) (nI i) (nI j) (p + 1) (nI p + (-1)) (nI (gr_P g)) (nI (gr_L g)) f_goal f_extra f_measured f_known f_more f_sum a_left a_size a_right a_text a_ops a_constants a_heights a_many ch fe se a_values a_nodes a_far a_productive a_useful a_covers := by
    intro p
    induction p with
    | zero =>
      intro hp f_more ch fe se Cc
      obtain ⟨e1, e2, e3⟩ := yb_end W S hv h0 Cc
      have hcp : pu_cp g n i j < gr_P g := (pu_part W X hv h0 (m := 0) (by decide)).1
      obtain ⟨o, ho, eo⟩ := mO _ hcp
      refine br_t ((xb_m1lt (b := 0) (by decide) (by decide)).mpr (Nat.le_refl _)) ⟨hin, ?_⟩
      rw [ec, e1]
      refine ys_evaluate (g := g) (o := o) W X hv h0 mR mZ e2 e3 eo ho (fun m hm nt => ?_) (fun m hm nt => ?_) (fun vals nds hx hvv hnn => hpost ch fe se vals nds (fun x hxx => ⟨(Cc.1 x hxx).1, (Cc.1 x hxx).2.1, (Cc.1 x hxx).2.2, (hx x hxx).1, (hx x hxx).2⟩) ⟨e1, e2, e3, hvv, hnn⟩)
      · obtain ⟨v', h0', hlt⟩ := (pu_part W X hv h0 hm).2.2.2.2 nt
        exact (P _ _ _ v' h0' (Or.inl hlt)).2.2.2.1
      · obtain ⟨v', h0', hlt⟩ := (pu_part W X hv h0 hm).2.2.2.2 nt
        exact (P _ _ _ v' h0' (Or.inl hlt)).2.2.2.2
    | succ p ih =>
      intro hp f_more ch fe se Cc
      have hp' : p < gr_P g := by omega
      have hF := W.2.2.1 p hp'
      refine br_f (fun z => by have := (xb_m1lt (b := 0) (by omega) (by decide)).mp z; omega) ?_
      rw [pk_m1]
      refine ⟨vp_in_nI (by omega) (by decide), ek_if (d := gr_F g p = n) (by rw [xm_Fp W mF hp', nI_eq (by omega) (by omega)]; omega) (fun c => ?_) (fun c => nm_e (ih (by omega) _ _ _ _ (yb_skip c Cc)))⟩
      exact ys_chooseBy (g := g) (H := pu_HH g) W hp' hv hbc tx mR mZ C.2.1 hb (fun ch' fe' se' l => nm_e (ih (by omega) _ _ _ _ (yb_step hp' c Cc l)))
  have d1 : nI (cy n i j) / 196 + 10 = nI (10 + n) := by
    rw [show (196 : Int32) = nI 196 from rfl, pk_div (by omega) (by decide) (by decide), (cy_dec W hv).1, show (10 : Int32) = nI 10 from rfl, nI_add]
    exact congrArg nI (by omega)
  have d2 : (nI (cy n i j) - nI (cy n i j) / 196 * 196) / 14 = nI i := by
    rw [show (196 : Int32) = nI 196 from rfl, pk_rem (by omega) (by decide) (by decide), show (14 : Int32) = nI 14 from rfl, pk_div (by omega) (by decide) (by decide), (cy_dec W hv).2.1]
  have d3 : nI (cy n i j) - nI (cy n i j) / 14 * 14 = nI j := by
    rw [show (14 : Int32) = nI 14 from rfl, pk_rem (by omega) (by decide) (by decide), (cy_dec W hv).2.2]
  refine ⟨by decide, nm_r d1 ⟨by decide, by decide, nm_r d2 ⟨by decide, nm_r d3 (nm_r (e' := nI (gr_P g) + (-1)) (Int32.sub_eq_add_neg _ _) ⟨gr_P g + 1, K33 (gr_P g) (Nat.le_refl _) _ _ _ _ ⟨fun x _ => ⟨rfl, rfl, rfl⟩, Or.inl (fun q h1 h2 => by omega)⟩⟩)⟩⟩⟩
theorem ys_know {post : SY → Prop} {Q : Prop} (W : gr_W g) (tx : xm_T g a_text) (mR : xm_R g a_right) (mF : xm_F g a_left) (mZ : ym_Z g a_size) (mO : ∀ p, p < gr_P g → ∃ o, o < 8 ∧ a_ops p = nI o) (hr : f_known ≠ 0 → ym_Known g a_ops a_constants a_heights a_many a_chosen a_firstEnd a_secondEnd a_values a_nodes ∧ (f_measured ≠ 0 → Q))
    (hpost : ∀ (f_measured f_known f_more : Int32) (f_sum : Int64) (a_heights : Nat → Int32) (a_many : Nat → Int64) (a_chosen a_firstEnd a_secondEnd : Nat → Int32) (a_values a_nodes : Nat → Int64), f_known ≠ 0 → ym_Known g a_ops a_constants a_heights a_many a_chosen a_firstEnd a_secondEnd a_values a_nodes → (f_measured ≠ 0 → Q) → post (nI (gr_P g), nI (gr_L g), f_goal, f_extra, f_measured, f_known, f_more, f_sum, a_left, a_size, a_right, a_text, a_ops, a_constants, a_heights, a_many, a_chosen, a_firstEnd, a_secondEnd, a_values, a_nodes, a_far, a_productive, a_useful, a_covers)) : wpY_know post (nI (gr_P g), nI (gr_L g), f_goal, f_extra, f_measured, f_known, f_more, f_sum, a_left, a_size, a_right, a_text, a_ops, a_constants, a_heights, a_many, a_chosen, a_firstEnd, a_secondEnd, a_values, a_nodes, a_far, a_productive, a_useful, a_covers) := by
  have K37 : ∀ (n23 : Nat) (f_sum : Int64) (a_heights : Nat → Int32) (a_many : Nat → Int64) (h : Nat), ym_Chart g a_heights → 0 < h → h ≤ 606 → (∀ (f_more : Int32) (a_chosen a_firstEnd a_secondEnd : Nat → Int32) (a_values a_nodes : Nat → Int64), yk_P g a_ops a_constants (yk_dn (h + 1) 0) a_chosen a_firstEnd a_secondEnd a_values a_nodes → ((f_more = 0 ∧ ∀ n i j, pu_V g n i j → pu_HH g n i j ≠ h) ∨ (f_more = 1 ∧ ∃ n i j, pu_V g n i j ∧ pu_HH g n i j = h)) → wY_know_23 post n23 (nI (h + 1)) (nI (gr_P g)) (nI (gr_L g)) f_goal f_extra f_measured f_known f_more f_sum a_left a_size a_right a_text a_ops a_constants a_heights a_many a_chosen a_firstEnd a_secondEnd a_values a_nodes a_far a_productive a_useful a_covers) → ∀ d x, x + d = 980 → ∀ (f_more : Int32) (a_chosen a_firstEnd a_secondEnd : Nat → Int32) (a_values a_nodes : Nat → Int64), yk_P g a_ops a_constants (yk_dn h x) a_chosen a_firstEnd a_secondEnd a_values a_nodes → ((f_more = 0 ∧ ∀ n i j, pu_V g n i j → cy n i j < x → pu_HH g n i j ≠ h) ∨ (f_more = 1 ∧ ∃ n i j, pu_V g n i j ∧ pu_HH g n i j = h)) → wY_know_37 post (wY_know_23 post n23) (nI h) (d + 1) (nI x) (nI (gr_P g)) (nI (gr_L g)) f_goal f_extra f_measured f_known f_more f_sum a_left a_size a_right a_text a_ops a_constants a_heights a_many a_chosen a_firstEnd a_secondEnd a_values a_nodes a_far a_productive a_useful a_covers := by
    intro n23 f_sum a_heights a_many h C h0 h6 hJ d
    induction d with
    | zero =>
      intro x hx f_more a_chosen a_firstEnd a_secondEnd a_values a_nodes P fl
      refine br_t (nI_le (a := 980) (by omega) (by omega)) (nm_r (nI_1 h) (hJ _ _ _ _ _ _ (fun n i j hv z q => P n i j hv z ?_) ?_))
      · have := cy_lt W hv
        unfold yk_dn at *; omega
      · obtain ⟨e, q⟩ | q := fl
        · exact Or.inl ⟨e, fun n i j hv => q n i j hv (by have := cy_lt W hv; omega)⟩
        · exact Or.inr q
    | succ d ih =>
      intro x hx f_more a_chosen a_firstEnd a_secondEnd a_values a_nodes P fl
      refine br_f (nI_ge (b := 980) (by omega) (by decide)) ⟨vp_in_nI (by omega) (by decide), ?_⟩
      rw [nI_clamp (by omega)]
      have skip : (∀ n i j, pu_V g n i j → cy n i j = x → pu_HH g n i j ≠ h) → wY_know_37 post (wY_know_23 post n23) (nI h) (d + 1) (nI (x + 1)) (nI (gr_P g)) (nI (gr_L g)) f_goal f_extra f_measured f_known f_more f_sum a_left a_size a_right a_text a_ops a_constants a_heights a_many a_chosen a_firstEnd a_secondEnd a_values a_nodes a_far a_productive a_useful a_covers := by
        intro sk
        refine ih (x + 1) (by omega) _ _ _ _ _ _ (fun n i j hv z q => P n i j hv z ?_) ?_
        · have := sk n i j hv
          unfold yk_dn at *; omega
        · obtain ⟨e, q⟩ | q := fl
          · refine Or.inl ⟨e, fun n i j hv hlt => ?_⟩
            by_cases c : cy n i j = x
            · exact sk n i j hv c
            · exact q n i j hv (by omega)
          · exact Or.inr q
      by_cases hv : pu_V g (x / 196) (x % 196 / 14) (x % 14)
      · have ex : x = cy (x / 196) (x % 196 / 14) (x % 14) := (cy_enc x).symm
        have eH : a_heights x = nI (pu_HH g (x / 196) (x % 196 / 14) (x % 14)) := by
          have := C.2.1 _ _ _ hv
          rw [← ex] at this; exact this
        have hb := (C.1 _ _ _ hv).2.2
        refine pk_eq (pu_HH g (x / 196) (x % 196 / 14) (x % 14)) h (fun e => ?_) (fun e => nm_r (nI_1 x) (skip (fun n i j hv' e' => ?_))) eH rfl
        · have Z := ys_choose (g := g) (f_goal := f_goal) (f_extra := f_extra) (f_measured := f_measured) (f_known := f_known) (f_more := f_more) (f_sum := f_sum) (a_left := a_left) (a_size := a_size) (a_right := a_right) (a_text := a_text) (a_ops := a_ops) (a_constants := a_constants) (a_heights := a_heights) (a_many := a_many) (a_chosen := a_chosen) (a_firstEnd := a_firstEnd) (a_secondEnd := a_secondEnd) (a_values := a_values) (a_nodes := a_nodes) (a_far := a_far) (a_productive := a_productive) (a_useful := a_useful) (a_covers := a_covers) (post := fun u => match u with | (f_productions, f_length, f_goal, f_extra, f_measured, f_known, f_more, f_sum, a_left, a_size, a_right, a_text, a_ops, a_constants, a_heights, a_many, a_chosen, a_firstEnd, a_secondEnd, a_values, a_nodes, a_far, a_productive, a_useful, a_covers) => ∀ x2_86 : Int32, x2_86 = nI x + 1 → wY_know_37 post (wY_know_23 post n23) (nI h) (d + 1) x2_86 f_productions f_length f_goal f_extra f_measured f_known f_more f_sum a_left a_size a_right a_text a_ops a_constants a_heights a_many a_chosen a_firstEnd a_secondEnd a_values a_nodes a_far a_productive a_useful a_covers) W tx mR mF mZ mO C hv (by omega) (fun n' i' j' hv' z q => P n' i' j' hv' z (by unfold yk_dn at *; omega)) (fun ch fe se vals nds hxx D => nm_r (nI_1 x) (ih (x + 1) (by omega) 1 _ _ _ _ _ (fun n' i' j' hv' z q => ?_) (Or.inr ⟨rfl, _, _, _, hv, e⟩)))
          · rw [← ex, e] at Z
            exact Z
          · by_cases c : cy n' i' j' = cy (x / 196) (x % 196 / 14) (x % 14)
            · obtain ⟨rfl, rfl, rfl⟩ := cy_inj W hv' hv c
              exact D
            · obtain ⟨a1, a2, a3, a4, a5⟩ := hxx _ c
              obtain ⟨b1, b2, b3, b4, b5⟩ := P n' i' j' hv' z (by rw [← ex] at c; unfold yk_dn at *; omega)
              exact ⟨a1.trans b1, a2.trans b2, a3.trans b3, a4.trans b4, a5.trans b5⟩
        · rw [ex] at e'
          obtain ⟨rfl, rfl, rfl⟩ := cy_inj W hv' hv e'
          exact e
      · have z0 := C.2.2 x (by omega) hv
        refine br_f (by rw [z0]; exact fun z => nI_ne0 h0 (by omega) z.symm) (nm_r (nI_1 x) (skip (fun n i j hv' e' => ?_)))
        obtain ⟨q1, q2, q3⟩ := cy_dec W hv'
        rw [e'] at q1 q2 q3
        rw [q1, q2, q3] at hv
        exact absurd hv' hv
  have K23 : ∀ (f_sum : Int64) (a_heights : Nat → Int32) (a_many : Nat → Int64), ym_Chart g a_heights → ym_Cts g a_many → ∀ d h, h + d = 607 → 0 < h → ∀ (f_more : Int32) (a_chosen a_firstEnd a_secondEnd : Nat → Int32) (a_values a_nodes : Nat → Int64), ((f_more = 0 ∧ yk_P g a_ops a_constants (fun _ _ => True) a_chosen a_firstEnd a_secondEnd a_values a_nodes) ∨ (f_more = 1 ∧ h ≤ 606 ∧ yk_P g a_ops a_constants (yk_dn h 0) a_chosen a_firstEnd a_secondEnd a_values a_nodes)) → wY_know_23 post (d + 1) (nI h) (nI (gr_P g)) (nI (gr_L g)) f_goal f_extra f_measured f_known f_more f_sum a_left a_size a_right a_text a_ops a_constants a_heights a_many a_chosen a_firstEnd a_secondEnd a_values a_nodes a_far a_productive a_useful a_covers := by
    intro f_sum a_heights a_many C M d
    induction d with
    | zero =>
      intro h hd h0 f_more a_chosen a_firstEnd a_secondEnd a_values a_nodes I
      obtain ⟨rfl, P⟩ | ⟨_, h6, _⟩ := I
      · exact br_t rfl (hpost _ _ _ _ _ _ _ _ _ _ _ (by decide) ⟨C, M, P⟩ (fun z => absurd rfl z))
      · omega
    | succ d ih =>
      intro h hd h0 f_more a_chosen a_firstEnd a_secondEnd a_values a_nodes I
      obtain ⟨rfl, P⟩ | ⟨rfl, h6, P⟩ := I
      · exact br_t rfl (hpost _ _ _ _ _ _ _ _ _ _ _ (by decide) ⟨C, M, P⟩ (fun z => absurd rfl z))
      · refine br_f (by decide) ⟨980 + 1, K37 (d + 1) f_sum a_heights a_many h C h0 h6 (fun f_more a1 a2 a3 a4 a5 P' fl => ih (h + 1) (by omega) (by omega) _ _ _ _ _ _ ?_) 980 0 rfl 0 _ _ _ _ _ P (Or.inl ⟨rfl, fun n i j hv q => by omega⟩)⟩
        obtain ⟨rfl, no⟩ | ⟨rfl, n, i, j, hv, e⟩ := fl
        · refine Or.inl ⟨rfl, fun n i j hv z _ => P' n i j hv z (Or.inl ?_)⟩
          by_cases c : pu_HH g n i j < h + 1
          · exact c
          · obtain ⟨n', i', j', hv', e'⟩ := pu_cont W C.1 h0 (pu_HH g n i j - h) n i j hv (by omega)
            exact absurd e' (no n' i' j' hv')
        · have := (C.1 n i j hv).2.2
          exact Or.inr ⟨rfl, by omega, P'⟩
  refine br_c (fun _ => ?_) (fun z => hpost _ _ _ _ _ _ _ _ _ _ _ z (hr z).1 (hr z).2)
  refine ys_derive (g := g) W tx mR mF mZ (fun f1 a1 C => ys_count (g := g) W tx mR mF mZ C (fun f2 s2 a2 M => ⟨606 + 1, K23 _ _ _ C M 606 1 (by decide) (by decide) 1 _ _ _ _ _ (Or.inr ⟨rfl, by decide, fun n i j hv z q => by unfold yk_dn at q; omega⟩)⟩))
end
end
section
/-! the reference: distances -/
def fv (d : Nat) : Int32 := if d < 1000000 then nI d else -1
theorem fv_t {d : Nat} (h : d < 1000000) : fv d = nI d := if_pos h
theorem fv_f {d : Nat} (h : ¬ d < 1000000) : fv d = -1 := if_neg h
theorem fv_neg (d : Nat) : fv d < 0 ↔ 1000000 ≤ d := by
  by_cases h : d < 1000000
  · rw [fv_t h, show (0 : Int32) = nI 0 from rfl, nI_ltI (by omega) (by decide)]; omega
  · rw [fv_f h]; exact ⟨fun _ => by omega, fun _ => by decide⟩
def ym_far (g : gr_G) (a : Nat → Int32) (D : pu_C) : Prop := ∀ n i j, pu_V g n i j → a (cy n i j) = fv (D n i j)
def pw_c (D : pu_C) (i j : Nat) : Nat := pu_cnt (fun n => decide (D n i j < 1000000)) 5
/-- how large a distance can be that has been found -/
def pw_B (g : gr_G) (D : pu_C) : Prop := ∀ n i j, pu_V g n i j → D n i j < 1000000 → (i = j → D n i j ≤ 3 ^ pw_c D i j) ∧ (i < j → D n i j ≤ 10000 * (j - i) - 5000 + 486 * pw_c D i j)
theorem pw_c_le (D : pu_C) (i j : Nat) : pw_c D i j ≤ 5 := pu_cnt_le _ _
theorem pw_3 {c : Nat} (h : c ≤ 5) : 1 ≤ 3 ^ c ∧ 3 ^ c ≤ 243 := by
  have : c = 0 ∨ c = 1 ∨ c = 2 ∨ c = 3 ∨ c = 4 ∨ c = 5 := by omega
  obtain rfl | rfl | rfl | rfl | rfl | rfl := this <;> decide
section
variable {g : gr_G} {D : pu_C}
theorem pw_part (W : gr_W g) (B : pw_B g D) {s x y : Nat} (ok : pu_ok s) (hxy : x ≤ y) (hy : y ≤ gr_L g) (r : pd_aw g D s x y < 1000000) : (x = y → pd_aw g D s x y ≤ 3 ^ pw_c D x y) ∧ (x < y → pd_aw g D s x y ≤ 10000 * (y - x) - 5000 + 486 * pw_c D x y) := by
  have hL := W.2.1
  have p3 := pw_3 (pw_c_le D x y)
  by_cases nt : pu_nt s
  · rw [pd_aw_n nt] at *; exact B _ _ _ (xb_ntV ok nt hxy hy) r
  · unfold pu_nt at nt
    unfold pu_ok at ok
    by_cases c1 : s = 99
    · rw [pd_aw_a c1]
      refine ⟨fun e => by omega, fun l => by omega⟩
    · have c2 : s < 10 := by omega
      by_cases e : x = y
      · rw [pd_aw_t1 c2 e]; exact ⟨fun _ => p3.1, fun l => by omega⟩
      · by_cases t : pd_tk g s x y
        · rw [pd_aw_t2 c2 e t]; exact ⟨fun q => absurd q e, fun l => by omega⟩
        · rw [pd_aw_t3 c2 e t]; exact ⟨fun q => absurd q e, fun l => by omega⟩
theorem pw_le (W : gr_W g) (B : pw_B g D) {s x y : Nat} (ok : pu_ok s) (hxy : x ≤ y) (hy : y ≤ gr_L g) (r : pd_aw g D s x y < 1000000) : pd_aw g D s x y ≤ 100000 := by
  have hL := W.2.1
  have c5 := pw_c_le D x y
  have p3 := pw_3 c5
  have p := pw_part W B ok hxy hy r
  by_cases e : x = y
  · have := p.1 e; omega
  · have := p.2 (by omega); omega
/-- the sum of three parts -/
theorem pw_sum (W : gr_W g) (B : pw_B g D) {p i u v j : Nat} (hp : p < gr_P g) (h1 : i ≤ u) (h2 : u ≤ v) (h3 : v ≤ j) (hj : j ≤ gr_L g) (r0 : pd_aw g D (gr_R g (3 * p)) i u < 1000000) (r1 : pd_aw g D (gr_R g (3 * p + 1)) u v < 1000000) (r2 : pd_aw g D (gr_R g (3 * p + 2)) v j < 1000000) : (i = j → pd_sm g D p i u v j ≤ 3 * 3 ^ pw_c D i j) ∧ (i < j → pd_sm g D p i u v j ≤ 10000 * (j - i) - 5000 + 486 * (pw_c D i j + 1)) := by
  have hL := W.2.1
  have p0 := pw_part W B (pu_okR0 W hp) h1 (by omega) r0
  have p1 := pw_part W B (pu_okR W hp (m := 1) (by decide)) h2 (by omega) r1
  have p2 := pw_part W B (pu_okR W hp (m := 2) (by decide)) h3 hj r2
  unfold pd_sm
  generalize pd_aw g D (gr_R g (3 * p)) i u = a0 at *
  generalize pd_aw g D (gr_R g (3 * p + 1)) u v = a1 at *
  generalize pd_aw g D (gr_R g (3 * p + 2)) v j = a2 at *
  have q0 : i = u → a0 ≤ 243 := fun e => by have := p0.1 e; have := (pw_3 (pw_c_le D i u)).2; omega
  have q1 : u = v → a1 ≤ 243 := fun e => by have := p1.1 e; have := (pw_3 (pw_c_le D u v)).2; omega
  have q2 : v = j → a2 ≤ 243 := fun e => by have := p2.1 e; have := (pw_3 (pw_c_le D v j)).2; omega
  have c0 := pw_c_le D i u
  have c1 := pw_c_le D u v
  have c2 := pw_c_le D v j
  constructor
  · intro e
    have e1 : i = u := by omega
    have e2 : u = v := by omega
    have e3 : v = j := by omega
    subst e1 e2 e3
    have t0 := p0.1 rfl
    have t1 := p1.1 rfl
    have t2 := p2.1 rfl
    omega
  · intro l
    by_cases z0 : i = u
    · by_cases z1 : u = v
      · subst z0 z1
        have t0 := q0 rfl
        have t1 := q1 rfl
        have t2 := p2.2 l
        omega
      · by_cases z2 : v = j
        · subst z0 z2
          have t0 := q0 rfl
          have t1 := p1.2 l
          have t2 := q2 rfl
          omega
        · have t0 := q0 z0
          have t1 := p1.2 (by omega)
          have t2 := p2.2 (by omega)
          omega
    · by_cases z1 : u = v
      · by_cases z2 : v = j
        · subst z1 z2
          have t0 := p0.2 l
          have t1 := q1 rfl
          have t2 := q2 rfl
          omega
        · have t0 := p0.2 (by omega)
          have t1 := q1 z1
          have t2 := p2.2 (by omega)
          omega
      · by_cases z2 : v = j
        · have t0 := p0.2 (by omega)
          have t1 := p1.2 (by omega)
          have t2 := q2 z2
          omega
        · have t0 := p0.2 (by omega)
          have t1 := p1.2 (by omega)
          have t2 := p2.2 (by omega)
          omega
/-- a distance that is found or made less keeps the bound -/
theorem pw_up (W : gr_W g) (B : pw_B g D) {n i j r : Nat} (hv : pu_V g n i j) (lt : r < D n i j) (le : D n i j ≤ 1000000) (hr : (i = j → r ≤ 3 * 3 ^ pw_c D i j) ∧ (i < j → r ≤ 10000 * (j - i) - 5000 + 486 * (pw_c D i j + 1))) : pw_B g (up3 D n i j r) := by
  have cm : ∀ a b, pw_c D a b ≤ pw_c (up3 D n i j r) a b := by
    intro a b
    refine pu_cnt_mono (fun x hx h => ?_)
    have h := of_decide_eq_true h
    refine decide_eq_true ?_
    by_cases z : x = n ∧ a = i ∧ b = j
    · obtain ⟨rfl, rfl, rfl⟩ := z
      rw [up3_s]; omega
    · rw [up3_n z]; exact h
  have pm : ∀ a b, 3 ^ pw_c D a b ≤ 3 ^ pw_c (up3 D n i j r) a b := fun a b => Nat.pow_le_pow_right (by decide) (cm a b)
  intro n' i' j' hv' hlt
  by_cases z : n' = n ∧ i' = i ∧ j' = j
  · obtain ⟨rfl, rfl, rfl⟩ := z
    rw [up3_s]
    by_cases c : D n' i' j' < 1000000
    · have b := B _ _ _ hv' c
      have m1 := cm i' j'
      have m2 := pm i' j'
      exact ⟨fun e => by have := b.1 e; omega, fun l => by have := b.2 l; omega⟩
    · have m : pw_c D i' j' + 1 ≤ pw_c (up3 D n' i' j' r) i' j' := by
        refine pu_cnt_lt (x0 := n') (decide_eq_false c) (by rw [up3_s]; exact decide_eq_true (by omega)) (fun x hx h => ?_) hv'.1
        have h := of_decide_eq_true h
        by_cases w : x = n'
        · rw [w] at h; exact absurd h c
        · rw [up3_n (fun q => w q.1)]; exact decide_eq_true h
      have m3 : 3 * 3 ^ pw_c D i' j' ≤ 3 ^ pw_c (up3 D n' i' j' r) i' j' := by
        have : 3 ^ (pw_c D i' j' + 1) ≤ 3 ^ pw_c (up3 D n' i' j' r) i' j' := Nat.pow_le_pow_right (by decide) m
        rw [Nat.pow_succ] at this; omega
      exact ⟨fun e => by have := hr.1 e; omega, fun l => by have := hr.2 l; omega⟩
  · rw [up3_n z] at hlt ⊢
    have b := B _ _ _ hv' hlt
    have m1 := cm i' j'
    have m2 := pm i' j'
    exact ⟨fun e => by have := b.1 e; omega, fun l => by have := b.2 l; omega⟩
end
def pd_yv (g : gr_G) (p u v j : Nat) : Prop := (gr_R g (3 * p + 2) = 99 → v = j) ∧ (gr_R g (3 * p + 1) = 99 → u = j)
def yl_r (g : gr_G) (D : pu_C) (p i j : Nat) (dn : Nat → Nat → Prop) (r : Nat) : Prop := r ≤ 1000000 ∧ (∀ u v, i ≤ u → u ≤ v → v ≤ j → pd_yv g p u v j → dn u v → r ≤ pd_sm g D p i u v j) ∧ (r = 1000000 ∨ ∃ u v, i ≤ u ∧ u ≤ v ∧ v ≤ j ∧ pd_yv g p u v j ∧ r = pd_sm g D p i u v j ∧ pd_aw g D (gr_R g (3 * p)) i u < 1000000 ∧ pd_aw g D (gr_R g (3 * p + 1)) u v < 1000000 ∧ pd_aw g D (gr_R g (3 * p + 2)) v j < 1000000)
section
variable {g : gr_G} {f_goal f_extra f_measured f_known f_more : Int32} {f_sum : Int64} {a_left a_size a_right a_text a_ops a_constants a_heights : Nat → Int32} {a_many : Nat → Int64} {a_chosen a_firstEnd a_secondEnd : Nat → Int32} {a_values a_nodes : Nat → Int64} {a_far a_productive a_useful a_covers : Nat → Int32}
theorem ys_away {post : Int32 → Prop} {D : pu_C} {s i j : Nat} {s' i' j' : Int32} (es : s' = sy_m s) (ei : i' = nI i) (ej : j' = nI j) (ok : pu_ok s) (s99 : s ≠ 99) (hij : i ≤ j) (hj : j ≤ gr_L g) (W : gr_W g) (tx : xm_T g a_text) (mD : ym_far g a_far D) (h : post (fv (pd_aw g D s i j))) : wpY_away post (nI (gr_P g), nI (gr_L g), f_goal, f_extra, f_measured, f_known, f_more, f_sum, a_left, a_size, a_right, a_text, a_ops, a_constants, a_heights, a_many, a_chosen, a_firstEnd, a_secondEnd, a_values, a_nodes, a_far, a_productive, a_useful, a_covers) s' i' j' := by
  subst es ei ej
  have hL := W.2.1
  have sb : nI j - nI i = nI (j - i) := pk_sub hij
  refine ek_if (sy_lt ok) (fun c => ?_) (fun c => ?_)
  · have c2 : s < 10 := by omega
    have K : ∀ d k, k + d = j → i ≤ k → (∀ q, i ≤ q → q < k → gr_T g q ≠ s) → wY_away_26 post (sy_m s) (nI i) (nI j) (nI (gr_P g)) (nI (gr_L g)) f_goal f_extra f_measured f_known f_more f_sum a_left a_size a_right a_text a_ops a_constants a_heights a_many a_chosen a_firstEnd a_secondEnd a_values a_nodes a_far a_productive a_useful a_covers (d + 1) (nI k) := by
      intro d
      induction d with
      | zero =>
        intro k hk hik hist
        have nt : ¬ pd_tk g s i j := fun ⟨q, q1, q2, q3⟩ => hist q q1 (by omega) q3
        refine br_t (nI_le (by omega) (by omega)) (pk_eq i j (fun e => ?_) (fun e => ?_))
        · rw [pd_aw_t1 c2 e] at h; exact h
        · rw [pd_aw_t3 c2 e nt, fv_t (by omega)] at h; rw [sb]; exact h
      | succ d ih =>
        intro k hk hik hist
        refine br_f (nI_ge (by omega) (by omega)) ⟨vp_in_nI (by omega) (by decide), ek_if (d := gr_T g k = s) (by rw [nI_clamp (by omega), tx k (by omega)]; exact sy_eq ok (W.2.2.2.2.2 k (by omega))) (fun e => ?_) (fun e => nm_r (nI_1 k) (ih (k + 1) (by omega) (by omega) (fun q h1 h2 => ?_)))⟩
        · rw [pd_aw_t2 c2 (by omega) ⟨k, hik, by omega, e⟩, fv_t (by omega)] at h
          obtain ⟨q, hq⟩ : ∃ q, j - i = q + 1 := ⟨j - i - 1, by omega⟩
          rw [sb, hq, nI_pred]
          rw [hq] at h; exact h
        · by_cases c : q = k
          · rw [c]; exact e
          · exact hist q h1 (by omega)
    exact ⟨j - i + 1, K (j - i) i (by omega) (Nat.le_refl _) (fun q h1 h2 => by omega)⟩
  · have nt : pu_nt s := by unfold pu_nt; unfold pu_ok at ok; omega
    have hv := xb_ntV ok nt hij hj
    have hl := cy_lt W hv
    refine ys_cell (s - 10) i j (sy_nt nt) rfl rfl ⟨vp_in_nI hl (by decide), ?_⟩
    rw [nI_clamp (by omega), mD _ _ _ hv]
    rw [pd_aw_n nt] at h; exact h
theorem ys_least40 {post : Int32 → Prop} {J25 : Int32 → Int32 → Prop} {D : pu_C} {p i j u : Nat} (W : gr_W g) (hp : p < gr_P g) (k0 : 0 < pu_k g p) (hiu : i ≤ u) (huj : u ≤ j) (hj : j ≤ gr_L g) (tx : xm_T g a_text) (mR : xm_R g a_right) (mD : ym_far g a_far D) (B : pw_B g D)
    (hJ : ∀ r, yl_r g D p i j (yb_dn (u + 1) 0) r → J25 (fv r) (nI (u + 1))) :
    ∀ d v r, v + d = j + 1 → u ≤ v → yl_r g D p i j (yb_dn u v) r → wY_least_40 post J25 (nI p) (nI i) (nI j) (nI (pu_k g p)) (nI u) (nI (gr_P g)) (nI (gr_L g)) f_goal f_extra f_measured f_known f_more f_sum a_left a_size a_right a_text a_ops a_constants a_heights a_many a_chosen a_firstEnd a_secondEnd a_values a_nodes a_far a_productive a_useful a_covers (d + 1) (fv r) (nI v) := by
  have hL := W.2.1
  have hP := W.1
  have k3 := pu_k_le g p
  have ok0 := pu_okR0 W hp
  have ok1 := pu_okR W hp (m := 1) (by decide)
  have ok2 := pu_okR W hp (m := 2) (by decide)
  intro d
  induction d with
  | zero =>
    intro v r hvd huv I
    exact br_t (nI_lt (by omega) (by omega)) (nm_r (nI_1 u) (hJ r ⟨I.1, fun u' v' h1 h2 h3 h4 h5 => I.2.1 u' v' h1 h2 h3 h4 (by unfold yb_dn at *; omega), I.2.2⟩))
  | succ d ih =>
    intro v r hvd huv I
    have I1 := I.1
    have skip : (pd_yv g p u v j → r ≤ pd_sm g D p i u v j) → wY_least_40 post J25 (nI p) (nI i) (nI j) (nI (pu_k g p)) (nI u) (nI (gr_P g)) (nI (gr_L g)) f_goal f_extra f_measured f_known f_more f_sum a_left a_size a_right a_text a_ops a_constants a_heights a_many a_chosen a_firstEnd a_secondEnd a_values a_nodes a_far a_productive a_useful a_covers (d + 1) (fv r) (nI (v + 1)) := by
      intro sk
      refine ih (v + 1) r (by omega) (by omega) ⟨I.1, fun u' v' h1 h2 h3 h4 h5 => ?_, I.2.2⟩
      by_cases c : u' = u ∧ v' = v
      · rw [c.1, c.2] at h4 ⊢; exact sk h4
      · exact I.2.1 u' v' h1 h2 h3 h4 (by unfold yb_dn at *; omega)
    have take : pd_yv g p u v j → pd_aw g D (gr_R g (3 * p)) i u < 1000000 → pd_aw g D (gr_R g (3 * p + 1)) u v < 1000000 → pd_aw g D (gr_R g (3 * p + 2)) v j < 1000000 → pd_sm g D p i u v j < r → wY_least_40 post J25 (nI p) (nI i) (nI j) (nI (pu_k g p)) (nI u) (nI (gr_P g)) (nI (gr_L g)) f_goal f_extra f_measured f_known f_more f_sum a_left a_size a_right a_text a_ops a_constants a_heights a_many a_chosen a_firstEnd a_secondEnd a_values a_nodes a_far a_productive a_useful a_covers (d + 1) (fv (pd_sm g D p i u v j)) (nI (v + 1)) := by
      intro yv r0 r1 r2 lt
      refine ih (v + 1) _ (by omega) (by omega) ⟨by omega, fun u' v' h1 h2 h3 h4 h5 => ?_, Or.inr ⟨u, v, hiu, huv, by omega, yv, rfl, r0, r1, r2⟩⟩
      by_cases c : u' = u ∧ v' = v
      · rw [c.1, c.2]; exact Nat.le_refl _
      · have := I.2.1 u' v' h1 h2 h3 h4 (by unfold yb_dn at *; omega); omega
    have T147 : pd_yv g p u v j → ∀ a0 a1 a2 : Int32, a0 = fv (pd_aw g D (gr_R g (3 * p)) i u) → a1 = fv (pd_aw g D (gr_R g (3 * p + 1)) u v) → a2 = fv (pd_aw g D (gr_R g (3 * p + 2)) v j) → wY_least_147 post J25 (wY_least_40 post J25 (nI p) (nI i) (nI j) (nI (pu_k g p)) (nI u) (nI (gr_P g)) (nI (gr_L g)) f_goal f_extra f_measured f_known f_more f_sum a_left a_size a_right a_text a_ops a_constants a_heights a_many a_chosen a_firstEnd a_secondEnd a_values a_nodes a_far a_productive a_useful a_covers (d + 1)) (nI p) (nI i) (nI j) (nI (pu_k g p)) (fv r) (nI u) (nI v) a0 a1 a2 (nI (gr_P g)) (nI (gr_L g)) f_goal f_extra f_measured f_known f_more f_sum a_left a_size a_right a_text a_ops a_constants a_heights a_many a_chosen a_firstEnd a_secondEnd a_values a_nodes a_far a_productive a_useful a_covers := by
      intro yv a0 a1 a2 e0 e1 e2
      subst e0 e1 e2
      refine ek_if (fv_neg _) (fun z => nm_r (nI_1 v) (skip (fun _ => by unfold pd_sm; omega))) (fun z0 => ek_if (fv_neg _) (fun z => nm_r (nI_1 v) (skip (fun _ => by unfold pd_sm; omega))) (fun z1 => ek_if (fv_neg _) (fun z => nm_r (nI_1 v) (skip (fun _ => by unfold pd_sm; omega))) (fun z2 => ?_)))
      have b0 := pw_le W B ok0 hiu (by omega) (show pd_aw g D (gr_R g (3 * p)) i u < 1000000 by omega)
      have b1 := pw_le W B ok1 huv (by omega) (show pd_aw g D (gr_R g (3 * p + 1)) u v < 1000000 by omega)
      have b2 := pw_le W B ok2 (show v ≤ j by omega) hj (show pd_aw g D (gr_R g (3 * p + 2)) v j < 1000000 by omega)
      have sm : pd_sm g D p i u v j < 1000000 := by unfold pd_sm; omega
      have es : fv (pd_aw g D (gr_R g (3 * p)) i u) + fv (pd_aw g D (gr_R g (3 * p + 1)) u v) + fv (pd_aw g D (gr_R g (3 * p + 2)) v j) = nI (pd_sm g D p i u v j) := by
        rw [fv_t (by omega), fv_t (by omega), fv_t (by omega), nI_add, nI_add]; rfl
      have T182 : pd_sm g D p i u v j < r → wY_least_182 post J25 (wY_least_40 post J25 (nI p) (nI i) (nI j) (nI (pu_k g p)) (nI u) (nI (gr_P g)) (nI (gr_L g)) f_goal f_extra f_measured f_known f_more f_sum a_left a_size a_right a_text a_ops a_constants a_heights a_many a_chosen a_firstEnd a_secondEnd a_values a_nodes a_far a_productive a_useful a_covers (d + 1)) (nI p) (nI i) (nI j) (nI (pu_k g p)) (nI u) (nI v) (fv (pd_aw g D (gr_R g (3 * p)) i u)) (fv (pd_aw g D (gr_R g (3 * p + 1)) u v)) (fv (pd_aw g D (gr_R g (3 * p + 2)) v j)) (nI (gr_P g)) (nI (gr_L g)) f_goal f_extra f_measured f_known f_more f_sum a_left a_size a_right a_text a_ops a_constants a_heights a_many a_chosen a_firstEnd a_secondEnd a_values a_nodes a_far a_productive a_useful a_covers := by
        intro lt
        have t := take yv (by omega) (by omega) (by omega) lt
        rw [fv_t sm] at t
        exact nm_r es (nm_r (nI_1 v) t)
      refine ek_if (fv_neg r) (fun z => T182 (by omega)) (fun z => ?_)
      rw [es]
      exact pk_le r (pd_sm g D p i u v j) (fun l => nm_r (nI_1 v) (skip (fun _ => l))) (fun l => T182 l) (fv_t (by omega)) rfl
    have c := pu_k_c W hp
    have z0 : ∀ {s x : Nat}, s = 99 → (0 : Int32) = fv (pd_aw g D s x x) := fun e => by rw [pd_aw_a e, Nat.sub_self]; rfl
    have T118 : pd_yv g p u v j → ∀ a0 a1 : Int32, a0 = fv (pd_aw g D (gr_R g (3 * p)) i u) → a1 = fv (pd_aw g D (gr_R g (3 * p + 1)) u v) → wY_least_118 post J25 (wY_least_40 post J25 (nI p) (nI i) (nI j) (nI (pu_k g p)) (nI u) (nI (gr_P g)) (nI (gr_L g)) f_goal f_extra f_measured f_known f_more f_sum a_left a_size a_right a_text a_ops a_constants a_heights a_many a_chosen a_firstEnd a_secondEnd a_values a_nodes a_far a_productive a_useful a_covers (d + 1)) (nI p) (nI i) (nI j) (nI (pu_k g p)) (fv r) (nI u) (nI v) a0 a1 (nI (gr_P g)) (nI (gr_L g)) f_goal f_extra f_measured f_known f_more f_sum a_left a_size a_right a_text a_ops a_constants a_heights a_many a_chosen a_firstEnd a_secondEnd a_values a_nodes a_far a_productive a_useful a_covers := by
      intro yv a0 a1 e0 e1
      refine pk_le 3 (pu_k g p) (fun l => ⟨xb_i2 (by omega), ys_away (D := D) (xm_R2 W mR hp) rfl rfl ok2 (by omega) (by omega) hj W tx mD (T147 yv _ _ _ e0 e1 rfl)⟩) (fun l => T147 yv _ _ _ e0 e1 ?_)
      have r2 : gr_R g (3 * p + 2) = 99 := by omega
      rw [yv.1 r2]; exact z0 r2
    have T73 : pd_yv g p u v j → wY_least_73 post J25 (wY_least_40 post J25 (nI p) (nI i) (nI j) (nI (pu_k g p)) (nI u) (nI (gr_P g)) (nI (gr_L g)) f_goal f_extra f_measured f_known f_more f_sum a_left a_size a_right a_text a_ops a_constants a_heights a_many a_chosen a_firstEnd a_secondEnd a_values a_nodes a_far a_productive a_useful a_covers (d + 1)) (nI p) (nI i) (nI j) (nI (pu_k g p)) (fv r) (nI u) (nI v) (nI (gr_P g)) (nI (gr_L g)) f_goal f_extra f_measured f_known f_more f_sum a_left a_size a_right a_text a_ops a_constants a_heights a_many a_chosen a_firstEnd a_secondEnd a_values a_nodes a_far a_productive a_useful a_covers := by
      intro yv
      refine ⟨xb_i0 (by omega), ys_away (D := D) (xm_R0 W mR hp) rfl rfl ok0 (by omega) hiu (by omega) W tx mD (pk_le 2 (pu_k g p) (fun l => ⟨xb_i1 (by omega), ys_away (D := D) (xm_R1 W mR hp) rfl rfl ok1 (by omega) huv (by omega) W tx mD (T118 yv _ _ rfl rfl)⟩) (fun l => T118 yv _ _ rfl ?_))⟩
      have r1 : gr_R g (3 * p + 1) = 99 := by omega
      have e := yv.2 r1
      rw [show v = u by omega]; exact z0 r1
    have T58 : (gr_R g (3 * p + 2) = 99 → v = j) → wY_least_58 post J25 (wY_least_40 post J25 (nI p) (nI i) (nI j) (nI (pu_k g p)) (nI u) (nI (gr_P g)) (nI (gr_L g)) f_goal f_extra f_measured f_known f_more f_sum a_left a_size a_right a_text a_ops a_constants a_heights a_many a_chosen a_firstEnd a_secondEnd a_values a_nodes a_far a_productive a_useful a_covers (d + 1)) (nI p) (nI i) (nI j) (nI (pu_k g p)) (fv r) (nI u) (nI v) (nI (gr_P g)) (nI (gr_L g)) f_goal f_extra f_measured f_known f_more f_sum a_left a_size a_right a_text a_ops a_constants a_heights a_many a_chosen a_firstEnd a_secondEnd a_values a_nodes a_far a_productive a_useful a_covers := by
      intro y2
      exact pk_le 2 (pu_k g p) (fun l => T73 ⟨y2, fun q => by omega⟩) (fun l => pk_le j u (fun l2 => T73 ⟨y2, fun q => by omega⟩) (fun l2 => nm_r (nI_1 v) (skip (fun yv => by have := yv.2 (by omega); omega))))
    exact br_f (nI_nlt (by omega) (by omega)) (pk_le 3 (pu_k g p) (fun l => T58 (fun q => by omega)) (fun l => pk_lt v j (fun l2 => nm_r (nI_1 v) (skip (fun yv => by have := yv.1 (by omega); omega))) (fun l2 => T58 (fun q => by omega))))
theorem ys_least {post : Int32 → Prop} {D : pu_C} {p i j : Nat} (W : gr_W g) (hp : p < gr_P g) (hij : i ≤ j) (hj : j ≤ gr_L g) (tx : xm_T g a_text) (mR : xm_R g a_right) (mZ : ym_Z g a_size) (mD : ym_far g a_far D) (B : pw_B g D) (h : ∀ r, yl_r g D p i j (fun _ _ => True) r → post (fv r)) : wpY_least post (nI (gr_P g), nI (gr_L g), f_goal, f_extra, f_measured, f_known, f_more, f_sum, a_left, a_size, a_right, a_text, a_ops, a_constants, a_heights, a_many, a_chosen, a_firstEnd, a_secondEnd, a_values, a_nodes, a_far, a_productive, a_useful, a_covers) (nI p) (nI i) (nI j) := by
  have hL := W.2.1
  have hP := W.1
  have k3 := pu_k_le g p
  refine ⟨vp_in_nI (by omega) (by decide), nm_r (e' := nI (pu_k g p)) (by rw [nI_clamp (by omega)]; exact mZ p hp) (pk_eq (pu_k g p) 0 (fun e => nm_r (e' := nI (j - i)) (pk_sub hij) ⟨1, ?_⟩) (fun e => ⟨j + 1 - i + 1, ?_⟩))⟩
  · have c := pu_k_c W hp
    have r0 : gr_R g (3 * p) = 99 := by omega
    have r1 : gr_R g (3 * p + 1) = 99 := by omega
    have r2 : gr_R g (3 * p + 2) = 99 := by omega
    have sm : ∀ u v, i ≤ u → u ≤ v → v ≤ j → pd_sm g D p i u v j = j - i := by
      intro u v h1 h2 h3
      unfold pd_sm; rw [pd_aw_a r0, pd_aw_a r1, pd_aw_a r2]; omega
    refine br_f (nI_nlt (by omega) (by omega)) (br_t (by rw [e]; decide) ?_)
    have := h (j - i) ⟨by omega, fun u v h1 h2 h3 _ _ => by rw [sm u v h1 h2 h3]; exact Nat.le_refl _, Or.inr ⟨j, j, hij, Nat.le_refl _, Nat.le_refl _, ⟨fun _ => rfl, fun _ => rfl⟩, (sm j j hij (Nat.le_refl _) (Nat.le_refl _)).symm, by rw [pd_aw_a r0]; omega, by rw [pd_aw_a r1]; omega, by rw [pd_aw_a r2]; omega⟩⟩
    rw [fv_t (by omega)] at this
    exact this
  · have K25 : ∀ d u r, u + d = j + 1 → i ≤ u → yl_r g D p i j (yb_dn u 0) r → wY_least_25 post (nI p) (nI i) (nI j) (nI (pu_k g p)) (nI (gr_P g)) (nI (gr_L g)) f_goal f_extra f_measured f_known f_more f_sum a_left a_size a_right a_text a_ops a_constants a_heights a_many a_chosen a_firstEnd a_secondEnd a_values a_nodes a_far a_productive a_useful a_covers (d + 1) (fv r) (nI u) := by
      intro d
      induction d with
      | zero =>
        intro u r hu hiu I
        exact br_t (nI_lt (by omega) (by omega)) (h r ⟨I.1, fun u' v' h1 h2 h3 h4 _ => I.2.1 u' v' h1 h2 h3 h4 (by unfold yb_dn; omega), I.2.2⟩)
      | succ d ih =>
        intro u r hu hiu I
        refine br_f (nI_nlt (by omega) (by omega)) (br_f (nI_nle (by omega) (by omega)) ⟨j + 1 - u + 1, ?_⟩)
        exact ys_least40 (g := g) W hp (by omega) hiu (by omega) hj tx mR mD B (fun r' I' => ih (u + 1) r' (by omega) (by omega) I') (j + 1 - u) u r (by omega) (Nat.le_refl _) ⟨I.1, fun u' v' h1 h2 h3 h4 h5 => I.2.1 u' v' h1 h2 h3 h4 (by unfold yb_dn at *; omega), I.2.2⟩
    exact K25 (j + 1 - i) i 1000000 (by omega) (Nat.le_refl _) ⟨Nat.le_refl _, fun u v h1 h2 h3 _ d => by unfold yb_dn at d; omega, Or.inl rfl⟩
end
end
section
/-! the reference: distances, until nothing changes -/
def pd_w (D : pu_C) : Nat := pu_sum (fun x => D (x / 121) (x / 11 % 11) (x % 11)) 605
theorem pd_w_up {g : gr_G} {D : pu_C} {n i j r : Nat} (W : gr_W g) (hv : pu_V g n i j) (lt : r < D n i j) : pd_w (up3 D n i j r) < pd_w D := by
  obtain ⟨e1, e2, e3⟩ := pd_cell W hv
  refine pu_sum_lt (x0 := cx n i j) ?_ (fun x hx => ?_) (cx_lt W hv)
  · rw [e1, e2, e3, up3_s]; exact lt
  · by_cases z : x / 121 = n ∧ x / 11 % 11 = i ∧ x % 11 = j
    · rw [z.1, z.2.1, z.2.2, up3_s]; omega
    · rw [up3_n z]; exact Nat.le_refl _
theorem ym_far_up {g : gr_G} {a : Nat → Int32} {D : pu_C} (W : gr_W g) (m : ym_far g a D) {n i j r : Nat} (hv : pu_V g n i j) (hr : r < 1000000) : ym_far g (upd a (cy n i j) (nI r)) (up3 D n i j r) := by
  intro a' b c hv'
  by_cases z : a' = n ∧ b = i ∧ c = j
  · obtain ⟨rfl, rfl, rfl⟩ := z
    rw [pk_us, up3_s, fv_t hr]
  · rw [up3_n z, pk_un (fun e => z (cy_inj W hv' hv e))]
    exact m a' b c hv'
def yv_I (g : gr_G) (D : pu_C) : Prop := (∀ n i j, pu_V g n i j → D n i j ≤ 1000000) ∧ (∀ D', pd_Y g D' → pd_le g D' D) ∧ pw_B g D
def yv_P (g : gr_G) (m0 : Nat) (dn : Nat → Nat → Nat → Prop) (more : Int32) (a : Nat → Int32) : Prop := ∃ D, ym_far g a D ∧ yv_I g D ∧ ((more = 0 ∧ pd_w D ≤ m0 ∧ ∀ p i j, p < gr_P g → i ≤ j → j ≤ gr_L g → dn p i j → ∀ u v, i ≤ u → u ≤ v → v ≤ j → pd_yv g p u v j → D (gr_F g p) i j ≤ pd_sm g D p i u v j) ∨ (more = 1 ∧ pd_w D < m0))
theorem yv_P_dn {g : gr_G} {m0 : Nat} {dn dn' : Nat → Nat → Nat → Prop} {more : Int32} {a : Nat → Int32} (l : yv_P g m0 dn more a) (h : ∀ p i j, p < gr_P g → i ≤ j → j ≤ gr_L g → dn' p i j → dn p i j) : yv_P g m0 dn' more a := by
  obtain ⟨D, h1, h2, ⟨e, mu, h3⟩ | h3⟩ := l
  · exact ⟨D, h1, h2, Or.inl ⟨e, mu, fun p i j a b c d => h3 p i j a b c (h p i j a b c d)⟩⟩
  · exact ⟨D, h1, h2, Or.inr h3⟩
def ym_Far (g : gr_G) (a : Nat → Int32) : Prop := ym_far g a (pd_D g)
section
variable {g : gr_G} {f_goal f_extra f_measured f_known f_more : Int32} {f_sum : Int64} {a_left a_size a_right a_text a_ops a_constants a_heights : Nat → Int32} {a_many : Nat → Int64} {a_chosen a_firstEnd a_secondEnd : Nat → Int32} {a_values a_nodes : Nat → Int64} {a_far a_productive a_useful a_covers : Nat → Int32}
theorem ys_measureSpan {post : SY → Prop} {m0 i j : Nat} (W : gr_W g) (hij : i ≤ j) (hj : j ≤ gr_L g) (tx : xm_T g a_text) (mR : xm_R g a_right) (mF : xm_F g a_left) (mZ : ym_Z g a_size) (l : yv_P g m0 (yd_dn i j 0) f_more a_far) (hpost : ∀ (f_more : Int32) (a_far : Nat → Int32), yv_P g m0 (yd_dn i j (gr_P g)) f_more a_far → post (nI (gr_P g), nI (gr_L g), f_goal, f_extra, f_measured, f_known, f_more, f_sum, a_left, a_size, a_right, a_text, a_ops, a_constants, a_heights, a_many, a_chosen, a_firstEnd, a_secondEnd, a_values, a_nodes, a_far, a_productive, a_useful, a_covers)) : wpY_measureSpan post (nI (gr_P g), nI (gr_L g), f_goal, f_extra, f_measured, f_known, f_more, f_sum, a_left, a_size, a_right, a_text, a_ops, a_constants, a_heights, a_many, a_chosen, a_firstEnd, a_secondEnd, a_values, a_nodes, a_far, a_productive, a_useful, a_covers) (nI i) (nI j) := by
  have hL := W.2.1
  have hP := W.1
  have K : ∀ d p, p + d = gr_P g → ∀ (f_more : Int32) (a_far : Nat → Int32), yv_P g m0 (yd_dn i j p) f_more a_far → wY_measureSpan_2 post (nI i) (nI j) (nI (gr_P g)) (nI (gr_L g)) f_goal f_extra f_measured f_known f_sum (d + 1) (nI p) f_more a_left a_size a_right a_text a_ops a_constants a_heights a_many a_chosen a_firstEnd a_secondEnd a_values a_nodes a_far a_productive a_useful a_covers := by
    intro d
    induction d with
    | zero =>
      intro p hp f_more a_far l
      have e : p = gr_P g := by omega
      subst e
      exact br_t (nI_le (Nat.le_refl _) (by omega)) (hpost _ _ l)
    | succ d ih =>
      intro p hp f_more a_far l
      have hp' : p < gr_P g := by omega
      have hv : pu_V g (gr_F g p) i j := ⟨W.2.2.1 p hp', hij, hj⟩
      have hl := cy_lt W hv
      have hin : vp_in (nI (cy (gr_F g p) i j)) 980 := vp_in_nI hl (by decide)
      have ec : (nI (cy (gr_F g p) i j)).toNatClampNeg = cy (gr_F g p) i j := nI_clamp (by omega)
      obtain ⟨D, mD, I, fl⟩ := l
      have Dle := I.1 _ _ _ hv
      refine br_f (nI_ge (by omega) (by omega)) (ys_least (g := g) (D := D) W hp' hij hj tx mR mZ mD I.2.2 (fun r hr => ⟨vp_in_nI (by omega) (by decide), ys_cell (gr_F g p) i j (xm_Fp W mF hp') rfl rfl ?_⟩))
      obtain ⟨r1, r2, r3⟩ := hr
      have skip : D (gr_F g p) i j ≤ r → wY_measureSpan_2 post (nI i) (nI j) (nI (gr_P g)) (nI (gr_L g)) f_goal f_extra f_measured f_known f_sum (d + 1) (nI (p + 1)) f_more a_left a_size a_right a_text a_ops a_constants a_heights a_many a_chosen a_firstEnd a_secondEnd a_values a_nodes a_far a_productive a_useful a_covers := by
        intro le
        refine ih (p + 1) (by omega) _ _ ⟨D, mD, I, ?_⟩
        obtain ⟨e, mu, h3⟩ | h3 := fl
        · refine Or.inl ⟨e, mu, fun p' i' j' q1 q2 q3 q4 u v h1 h2 h4 yv => ?_⟩
          by_cases z : p' = p ∧ i' = i ∧ j' = j
          · obtain ⟨rfl, rfl, rfl⟩ := z
            exact Nat.le_trans le (r2 u v h1 h2 h4 yv trivial)
          · exact h3 p' i' j' q1 q2 q3 (by unfold yd_dn at *; omega) u v h1 h2 h4 yv
        · exact Or.inr h3
      have take : r < 1000000 → r < D (gr_F g p) i j → wY_measureSpan_60 post (wY_measureSpan_2 post (nI i) (nI j) (nI (gr_P g)) (nI (gr_L g)) f_goal f_extra f_measured f_known f_sum (d + 1)) (nI i) (nI j) (nI p) (nI r) (nI (cy (gr_F g p) i j)) (nI (gr_P g)) (nI (gr_L g)) f_goal f_extra f_measured f_known f_more f_sum a_left a_size a_right a_text a_ops a_constants a_heights a_many a_chosen a_firstEnd a_secondEnd a_values a_nodes a_far a_productive a_useful a_covers := by
        intro rl lt
        obtain e | ⟨u, v, h1, h2, h3, yv, e, q0, q1, q2⟩ := r3
        · omega
        · refine ⟨hin, nm_r (e' := upd a_far (cy (gr_F g p) i j) (nI r)) (by rw [ec]) (nm_r (nI_1 p) (ih (p + 1) (by omega) 1 _ ⟨up3 D (gr_F g p) i j r, ym_far_up W mD hv rl, ⟨fun n' i' j' hv' => ?_, fun D' y n' i' j' hv' => ?_, pw_up W I.2.2 hv lt Dle ?_⟩, Or.inr ⟨rfl, ?_⟩⟩))⟩
          · by_cases z : n' = gr_F g p ∧ i' = i ∧ j' = j
            · obtain ⟨rfl, rfl, rfl⟩ := z
              rw [up3_s]; omega
            · rw [up3_n z]; exact I.1 _ _ _ hv'
          · by_cases z : n' = gr_F g p ∧ i' = i ∧ j' = j
            · obtain ⟨rfl, rfl, rfl⟩ := z
              rw [up3_s, e]
              exact Nat.le_trans (y.2 p i' u v j' hp' h1 h2 h3 hj yv.1 yv.2) (pd_sm_mono W (I.2.1 D' y) hp' h1 h2 h3 hj)
            · rw [up3_n z]; exact I.2.1 D' y _ _ _ hv'
          · rw [e]; exact pw_sum W I.2.2 hp' h1 h2 h3 hj q0 q1 q2
          · have := pd_w_up W hv lt
            obtain ⟨_, mu, _⟩ | ⟨_, mu⟩ := fl <;> omega
      refine ek_if (fv_neg r) (fun z => nm_r (nI_1 p) (skip (by omega))) (fun z => ⟨hin, ?_⟩)
      have rl : r < 1000000 := by omega
      rw [ec, mD _ _ _ hv, fv_t rl]
      refine ek_if (fv_neg _) (fun z2 => take rl (by omega)) (fun z2 => ⟨hin, ?_⟩)
      exact pk_le (D (gr_F g p) i j) r (fun le => nm_r (nI_1 p) (skip le)) (fun lt => take rl lt) (fv_t (by omega)) rfl
  exact ⟨gr_P g + 1, K (gr_P g) 0 (by omega) _ _ l⟩
theorem ys_measure {post : SY → Prop} (W : gr_W g) (tx : xm_T g a_text) (mR : xm_R g a_right) (mF : xm_F g a_left) (mZ : ym_Z g a_size) (hr : f_measured ≠ 0 → ym_Far g a_far) (hpost : ∀ (f_measured f_more : Int32) (a_far : Nat → Int32), f_measured ≠ 0 → ym_Far g a_far → post (nI (gr_P g), nI (gr_L g), f_goal, f_extra, f_measured, f_known, f_more, f_sum, a_left, a_size, a_right, a_text, a_ops, a_constants, a_heights, a_many, a_chosen, a_firstEnd, a_secondEnd, a_values, a_nodes, a_far, a_productive, a_useful, a_covers)) : wpY_measure post (nI (gr_P g), nI (gr_L g), f_goal, f_extra, f_measured, f_known, f_more, f_sum, a_left, a_size, a_right, a_text, a_ops, a_constants, a_heights, a_many, a_chosen, a_firstEnd, a_secondEnd, a_values, a_nodes, a_far, a_productive, a_useful, a_covers) := by
  have hL := W.2.1
  have K64 : ∀ {J40 : Int32 → Int32 → Int32 → Int32 → Int32 → Int32 → Int32 → Int64 → (Nat → Int32) → (Nat → Int32) → (Nat → Int32) → (Nat → Int32) → (Nat → Int32) → (Nat → Int32) → (Nat → Int32) → (Nat → Int64) → (Nat → Int32) → (Nat → Int32) → (Nat → Int32) → (Nat → Int64) → (Nat → Int64) → (Nat → Int32) → (Nat → Int32) → (Nat → Int32) → (Nat → Int32) → Prop} {J54 : Int32 → Int32 → Int32 → Int32 → Int32 → Int32 → Int32 → Int32 → Int64 → (Nat → Int32) → (Nat → Int32) → (Nat → Int32) → (Nat → Int32) → (Nat → Int32) → (Nat → Int32) → (Nat → Int32) → (Nat → Int64) → (Nat → Int32) → (Nat → Int32) → (Nat → Int32) → (Nat → Int64) → (Nat → Int64) → (Nat → Int32) → (Nat → Int32) → (Nat → Int32) → (Nat → Int32) → Prop} (m0 i : Nat), i ≤ gr_L g → (∀ (f_more : Int32) (a_far : Nat → Int32), yv_P g m0 (yd_dn (i + 1) (i + 1) 0) f_more a_far → J54 (nI (i + 1)) (nI (gr_P g)) (nI (gr_L g)) f_goal f_extra 1 f_known f_more f_sum a_left a_size a_right a_text a_ops a_constants a_heights a_many a_chosen a_firstEnd a_secondEnd a_values a_nodes a_far a_productive a_useful a_covers) → ∀ d j, j + d = gr_L g + 1 → i ≤ j → ∀ (f_more : Int32) (a_far : Nat → Int32), yv_P g m0 (yd_dn i j 0) f_more a_far → wY_measure_64 post J40 J54 (nI i) (d + 1) (nI j) (nI (gr_P g)) (nI (gr_L g)) f_goal f_extra 1 f_known f_more f_sum a_left a_size a_right a_text a_ops a_constants a_heights a_many a_chosen a_firstEnd a_secondEnd a_values a_nodes a_far a_productive a_useful a_covers := by
    intro J40 J54 m0 i hi hJ d
    induction d with
    | zero =>
      intro j hj hij f_more a_far l
      refine br_t (nI_lt (by omega) (by omega)) (nm_r (nI_1 i) (hJ _ _ (yv_P_dn l (fun n' i' j' _ h1 h2 q => ?_))))
      unfold yd_dn at *; omega
    | succ d ih =>
      intro j hj hij f_more a_far l
      refine br_f (nI_nlt (by omega) (by omega)) (ys_measureSpan (g := g) W hij (by omega) tx mR mF mZ l (fun f_more a_far l' => nm_r (nI_1 j) (ih (j + 1) (by omega) (by omega) _ _ (yv_P_dn l' (fun n' i' j' _ h1 h2 q => ?_)))))
      unfold yd_dn at *; omega
  have K54 : ∀ {J40 : Int32 → Int32 → Int32 → Int32 → Int32 → Int32 → Int32 → Int64 → (Nat → Int32) → (Nat → Int32) → (Nat → Int32) → (Nat → Int32) → (Nat → Int32) → (Nat → Int32) → (Nat → Int32) → (Nat → Int64) → (Nat → Int32) → (Nat → Int32) → (Nat → Int32) → (Nat → Int64) → (Nat → Int64) → (Nat → Int32) → (Nat → Int32) → (Nat → Int32) → (Nat → Int32) → Prop} (m0 : Nat), (∀ (f_more : Int32) (a_far : Nat → Int32), yv_P g m0 (fun _ _ _ => True) f_more a_far → J40 (nI (gr_P g)) (nI (gr_L g)) f_goal f_extra 1 f_known f_more f_sum a_left a_size a_right a_text a_ops a_constants a_heights a_many a_chosen a_firstEnd a_secondEnd a_values a_nodes a_far a_productive a_useful a_covers) → ∀ d i, i + d = gr_L g + 1 → ∀ (f_more : Int32) (a_far : Nat → Int32), yv_P g m0 (yd_dn i i 0) f_more a_far → wY_measure_54 post J40 (d + 1) (nI i) (nI (gr_P g)) (nI (gr_L g)) f_goal f_extra 1 f_known f_more f_sum a_left a_size a_right a_text a_ops a_constants a_heights a_many a_chosen a_firstEnd a_secondEnd a_values a_nodes a_far a_productive a_useful a_covers := by
    intro J40 m0 hJ d
    induction d with
    | zero =>
      intro i hi f_more a_far l
      refine br_t (nI_lt (by omega) (by omega)) (hJ _ _ (yv_P_dn l (fun n' i' j' _ h1 h2 q => ?_)))
      unfold yd_dn at *; omega
    | succ d ih =>
      intro i hi f_more a_far l
      exact br_f (nI_nlt (by omega) (by omega)) ⟨d + 1 + 1, K64 m0 i (by omega) (fun f_more a_far l' => ih (i + 1) (by omega) _ _ l') (d + 1) i (by omega) (Nat.le_refl _) _ _ l⟩
  have F : ∀ n (a_far : Nat → Int32) D, ym_far g a_far D → yv_I g D → pd_Y g D → wY_measure_40 post (n + 1) (nI (gr_P g)) (nI (gr_L g)) f_goal f_extra 1 f_known 0 f_sum a_left a_size a_right a_text a_ops a_constants a_heights a_many a_chosen a_firstEnd a_secondEnd a_values a_nodes a_far a_productive a_useful a_covers := by
    intro n a_far D mD I Y
    have S : pd_S g D := pd_SY_S W ⟨Y, I.2.1⟩
    exact br_t rfl (hpost _ _ _ (by decide) (fun n i j hv => by rw [mD n i j hv, pd_D_e W S hv]))
  have K40 : ∀ d (a_far : Nat → Int32) D, ym_far g a_far D → yv_I g D → pd_w D ≤ d → wY_measure_40 post (d + 1 + 1) (nI (gr_P g)) (nI (gr_L g)) f_goal f_extra 1 f_known 1 f_sum a_left a_size a_right a_text a_ops a_constants a_heights a_many a_chosen a_firstEnd a_secondEnd a_values a_nodes a_far a_productive a_useful a_covers := by
    intro d
    induction d with
    | zero =>
      intro a_far D mD I mu
      refine br_f (by decide) ⟨gr_L g + 1 + 1, K54 (pd_w D) (fun f_more a_far l => ?_) (gr_L g + 1) 0 (by omega) 0 a_far ⟨D, mD, I, Or.inl ⟨rfl, Nat.le_refl _, fun p i j _ _ _ q => by unfold yd_dn at q; omega⟩⟩⟩
      obtain ⟨D', mD', I', ⟨rfl, mu', h3⟩ | ⟨rfl, mu'⟩⟩ := l
      · exact F _ _ D' mD' I' ⟨I'.1, fun p i u v j hp h1 h2 h4 hj y2 y1 => h3 p i j hp (by omega) hj trivial u v h1 h2 h4 ⟨y2, y1⟩⟩
      · omega
    | succ d ih =>
      intro a_far D mD I mu
      refine br_f (by decide) ⟨gr_L g + 1 + 1, K54 (pd_w D) (fun f_more a_far l => ?_) (gr_L g + 1) 0 (by omega) 0 a_far ⟨D, mD, I, Or.inl ⟨rfl, Nat.le_refl _, fun p i j _ _ _ q => by unfold yd_dn at q; omega⟩⟩⟩
      obtain ⟨D', mD', I', ⟨rfl, mu', h3⟩ | ⟨rfl, mu'⟩⟩ := l
      · exact F _ _ D' mD' I' ⟨I'.1, fun p i u v j hp h1 h2 h4 hj y2 y1 => h3 p i j hp (by omega) hj trivial u v h1 h2 h4 ⟨y2, y1⟩⟩
      · exact ih _ D' mD' I' (by omega)
  have K15 : ∀ d x, x + d = 980 → ∀ (a_far : Nat → Int32), (∀ y, y < x → a_far y = -1) → wY_measure_15 post (nI (gr_P g)) (nI (gr_L g)) f_goal f_extra 1 f_known f_more f_sum (d + 1) (nI x) a_left a_size a_right a_text a_ops a_constants a_heights a_many a_chosen a_firstEnd a_secondEnd a_values a_nodes a_far a_productive a_useful a_covers := by
    intro d
    induction d with
    | zero =>
      intro x hx a_far hz
      have e : x = 980 := by omega
      subst e
      exact br_t (nI_le (a := 980) (b := 980) (by decide) (by decide)) ⟨_, K40 (pd_w (fun _ _ _ => 1000000)) _ (fun _ _ _ => 1000000) (fun n i j hv => hz _ (cy_lt W hv)) ⟨fun _ _ _ _ => Nat.le_refl _, fun D' y => y.1, fun n i j hv h => absurd h (Nat.lt_irrefl _)⟩ (Nat.le_refl _)⟩
    | succ d ih =>
      intro x hx a_far hz
      refine br_f (nI_ge (b := 980) (by omega) (by decide)) ⟨vp_in_nI (by omega) (by decide), nm_r (e' := upd a_far x (-1)) (by rw [nI_clamp (by omega)]) (nm_r (nI_1 x) (ih (x + 1) (by omega) _ (fun y hy => ?_)))⟩
      by_cases c : y = x
      · rw [c, pk_us]
      · rw [pk_un c]; exact hz y (by omega)
  exact br_c (fun _ => ⟨980 + 1, K15 980 0 rfl _ (fun y hy => absurd hy (by omega))⟩) (fun z => hpost _ _ _ z (hr z))
end
end
section
/-! the reference: productive, used, beginnings -/
def yB (a : Nat → Int32) : Prop := ∀ x, x < 70 → a x = 0 ∨ a x = 1
def yc_S (K : Nat) (a : Nat → Int32) : pf_S := fun n i => n < 5 ∧ i ≤ K ∧ a (14 * n + i) ≠ 0
def yc_tok (g : gr_G) (K t : Nat) (extra : Int32) : Prop := (extra = nI t ∧ t < 6) ∨ (extra = -1 ∧ K < gr_L g ∧ t = gr_T g K)
theorem pf_fp_99 {K t i s : Nat} {S : pf_S} (h : s = 99) : ¬ pf_fp K t S s i := by
  intro z
  obtain z | z := z
  · omega
  · have := z.1; unfold pu_nt at this; omega
theorem pf_yl_99 {Q : Nat → Prop} {s : Nat} (h : s = 99) : pf_yl Q s := fun nt => by unfold pu_nt at nt; omega
section
variable {g : gr_G} {f_goal f_extra f_measured f_known f_more : Int32} {f_sum : Int64} {a_left a_size a_right a_text a_ops a_constants a_heights : Nat → Int32} {a_many : Nat → Int64} {a_chosen a_firstEnd a_secondEnd : Nat → Int32} {a_values a_nodes : Nat → Int64} {a_far a_productive a_useful a_covers : Nat → Int32}
theorem ys_yields {post : Int32 → Prop} {s : Nat} {s' : Int32} (es : s' = sy_m s) (ok : pu_ok s) (ht : pf_yl (mk_q a_productive) s → post 1) (hf : ¬ pf_yl (mk_q a_productive) s → post 0) : wpY_yields post (nI (gr_P g), nI (gr_L g), f_goal, f_extra, f_measured, f_known, f_more, f_sum, a_left, a_size, a_right, a_text, a_ops, a_constants, a_heights, a_many, a_chosen, a_firstEnd, a_secondEnd, a_values, a_nodes, a_far, a_productive, a_useful, a_covers) s' := by
  subst es
  refine ek_if (sy_lt ok) (fun c => ht (fun nt => by unfold pu_nt at nt; omega)) (fun c => ?_)
  have nt : pu_nt s := by unfold pu_nt; unfold pu_ok at ok; omega
  have h5 : s - 10 < 5 := by unfold pu_ok at ok; unfold pu_nt at nt; omega
  rw [sy_nt nt, xb_10]
  refine ⟨vp_in_nI h5 (by decide), ?_⟩
  rw [nI_clamp (by omega)]
  exact br_c (fun z => hf (fun y => y nt z)) (fun z => ht (fun _ => z))
theorem ys_allYield {post : Int32 → Prop} {p k : Nat} (W : gr_W g) (hp : p < gr_P g) (hk : k ≤ 3) (mR : xm_R g a_right) (mZ : ym_Z g a_size) (ht : (∀ m, k ≤ m → m < 3 → pf_yl (mk_q a_productive) (gr_R g (3 * p + m))) → post 1) (hf : ¬ (∀ m, k ≤ m → m < 3 → pf_yl (mk_q a_productive) (gr_R g (3 * p + m))) → post 0) : wpY_allYield post (nI (gr_P g), nI (gr_L g), f_goal, f_extra, f_measured, f_known, f_more, f_sum, a_left, a_size, a_right, a_text, a_ops, a_constants, a_heights, a_many, a_chosen, a_firstEnd, a_secondEnd, a_values, a_nodes, a_far, a_productive, a_useful, a_covers) (nI p) (nI k) := by
  have hP := W.1
  have k3 := pu_k_le g p
  have ez : a_size (nI p).toNatClampNeg = nI (pu_k g p) := by rw [nI_clamp (by omega)]; exact mZ p hp
  have hin : vp_in (nI p) 12 := vp_in_nI (by omega) (by decide)
  have K : ∀ d m, m + d = 3 → k ≤ m → (∀ q, k ≤ q → q < m → pf_yl (mk_q a_productive) (gr_R g (3 * p + q))) → wY_allYield_2 post (nI p) (nI (gr_P g)) (nI (gr_L g)) f_goal f_extra f_measured f_known f_more f_sum a_left a_size a_right a_text a_ops a_constants a_heights a_many a_chosen a_firstEnd a_secondEnd a_values a_nodes a_far a_productive a_useful a_covers (d + 1) (nI m) := by
    intro d
    induction d with
    | zero =>
      intro m hm hkm hist
      exact ⟨hin, br_t (by rw [ez]; exact nI_le (by omega) (by omega)) (ht (fun q h1 h2 => hist q h1 (by omega)))⟩
    | succ d ih =>
      intro m hm hkm hist
      have hm3 : m < 3 := by omega
      refine ⟨hin, pk_le (pu_k g p) m (fun l => ht (fun q h1 h2 => ?_)) (fun l => ⟨xb_i (by omega) hm3, ?_⟩) ez rfl⟩
      · by_cases c : q < m
        · exact hist q h1 c
        · refine pf_yl_99 ?_
          by_cases z : gr_R g (3 * p + q) = 99
          · exact z
          · have cc := pu_k_c W hp
            have : q = 0 ∨ q = 1 ∨ q = 2 := by omega
            obtain rfl | rfl | rfl := this
            · have z' : gr_R g (3 * p) ≠ 99 := z
              omega
            · omega
            · omega
      · refine ys_yields (xm_Rm W mR hp hm3) (pu_okR W hp hm3) (fun y => br_f (by decide) (nm_r (nI_1 m) (ih (m + 1) (by omega) (by omega) (fun q h1 h2 => ?_)))) (fun y => br_t rfl (hf (fun a => y (a m hkm hm3))))
        · by_cases c : q = m
          · rw [c]; exact y
          · exact hist q h1 (by omega)
  exact ⟨3 - k + 1, K (3 - k) k (by omega) (Nat.le_refl _) (fun q h1 h2 => by omega)⟩
theorem ys_findProd {post : SY → Prop} (W : gr_W g) (mR : xm_R g a_right) (mF : xm_F g a_left) (mZ : ym_Z g a_size) (hpost : ∀ (a_productive : Nat → Int32), xm_Pr g a_productive → post (nI (gr_P g), nI (gr_L g), f_goal, f_extra, f_measured, f_known, f_more, f_sum, a_left, a_size, a_right, a_text, a_ops, a_constants, a_heights, a_many, a_chosen, a_firstEnd, a_secondEnd, a_values, a_nodes, a_far, a_productive, a_useful, a_covers)) : wpY_findProductive post (nI (gr_P g), nI (gr_L g), f_goal, f_extra, f_measured, f_known, f_more, f_sum, a_left, a_size, a_right, a_text, a_ops, a_constants, a_heights, a_many, a_chosen, a_firstEnd, a_secondEnd, a_values, a_nodes, a_far, a_productive, a_useful, a_covers) := by
  have hP := W.1
  have AP : ∀ {p : Nat} {a : Nat → Int32}, (∀ m, 0 ≤ m → m < 3 → pf_yl (mk_q a) (gr_R g (3 * p + m))) ↔ pf_ap g (mk_q a) p := ⟨fun h m hm => h m (Nat.zero_le _) hm, fun h m _ hm => h m hm⟩
  have K29 : ∀ (n22 r : Nat) (a0 : Nat → Int32), (∀ (a_productive : Nat → Int32), pr_I g a0 (gr_P g) a_productive → wY_findProductive_22 post (nI (gr_P g)) (nI (gr_L g)) f_goal f_extra f_measured f_known f_more f_sum n22 (nI (r + 1)) a_left a_size a_right a_text a_ops a_constants a_heights a_many a_chosen a_firstEnd a_secondEnd a_values a_nodes a_far a_productive a_useful a_covers) → ∀ d p, p + d = gr_P g → ∀ (a_productive : Nat → Int32), pr_I g a0 p a_productive → wY_findProductive_29 post (wY_findProductive_22 post (nI (gr_P g)) (nI (gr_L g)) f_goal f_extra f_measured f_known f_more f_sum n22) (nI r) (nI (gr_P g)) (nI (gr_L g)) f_goal f_extra f_measured f_known f_more f_sum (d + 1) (nI p) a_left a_size a_right a_text a_ops a_constants a_heights a_many a_chosen a_firstEnd a_secondEnd a_values a_nodes a_far a_productive a_useful a_covers := by
    intro n22 r a0 hJ d
    induction d with
    | zero =>
      intro p hp a_productive I
      have e : p = gr_P g := by omega
      subst e
      exact br_t (nI_le (Nat.le_refl _) (by omega)) (nm_r (nI_1 r) (hJ _ I))
    | succ d ih =>
      intro p hp a_productive I
      have hp' : p < gr_P g := by omega
      have hF := W.2.2.1 p hp'
      have st := pr_in W hp' I
      refine br_f (nI_ge (by omega) (by omega)) (ys_allYield (g := g) (k := 0) W hp' (by decide) mR mZ (fun ap => br_f (by decide) ⟨vp_in_nI (by omega) (by decide), ?_⟩) (fun ap => br_t rfl (nm_r (nI_1 p) (ih (p + 1) (by omega) _ (st.2 (fun q => ap (AP.mpr q)))))))
      rw [xm_Fp W mF hp', xb_10]
      exact ⟨vp_in_nI hF (by decide), nm_r (e' := upd a_productive (gr_F g p) 1) (by rw [nI_clamp (by omega)]; rfl) (nm_r (nI_1 p) (ih (p + 1) (by omega) _ (st.1 (AP.mp ap))))⟩
  have K22 : ∀ d r, r + d = 5 → ∀ (a_productive : Nat → Int32), pr_O g r a_productive → wY_findProductive_22 post (nI (gr_P g)) (nI (gr_L g)) f_goal f_extra f_measured f_known f_more f_sum (d + 1) (nI r) a_left a_size a_right a_text a_ops a_constants a_heights a_many a_chosen a_firstEnd a_secondEnd a_values a_nodes a_far a_productive a_useful a_covers := by
    intro d
    induction d with
    | zero =>
      intro r hr a_productive I
      have e : r = 5 := by omega
      subst e
      exact br_t (nI_le (a := 5) (b := 5) (by decide) (by decide)) (hpost _ (pr_end I))
    | succ d ih =>
      intro r hr a_productive I
      refine br_f (nI_ge (b := 5) (by omega) (by decide)) ⟨gr_P g + 1, ?_⟩
      exact K29 (d + 1) r a_productive (fun a I' => ih (r + 1) (by omega) a (pr_step W I I')) (gr_P g) 0 (by omega) a_productive ⟨I.1, I.2.1, fun _ _ z => z, fun p' hp' => by omega⟩
  have K2 : ∀ d x, x + d = 5 → ∀ (a_productive : Nat → Int32), (∀ y, y < x → a_productive y = 0) → wY_findProductive_2 post (nI (gr_P g)) (nI (gr_L g)) f_goal f_extra f_measured f_known f_more f_sum (d + 1) (nI x) a_left a_size a_right a_text a_ops a_constants a_heights a_many a_chosen a_firstEnd a_secondEnd a_values a_nodes a_far a_productive a_useful a_covers := by
    intro d
    induction d with
    | zero =>
      intro x hx a_productive hz
      have e : x = 5 := by omega
      subst e
      exact br_t (nI_le (a := 5) (b := 5) (by decide) (by decide)) ⟨5 + 1, K22 5 0 rfl _ ⟨fun n hn => Or.inl (hz n hn), fun n hn z => absurd (hz n hn) z, Or.inl (Nat.zero_le _)⟩⟩
    | succ d ih =>
      intro x hx a_productive hz
      refine br_f (nI_ge (b := 5) (by omega) (by decide)) ⟨vp_in_nI (by omega) (by decide), nm_r (e' := upd a_productive x 0) (by rw [nI_clamp (by omega)]; rfl) (nm_r (nI_1 x) (ih (x + 1) (by omega) _ (fun y hy => ?_)))⟩
      by_cases c : y = x
      · rw [c, pk_us]
      · rw [pk_un c]; exact hz y (by omega)
  exact ⟨5 + 1, K2 5 0 rfl _ (fun y hy => absurd hy (by omega))⟩
theorem ys_covered {post : Int32 → Prop} {K t s i : Nat} {s' i' : Int32} (es : s' = sy_m s) (ei : i' = nI i) (eg : f_goal = nI (K + 1)) (ok : pu_ok s) (s99 : s ≠ 99) (hi : i ≤ K) (hK : K ≤ gr_L g) (W : gr_W g) (tx : xm_T g a_text) (tk : yc_tok g K t f_extra) (B : yB a_covers) (ht : pf_fp K t (yc_S K a_covers) s i → post 1) (hf : ¬ pf_fp K t (yc_S K a_covers) s i → post 0) : wpY_covered post (nI (gr_P g), nI (gr_L g), f_goal, f_extra, f_measured, f_known, f_more, f_sum, a_left, a_size, a_right, a_text, a_ops, a_constants, a_heights, a_many, a_chosen, a_firstEnd, a_secondEnd, a_values, a_nodes, a_far, a_productive, a_useful, a_covers) s' i' := by
  subst es ei eg
  have hL := W.2.1
  refine br_f (fun e => by rw [nI_eq (by omega) (by omega)] at e; omega) (ek_if (sy_lt ok) (fun c => ?_) (fun c => ?_))
  · have c2 : s < 10 := by omega
    have F : pf_fp K t (yc_S K a_covers) s i ↔ (s = t ∧ i = K) := by
      constructor
      · intro z
        obtain z | z := z
        · exact z.2
        · have := z.1; unfold pu_nt at this; omega
      · exact fun z => Or.inl ⟨c2, z⟩
    refine ek_if (d := i = K) (by rw [nI_1, nI_eq (by omega) (by omega)]; omega) (fun e => ?_) (fun e => hf (fun z => e (F.mp z).2))
    obtain ⟨ex, t6⟩ | ⟨ex, kl, et⟩ := tk
    · refine br_t (by rw [ex]; exact nI_le (a := 0) (by omega) (by omega)) (ek_if (d := t = s) (by rw [ex]; exact sy_eq ok t6) (fun q => ht (F.mpr ⟨q.symm, e⟩)) (fun q => hf (fun z => q (F.mp z).1.symm)))
    · refine br_f (by rw [ex]; decide) ⟨vp_in_nI (by omega) (by decide), ek_if (d := t = s) ?_ (fun q => ht (F.mpr ⟨q.symm, e⟩)) (fun q => hf (fun z => q (F.mp z).1.symm))⟩
      rw [nI_clamp (by omega), e, tx K kl, et]
      exact sy_eq ok (W.2.2.2.2.2 K kl)
  · have nt : pu_nt s := by unfold pu_nt; unfold pu_ok at ok; omega
    have h5 : s - 10 < 5 := by unfold pu_ok at ok; unfold pu_nt at nt; omega
    have F : pf_fp K t (yc_S K a_covers) s i ↔ a_covers (14 * (s - 10) + i) ≠ 0 := by
      constructor
      · intro z
        obtain z | z := z
        · unfold pu_nt at nt; omega
        · exact z.2.2.2
      · exact fun z => Or.inr ⟨nt, h5, hi, z⟩
    have e : (14 * (sy_m s - 10)) + nI i = nI (14 * (s - 10) + i) := by
      rw [sy_nt nt, xb_10, show (14 : Int32) = nI 14 from rfl, pk_mul, nI_add]
    rw [e]
    refine ⟨vp_in_nI (by omega) (by decide), ?_⟩
    rw [nI_clamp (by omega)]
    obtain z | z := B (14 * (s - 10) + i) (by omega)
    · rw [z]; exact ⟨rfl, hf (fun q => (F.mp q) z)⟩
    · rw [z]; exact ⟨rfl, ht (F.mpr (by rw [z]; decide))⟩
theorem mk_yl {a : Nat → Int32} {s : Nat} (ok : pu_ok s) (Pr : xm_Pr g a) : pf_yl (mk_q a) s ↔ pf_yl (pf_PR g) s := by
  constructor
  · intro h nt
    have h5 : s - 10 < 5 := by unfold pu_ok at ok; unfold pu_nt at nt; omega
    obtain ⟨_, q⟩ | ⟨e, _⟩ := Pr _ h5
    · exact q
    · exact absurd e (h nt)
  · intro h nt
    have h5 : s - 10 < 5 := by unfold pu_ok at ok; unfold pu_nt at nt; omega
    obtain ⟨e, _⟩ | ⟨_, q⟩ := Pr _ h5
    · show a _ ≠ 0
      rw [e]; decide
    · exact absurd (h nt) q
theorem ys_covering {post : Int32 → Prop} {K t p i : Nat} (eg : f_goal = nI (K + 1)) (hp : p < gr_P g) (hi : i ≤ K) (hK : K ≤ gr_L g) (W : gr_W g) (tx : xm_T g a_text) (mR : xm_R g a_right) (mZ : ym_Z g a_size) (C : ym_Chart g a_heights) (Pr : xm_Pr g a_productive) (tk : yc_tok g K t f_extra) (B : yB a_covers) (ht : pf_yo g K t (yc_S K a_covers) p i → post 1) (hf : ¬ pf_yo g K t (yc_S K a_covers) p i → post 0) : wpY_covering post (nI (gr_P g), nI (gr_L g), f_goal, f_extra, f_measured, f_known, f_more, f_sum, a_left, a_size, a_right, a_text, a_ops, a_constants, a_heights, a_many, a_chosen, a_firstEnd, a_secondEnd, a_values, a_nodes, a_far, a_productive, a_useful, a_covers) (nI p) (nI i) := by
  have hL := W.2.1
  have hP := W.1
  have k3 := pu_k_le g p
  have kc := pu_k_c W hp
  have ok0 := pu_okR0 W hp
  have ok1 := pu_okR W hp (m := 1) (by decide)
  have ok2 := pu_okR W hp (m := 2) (by decide)
  have hbH : ∀ n i j, pu_V g n i j → pu_HH g n i j ≤ 1000 := fun n i j hv => by have := (C.1 n i j hv).2.2; omega
  have K124 : ∀ {J69 : Int32 → Prop} (u : Nat), i ≤ u → u ≤ K → pf_ps g (gr_R g (3 * p)) i u → ((∀ v, u ≤ v → v ≤ K → ¬ (pf_ps g (gr_R g (3 * p + 1)) u v ∧ pf_fp K t (yc_S K a_covers) (gr_R g (3 * p + 2)) v)) → J69 (nI (u + 1))) → ∀ d v, v + d = K + 1 → u ≤ v → (∀ v', u ≤ v' → v' < v → ¬ (pf_ps g (gr_R g (3 * p + 1)) u v' ∧ pf_fp K t (yc_S K a_covers) (gr_R g (3 * p + 2)) v')) → wY_covering_124 post J69 (nI p) (nI i) (sy_m (gr_R g (3 * p))) (sy_m (gr_R g (3 * p + 1))) (sy_m (gr_R g (3 * p + 2))) (nI (pu_k g p)) (nI u) (nI (gr_P g)) (nI (gr_L g)) f_goal f_extra f_measured f_known f_more f_sum a_left a_size a_right a_text a_ops a_constants a_heights a_many a_chosen a_firstEnd a_secondEnd a_values a_nodes a_far a_productive a_useful a_covers (d + 1) (nI v) := by
    intro J69 u hiu huK f0 hJ d
    induction d with
    | zero =>
      intro v hv huv hist
      exact br_t (by rw [eg]; exact nI_le (by omega) (by omega)) (nm_r (nI_1 u) (hJ (fun v' h1 h2 => hist v' h1 (by omega))))
    | succ d ih =>
      intro v hv huv hist
      refine br_f (by rw [eg]; exact nI_ge (by omega) (by omega)) (pk_le (pu_k g p) 2 (fun l => nm_r (nI_1 u) (hJ (fun v' h1 h2 z => pf_fp_99 (by omega) z.2))) (fun l => ?_))
      have nx : ¬ (pf_ps g (gr_R g (3 * p + 1)) u v ∧ pf_fp K t (yc_S K a_covers) (gr_R g (3 * p + 2)) v) → wY_covering_124 post J69 (nI p) (nI i) (sy_m (gr_R g (3 * p))) (sy_m (gr_R g (3 * p + 1))) (sy_m (gr_R g (3 * p + 2))) (nI (pu_k g p)) (nI u) (nI (gr_P g)) (nI (gr_L g)) f_goal f_extra f_measured f_known f_more f_sum a_left a_size a_right a_text a_ops a_constants a_heights a_many a_chosen a_firstEnd a_secondEnd a_values a_nodes a_far a_productive a_useful a_covers (d + 1) (nI (v + 1)) := fun n => ih (v + 1) (by omega) (by omega) (fun v' h1 h2 => by
        by_cases c : v' = v
        · rw [c]; exact n
        · exact hist v' h1 (by omega))
      refine ys_stands (g := g) (H := pu_HH g) (h := 1000) rfl rfl rfl rfl ok1 (by omega) huv (by omega) W (by decide) tx C.2.1 hbH (fun f1 => br_f (by decide) ?_) (fun f1 => br_t rfl (nm_r (nI_1 v) (nx (fun z => f1 z.1))))
      refine ys_covered (g := g) rfl rfl eg ok2 (by omega) (by omega) hK W tx tk B (fun f2 => br_f (by decide) (ht (Or.inr (Or.inr ⟨u, v, hiu, huv, by omega, f0, f1, f2⟩)))) (fun f2 => br_t rfl (nm_r (nI_1 v) (nx (fun z => f2 z.2))))
  have K69 : ¬ (pf_fp K t (yc_S K a_covers) (gr_R g (3 * p)) i ∧ pf_yl (pf_PR g) (gr_R g (3 * p + 1)) ∧ pf_yl (pf_PR g) (gr_R g (3 * p + 2))) → ∀ d u, u + d = K + 1 → i ≤ u → (∀ u', i ≤ u' → u' < u → pf_ps g (gr_R g (3 * p)) i u' → ¬ (pf_fp K t (yc_S K a_covers) (gr_R g (3 * p + 1)) u' ∧ pf_yl (pf_PR g) (gr_R g (3 * p + 2))) ∧ ∀ v, u' ≤ v → v ≤ K → ¬ (pf_ps g (gr_R g (3 * p + 1)) u' v ∧ pf_fp K t (yc_S K a_covers) (gr_R g (3 * p + 2)) v)) → wY_covering_69 post (nI p) (nI i) (sy_m (gr_R g (3 * p))) (sy_m (gr_R g (3 * p + 1))) (sy_m (gr_R g (3 * p + 2))) (nI (pu_k g p)) (nI (gr_P g)) (nI (gr_L g)) f_goal f_extra f_measured f_known f_more f_sum a_left a_size a_right a_text a_ops a_constants a_heights a_many a_chosen a_firstEnd a_secondEnd a_values a_nodes a_far a_productive a_useful a_covers (d + 1) (nI u) := by
    intro n0 d
    have no : (∀ u', i ≤ u' → u' ≤ K → pf_ps g (gr_R g (3 * p)) i u' → ¬ (pf_fp K t (yc_S K a_covers) (gr_R g (3 * p + 1)) u' ∧ pf_yl (pf_PR g) (gr_R g (3 * p + 2))) ∧ ∀ v, u' ≤ v → v ≤ K → ¬ (pf_ps g (gr_R g (3 * p + 1)) u' v ∧ pf_fp K t (yc_S K a_covers) (gr_R g (3 * p + 2)) v)) → post 0 := by
      intro h
      refine hf (fun z => ?_)
      obtain z | ⟨u, h1, h2, f0, z⟩ | ⟨u, v, h1, h2, h3, f0, f1, z⟩ := z
      · exact n0 z
      · exact (h u h1 h2 f0).1 z
      · exact (h u h1 (by omega) f0).2 v h2 h3 ⟨f1, z⟩
    induction d with
    | zero =>
      intro u hu hiu hist
      exact br_t (by rw [eg]; exact nI_le (by omega) (by omega)) (no (fun u' h1 h2 f0 => hist u' h1 (by omega) f0))
    | succ d ih =>
      intro u hu hiu hist
      refine br_f (by rw [eg]; exact nI_ge (by omega) (by omega)) (pk_le (pu_k g p) 1 (fun l => no (fun u' h1 h2 f0 => ⟨fun z => pf_fp_99 (by omega) z.1, fun v h3 h4 z => pf_fp_99 (by omega) z.2⟩)) (fun l => ?_))
      have nx : (pf_ps g (gr_R g (3 * p)) i u → ¬ (pf_fp K t (yc_S K a_covers) (gr_R g (3 * p + 1)) u ∧ pf_yl (pf_PR g) (gr_R g (3 * p + 2))) ∧ ∀ v, u ≤ v → v ≤ K → ¬ (pf_ps g (gr_R g (3 * p + 1)) u v ∧ pf_fp K t (yc_S K a_covers) (gr_R g (3 * p + 2)) v)) → wY_covering_69 post (nI p) (nI i) (sy_m (gr_R g (3 * p))) (sy_m (gr_R g (3 * p + 1))) (sy_m (gr_R g (3 * p + 2))) (nI (pu_k g p)) (nI (gr_P g)) (nI (gr_L g)) f_goal f_extra f_measured f_known f_more f_sum a_left a_size a_right a_text a_ops a_constants a_heights a_many a_chosen a_firstEnd a_secondEnd a_values a_nodes a_far a_productive a_useful a_covers (d + 1) (nI (u + 1)) := fun n => ih (u + 1) (by omega) (by omega) (fun u' h1 h2 => by
        by_cases c : u' = u
        · rw [c]; exact n
        · exact hist u' h1 (by omega))
      refine ys_stands (g := g) (H := pu_HH g) (h := 1000) rfl rfl rfl rfl ok0 (by omega) hiu (by omega) W (by decide) tx C.2.1 hbH (fun f0 => br_f (by decide) ?_) (fun f0 => br_t rfl (nm_r (nI_1 u) (nx (fun z => absurd z f0))))
      have go : ¬ (pf_fp K t (yc_S K a_covers) (gr_R g (3 * p + 1)) u ∧ pf_yl (pf_PR g) (gr_R g (3 * p + 2))) → ∃ n124, wY_covering_124 post (wY_covering_69 post (nI p) (nI i) (sy_m (gr_R g (3 * p))) (sy_m (gr_R g (3 * p + 1))) (sy_m (gr_R g (3 * p + 2))) (nI (pu_k g p)) (nI (gr_P g)) (nI (gr_L g)) f_goal f_extra f_measured f_known f_more f_sum a_left a_size a_right a_text a_ops a_constants a_heights a_many a_chosen a_firstEnd a_secondEnd a_values a_nodes a_far a_productive a_useful a_covers (d + 1)) (nI p) (nI i) (sy_m (gr_R g (3 * p))) (sy_m (gr_R g (3 * p + 1))) (sy_m (gr_R g (3 * p + 2))) (nI (pu_k g p)) (nI u) (nI (gr_P g)) (nI (gr_L g)) f_goal f_extra f_measured f_known f_more f_sum a_left a_size a_right a_text a_ops a_constants a_heights a_many a_chosen a_firstEnd a_secondEnd a_values a_nodes a_far a_productive a_useful a_covers n124 (nI u) := fun n1 =>
        ⟨_, K124 u hiu (by omega) f0 (fun n2 => nx (fun _ => ⟨n1, n2⟩)) (K + 1 - u) u (by omega) (Nat.le_refl _) (fun v' h1 h2 => by omega)⟩
      refine ys_covered (g := g) rfl rfl eg ok1 (by omega) (by omega) hK W tx tk B (fun f1 => br_f (by decide) ?_) (fun f1 => br_t rfl (go (fun z => f1 z.1)))
      refine ys_allYield (g := g) (k := 2) W hp (by decide) mR mZ (fun y => br_f (by decide) (ht (Or.inr (Or.inl ⟨u, hiu, by omega, f0, f1, (mk_yl ok2 Pr).mp (y 2 (Nat.le_refl _) (by decide))⟩)))) (fun y => br_t rfl (go (fun z => y (fun m h1 h2 => ?_))))
      have : m = 2 := by omega
      subst this
      exact (mk_yl ok2 Pr).mpr z.2
  refine ⟨xb_i0 (by omega), nm_r (xm_R0 W mR hp) ⟨xb_i1 (by omega), nm_r (xm_R1 W mR hp) ⟨xb_i2 (by omega), nm_r (xm_R2 W mR hp) ⟨vp_in_nI (by omega) (by decide), nm_r (e' := nI (pu_k g p)) (by rw [nI_clamp (by omega)]; exact mZ p hp) ?_⟩⟩⟩⟩
  have go : ¬ (pf_fp K t (yc_S K a_covers) (gr_R g (3 * p)) i ∧ pf_yl (pf_PR g) (gr_R g (3 * p + 1)) ∧ pf_yl (pf_PR g) (gr_R g (3 * p + 2))) → ∃ n69, wY_covering_69 post (nI p) (nI i) (sy_m (gr_R g (3 * p))) (sy_m (gr_R g (3 * p + 1))) (sy_m (gr_R g (3 * p + 2))) (nI (pu_k g p)) (nI (gr_P g)) (nI (gr_L g)) f_goal f_extra f_measured f_known f_more f_sum a_left a_size a_right a_text a_ops a_constants a_heights a_many a_chosen a_firstEnd a_secondEnd a_values a_nodes a_far a_productive a_useful a_covers n69 (nI i) := fun n0 => ⟨_, K69 n0 (K + 1 - i) i (by omega) (Nat.le_refl _) (fun u' h1 h2 => by omega)⟩
  refine pk_le (pu_k g p) 0 (fun l => go (fun z => pf_fp_99 (by omega) z.1)) (fun l => ?_)
  refine ys_covered (g := g) rfl rfl eg ok0 (by omega) hi hK W tx tk B (fun f0 => br_f (by decide) ?_) (fun f0 => br_t rfl (go (fun z => f0 z.1)))
  refine ys_allYield (g := g) (k := 1) W hp (by decide) mR mZ (fun y => br_f (by decide) (ht (Or.inl ⟨f0, (mk_yl ok1 Pr).mp (y 1 (Nat.le_refl _) (by decide)), (mk_yl ok2 Pr).mp (y 2 (by decide) (by decide))⟩))) (fun y => br_t rfl (go (fun z => y (fun m h1 h2 => ?_))))
  have : m = 1 ∨ m = 2 := by omega
  obtain rfl | rfl := this
  · exact (mk_yl ok1 Pr).mpr z.2.1
  · exact (mk_yl ok2 Pr).mpr z.2.2
end
end
section
/-! the reference: beginnings, until nothing changes; used -/
def yc_mu (a : Nat → Int32) : Nat := pu_cnt (fun x => decide (a x = 0)) 70
def yc_P (g : gr_G) (K t m0 : Nat) (dn : Nat → Nat → Prop) (more : Int32) (a : Nat → Int32) : Prop := yB a ∧ (∀ n i, yc_S K a n i → pf_FO g K t n i) ∧ ((more = 0 ∧ yc_mu a ≤ m0 ∧ ∀ p i, p < gr_P g → i ≤ K → dn p i → pf_yo g K t (yc_S K a) p i → yc_S K a (gr_F g p) i) ∨ (more = 1 ∧ yc_mu a < m0))
theorem yc_P_dn {g : gr_G} {K t m0 : Nat} {dn dn' : Nat → Nat → Prop} {more : Int32} {a : Nat → Int32} (l : yc_P g K t m0 dn more a) (h : ∀ p i, p < gr_P g → i ≤ K → dn' p i → dn p i) : yc_P g K t m0 dn' more a := by
  obtain ⟨h1, h2, ⟨e, mu, h3⟩ | h3⟩ := l
  · exact ⟨h1, h2, Or.inl ⟨e, mu, fun p i a b c => h3 p i a b (h p i a b c)⟩⟩
  · exact ⟨h1, h2, Or.inr h3⟩
theorem pf_yo_mono {g : gr_G} {K t p i : Nat} {S S' : pf_S} (h : ∀ n i, S n i → S' n i) (f : pf_yo g K t S p i) : pf_yo g K t S' p i := by
  obtain ⟨f, a, b⟩ | ⟨u, h1, h2, f0, f, a⟩ | ⟨u, v, h1, h2, h3, f0, f1, f⟩ := f
  · exact Or.inl ⟨pf_fp_mono h f, a, b⟩
  · exact Or.inr (Or.inl ⟨u, h1, h2, f0, pf_fp_mono h f, a⟩)
  · exact Or.inr (Or.inr ⟨u, v, h1, h2, h3, f0, f1, pf_fp_mono h f⟩)
def yc_dn (p i : Nat) : Nat → Nat → Prop := fun p' i' => p' < p ∨ (p' = p ∧ i' < i)
section
variable {g : gr_G} {f_goal f_extra f_measured f_known f_more : Int32} {f_sum : Int64} {a_left a_size a_right a_text a_ops a_constants a_heights : Nat → Int32} {a_many : Nat → Int64} {a_chosen a_firstEnd a_secondEnd : Nat → Int32} {a_values a_nodes : Nat → Int64} {a_far a_productive a_useful a_covers : Nat → Int32}
theorem ys_coverBy {post : SY → Prop} {K t m0 p : Nat} (eg : f_goal = nI (K + 1)) (hp : p < gr_P g) (hK : K ≤ gr_L g) (W : gr_W g) (tx : xm_T g a_text) (mR : xm_R g a_right) (mF : xm_F g a_left) (mZ : ym_Z g a_size) (C : ym_Chart g a_heights) (Pr : xm_Pr g a_productive) (tk : yc_tok g K t f_extra) (l : yc_P g K t m0 (yc_dn p 0) f_more a_covers) (hpost : ∀ (f_more : Int32) (a_covers : Nat → Int32), yc_P g K t m0 (yc_dn (p + 1) 0) f_more a_covers → post (nI (gr_P g), nI (gr_L g), f_goal, f_extra, f_measured, f_known, f_more, f_sum, a_left, a_size, a_right, a_text, a_ops, a_constants, a_heights, a_many, a_chosen, a_firstEnd, a_secondEnd, a_values, a_nodes, a_far, a_productive, a_useful, a_covers)) : wpY_coverBy post (nI (gr_P g), nI (gr_L g), f_goal, f_extra, f_measured, f_known, f_more, f_sum, a_left, a_size, a_right, a_text, a_ops, a_constants, a_heights, a_many, a_chosen, a_firstEnd, a_secondEnd, a_values, a_nodes, a_far, a_productive, a_useful, a_covers) (nI p) := by
  have hL := W.2.1
  have hP := W.1
  have hF := W.2.2.1 p hp
  have Kl : ∀ d i, i + d = K + 1 → ∀ (f_more : Int32) (a_covers : Nat → Int32), yc_P g K t m0 (yc_dn p i) f_more a_covers → wY_coverBy_2 post (nI p) (nI (gr_P g)) (nI (gr_L g)) f_goal f_extra f_measured f_known f_sum (d + 1) (nI i) f_more a_left a_size a_right a_text a_ops a_constants a_heights a_many a_chosen a_firstEnd a_secondEnd a_values a_nodes a_far a_productive a_useful a_covers := by
    intro d
    induction d with
    | zero =>
      intro i hi f_more a_covers l
      refine br_t (by rw [eg]; exact nI_le (by omega) (by omega)) (hpost _ _ (yc_P_dn l (fun p' i' h1 h2 q => ?_)))
      unfold yc_dn at *; omega
    | succ d ih =>
      intro i hi f_more a_covers l
      have e : (14 * (a_left (nI p).toNatClampNeg - 10)) + nI i = nI (14 * gr_F g p + i) := by
        rw [xm_Fp W mF hp, xb_10, show (14 : Int32) = nI 14 from rfl, pk_mul, nI_add]
      have hin : vp_in (nI (14 * gr_F g p + i)) 70 := vp_in_nI (by omega) (by decide)
      have ec : (nI (14 * gr_F g p + i)).toNatClampNeg = 14 * gr_F g p + i := nI_clamp (by omega)
      obtain ⟨B, sd, fl⟩ := l
      have skip : (pf_yo g K t (yc_S K a_covers) p i → yc_S K a_covers (gr_F g p) i) → yc_P g K t m0 (yc_dn p (i + 1)) f_more a_covers := by
        intro sk
        refine ⟨B, sd, ?_⟩
        obtain ⟨e, mu, h3⟩ | h3 := fl
        · refine Or.inl ⟨e, mu, fun p' i' h1 h2 q => ?_⟩
          by_cases z : p' = p ∧ i' = i
          · obtain ⟨rfl, rfl⟩ := z; exact sk
          · exact h3 p' i' h1 h2 (by unfold yc_dn at *; omega)
        · exact Or.inr h3
      refine br_f (by rw [eg]; exact nI_ge (by omega) (by omega)) ⟨vp_in_nI (by omega) (by decide), nm_r e ⟨hin, ?_⟩⟩
      rw [ec]
      refine br_c (fun z => ?_) (fun z => nm_r (nI_1 i) (ih (i + 1) (by omega) _ _ (skip (fun _ => ⟨hF, by omega, z⟩))))
      refine ys_covering (g := g) eg hp (by omega) hK W tx mR mZ C Pr tk B (fun y => br_f (by decide) ⟨hin, nm_r (e' := upd a_covers (14 * gr_F g p + i) 1) rfl (nm_r (nI_1 i) (ih (i + 1) (by omega) 1 _ ⟨fun x hx => ?_, fun n' i' s => ?_, Or.inr ⟨rfl, ?_⟩⟩))⟩) (fun y => br_t rfl (nm_r (nI_1 i) (ih (i + 1) (by omega) _ _ (skip (fun q => absurd q y)))))
      · by_cases c : x = 14 * gr_F g p + i
        · rw [c, pk_us]; exact Or.inr rfl
        · rw [pk_un c]; exact B x hx
      · obtain ⟨s1, s2, s3⟩ := s
        by_cases c : 14 * n' + i' = 14 * gr_F g p + i
        · have en : n' = gr_F g p := by omega
          have ei : i' = i := by omega
          rw [en, ei]
          exact pf_FO_yc W C.1 hK p i hp (by omega) (pf_yo_mono sd y)
        · rw [pk_un c] at s3
          exact sd n' i' ⟨s1, s2, s3⟩
      · have : yc_mu (upd a_covers (14 * gr_F g p + i) 1) < yc_mu a_covers := by
          refine pu_cnt_lt (x0 := 14 * gr_F g p + i) (by rw [pk_us]; rfl) (by rw [z]; rfl) (fun x hx q => ?_) (by omega)
          by_cases c : x = 14 * gr_F g p + i
          · rw [c, z]; rfl
          · rw [pk_un c] at q; exact q
        obtain ⟨_, mu, _⟩ | ⟨_, mu⟩ := fl <;> omega
  exact ⟨K + 1 + 1, Kl (K + 1) 0 (by omega) _ _ l⟩
theorem ys_begin {post : Int32 → SY → Prop} {K t : Nat} (eg : f_goal = nI (K + 1)) (hK : K ≤ gr_L g) (W : gr_W g) (tx : xm_T g a_text) (mR : xm_R g a_right) (mF : xm_F g a_left) (mZ : ym_Z g a_size) (C : ym_Chart g a_heights) (tk : yc_tok g K t f_extra) (hpost : ∀ (f_more : Int32) (a_productive a_covers : Nat → Int32), (pf_FO g K t 0 0 → post 1 (nI (gr_P g), nI (gr_L g), f_goal, f_extra, f_measured, f_known, f_more, f_sum, a_left, a_size, a_right, a_text, a_ops, a_constants, a_heights, a_many, a_chosen, a_firstEnd, a_secondEnd, a_values, a_nodes, a_far, a_productive, a_useful, a_covers)) ∧ (¬ pf_FO g K t 0 0 → post 0 (nI (gr_P g), nI (gr_L g), f_goal, f_extra, f_measured, f_known, f_more, f_sum, a_left, a_size, a_right, a_text, a_ops, a_constants, a_heights, a_many, a_chosen, a_firstEnd, a_secondEnd, a_values, a_nodes, a_far, a_productive, a_useful, a_covers))) : wpY_beginning post (nI (gr_P g), nI (gr_L g), f_goal, f_extra, f_measured, f_known, f_more, f_sum, a_left, a_size, a_right, a_text, a_ops, a_constants, a_heights, a_many, a_chosen, a_firstEnd, a_secondEnd, a_values, a_nodes, a_far, a_productive, a_useful, a_covers) := by
  have hP := W.1
  have hL := W.2.1
  unfold wpY_beginning
  refine ys_findProd (g := g) W mR mF mZ (fun a_productive Pr => br_f (by rw [eg]; exact nI_ne0 (by omega) (by omega)) ?_)
  have K58 : ∀ {J44 : Int32 → Int32 → Int32 → Int32 → Int32 → Int32 → Int32 → Int64 → (Nat → Int32) → (Nat → Int32) → (Nat → Int32) → (Nat → Int32) → (Nat → Int32) → (Nat → Int32) → (Nat → Int32) → (Nat → Int64) → (Nat → Int32) → (Nat → Int32) → (Nat → Int32) → (Nat → Int64) → (Nat → Int64) → (Nat → Int32) → (Nat → Int32) → (Nat → Int32) → (Nat → Int32) → Prop} (m0 : Nat), (∀ (f_more : Int32) (a_covers : Nat → Int32), yc_P g K t m0 (fun _ _ => True) f_more a_covers → J44 (nI (gr_P g)) (nI (gr_L g)) f_goal f_extra f_measured f_known f_more f_sum a_left a_size a_right a_text a_ops a_constants a_heights a_many a_chosen a_firstEnd a_secondEnd a_values a_nodes a_far a_productive a_useful a_covers) → ∀ d p, p + d = gr_P g → ∀ (f_more : Int32) (a_covers : Nat → Int32), yc_P g K t m0 (yc_dn p 0) f_more a_covers → wY_beginning_58 post J44 (d + 1) (nI p) (nI (gr_P g)) (nI (gr_L g)) f_goal f_extra f_measured f_known f_more f_sum a_left a_size a_right a_text a_ops a_constants a_heights a_many a_chosen a_firstEnd a_secondEnd a_values a_nodes a_far a_productive a_useful a_covers := by
    intro J44 m0 hJ d
    induction d with
    | zero =>
      intro p hp f_more a_covers l
      refine br_t (nI_le (by omega) (by omega)) (hJ _ _ (yc_P_dn l (fun p' i' h1 h2 _ => ?_)))
      unfold yc_dn; omega
    | succ d ih =>
      intro p hp f_more a_covers l
      exact br_f (nI_ge (by omega) (by omega)) (ys_coverBy (g := g) eg (by omega) hK W tx mR mF mZ C Pr tk l (fun f_more a_covers l' => nm_r (nI_1 p) (ih (p + 1) (by omega) _ _ l')))
  have F : ∀ n (a_covers : Nat → Int32), yB a_covers → (∀ n i, yc_S K a_covers n i → pf_FO g K t n i) → pf_yc g K t (yc_S K a_covers) → wY_beginning_44 post (n + 1) (nI (gr_P g)) (nI (gr_L g)) f_goal f_extra f_measured f_known 0 f_sum a_left a_size a_right a_text a_ops a_constants a_heights a_many a_chosen a_firstEnd a_secondEnd a_values a_nodes a_far a_productive a_useful a_covers := by
    intro n a_covers B sd cl
    have H := hpost 0 a_productive a_covers
    refine br_t rfl ?_
    obtain e | e := B 0 (by decide)
    · rw [e]
      refine ⟨rfl, H.2 (fun q => ?_)⟩
      have := (pf_FO_yle cl q).2.2
      exact this e
    · rw [e]
      exact ⟨rfl, H.1 (sd 0 0 ⟨by decide, Nat.zero_le _, by show a_covers 0 ≠ 0; rw [e]; decide⟩)⟩
  have K44 : ∀ d (a_covers : Nat → Int32), yB a_covers → (∀ n i, yc_S K a_covers n i → pf_FO g K t n i) → yc_mu a_covers ≤ d → wY_beginning_44 post (d + 1 + 1) (nI (gr_P g)) (nI (gr_L g)) f_goal f_extra f_measured f_known 1 f_sum a_left a_size a_right a_text a_ops a_constants a_heights a_many a_chosen a_firstEnd a_secondEnd a_values a_nodes a_far a_productive a_useful a_covers := by
    intro d
    induction d with
    | zero =>
      intro a_covers B sd mu
      refine br_f (by decide) ⟨gr_P g + 1, K58 (yc_mu a_covers) (fun f_more a_covers l => ?_) (gr_P g) 0 (by omega) 0 a_covers ⟨B, sd, Or.inl ⟨rfl, Nat.le_refl _, fun p i _ _ q => by unfold yc_dn at q; omega⟩⟩⟩
      obtain ⟨B', sd', ⟨rfl, mu', h3⟩ | ⟨rfl, mu'⟩⟩ := l
      · exact F _ _ B' sd' (fun p i hp hi y => h3 p i hp hi trivial y)
      · omega
    | succ d ih =>
      intro a_covers B sd mu
      refine br_f (by decide) ⟨gr_P g + 1, K58 (yc_mu a_covers) (fun f_more a_covers l => ?_) (gr_P g) 0 (by omega) 0 a_covers ⟨B, sd, Or.inl ⟨rfl, Nat.le_refl _, fun p i _ _ q => by unfold yc_dn at q; omega⟩⟩⟩
      obtain ⟨B', sd', ⟨rfl, mu', h3⟩ | ⟨rfl, mu'⟩⟩ := l
      · exact F _ _ B' sd' (fun p i hp hi y => h3 p i hp hi trivial y)
      · exact ih _ B' sd' (by omega)
  have K20 : ∀ d x, x + d = 70 → ∀ (a_covers : Nat → Int32), (∀ y, y < x → a_covers y = 0) → wY_beginning_20 post (nI (gr_P g)) (nI (gr_L g)) f_goal f_extra f_measured f_known f_more f_sum (d + 1) (nI x) a_left a_size a_right a_text a_ops a_constants a_heights a_many a_chosen a_firstEnd a_secondEnd a_values a_nodes a_far a_productive a_useful a_covers := by
    intro d
    induction d with
    | zero =>
      intro x hx a_covers hz
      have e : x = 70 := by omega
      subst e
      exact br_t (nI_le (a := 70) (b := 70) (by decide) (by decide)) ⟨_, K44 70 _ (fun x hx => Or.inl (hz x hx)) (fun n i s => absurd (hz _ (by have := s.1; have := s.2.1; omega)) s.2.2) (pu_cnt_le _ _)⟩
    | succ d ih =>
      intro x hx a_covers hz
      refine br_f (nI_ge (b := 70) (by omega) (by decide)) ⟨vp_in_nI (by omega) (by decide), nm_r (e' := upd a_covers x 0) (by rw [nI_clamp (by omega)]; rfl) (nm_r (nI_1 x) (ih (x + 1) (by omega) _ (fun y hy => ?_)))⟩
      by_cases c : y = x
      · rw [c, pk_us]
      · rw [pk_un c]; exact hz y (by omega)
  exact ⟨70 + 1, K20 70 0 rfl _ (fun y hy => absurd hy (by omega))⟩
theorem ys_begin0 {post : Int32 → SY → Prop} (eg : f_goal = 0) (W : gr_W g) (mR : xm_R g a_right) (mF : xm_F g a_left) (mZ : ym_Z g a_size) (hpost : ∀ (a_productive : Nat → Int32), (pf_PR g 0 → post 1 (nI (gr_P g), nI (gr_L g), f_goal, f_extra, f_measured, f_known, f_more, f_sum, a_left, a_size, a_right, a_text, a_ops, a_constants, a_heights, a_many, a_chosen, a_firstEnd, a_secondEnd, a_values, a_nodes, a_far, a_productive, a_useful, a_covers)) ∧ (¬ pf_PR g 0 → post 0 (nI (gr_P g), nI (gr_L g), f_goal, f_extra, f_measured, f_known, f_more, f_sum, a_left, a_size, a_right, a_text, a_ops, a_constants, a_heights, a_many, a_chosen, a_firstEnd, a_secondEnd, a_values, a_nodes, a_far, a_productive, a_useful, a_covers))) : wpY_beginning post (nI (gr_P g), nI (gr_L g), f_goal, f_extra, f_measured, f_known, f_more, f_sum, a_left, a_size, a_right, a_text, a_ops, a_constants, a_heights, a_many, a_chosen, a_firstEnd, a_secondEnd, a_values, a_nodes, a_far, a_productive, a_useful, a_covers) := by
  unfold wpY_beginning
  refine ys_findProd (g := g) W mR mF mZ (fun a_productive Pr => br_t eg ?_)
  have H := hpost a_productive
  obtain ⟨e, q⟩ | ⟨e, q⟩ := Pr 0 (by decide)
  · rw [e]; exact ⟨rfl, H.1 q⟩
  · rw [e]; exact ⟨rfl, H.2 q⟩
theorem ys_spread {post : SY → Prop} {p : Nat} (W : gr_W g) (hp : p < gr_P g) (mR : xm_R g a_right) (mZ : ym_Z g a_size) (u : pf_US g (gr_F g p)) (ap : pf_ap g (pf_PR g) p) (I : us_R g a_useful p 0 a_useful) (hpost : ∀ (a : Nat → Int32), us_R g a_useful p 3 a → post (nI (gr_P g), nI (gr_L g), f_goal, f_extra, f_measured, f_known, f_more, f_sum, a_left, a_size, a_right, a_text, a_ops, a_constants, a_heights, a_many, a_chosen, a_firstEnd, a_secondEnd, a_values, a_nodes, a_far, a_productive, a, a_covers)) : wpY_spread post (nI (gr_P g), nI (gr_L g), f_goal, f_extra, f_measured, f_known, f_more, f_sum, a_left, a_size, a_right, a_text, a_ops, a_constants, a_heights, a_many, a_chosen, a_firstEnd, a_secondEnd, a_values, a_nodes, a_far, a_productive, a_useful, a_covers) (nI p) := by
  have hP := W.1
  have k3 := pu_k_le g p
  have kc := pu_k_c W hp
  have ez : a_size (nI p).toNatClampNeg = nI (pu_k g p) := by rw [nI_clamp (by omega)]; exact mZ p hp
  have hin : vp_in (nI p) 12 := vp_in_nI (by omega) (by decide)
  have K : ∀ d m, m + d = 3 → ∀ (a : Nat → Int32), us_R g a_useful p m a → wY_spread_2 post (nI p) (nI (gr_P g)) (nI (gr_L g)) f_goal f_extra f_measured f_known f_more f_sum (d + 1) (nI m) a_left a_size a_right a_text a_ops a_constants a_heights a_many a_chosen a_firstEnd a_secondEnd a_values a_nodes a_far a_productive a a_covers := by
    intro d
    induction d with
    | zero =>
      intro m hm a I
      have e : m = 3 := by omega
      subst e
      exact ⟨hin, br_t (by rw [ez]; exact nI_le (by omega) (by decide)) (hpost a I)⟩
    | succ d ih =>
      intro m hm a I
      have hm3 : m < 3 := by omega
      have ok := pu_okR W hp (m := m) hm3
      have st := us_Rs W hp hm3 u ap I
      refine ⟨hin, pk_le (pu_k g p) m (fun l => hpost a ?_) (fun l => ⟨xb_i (by omega) hm3, ?_⟩) ez rfl⟩
      · obtain ⟨i1, i2, i3, i4⟩ := I
        refine ⟨i1, i2, i3, fun m' hm' nt => ?_⟩
        by_cases c : m' < m
        · exact i4 m' c nt
        · unfold pu_nt at nt
          have : m' = 0 ∨ m' = 1 ∨ m' = 2 := by omega
          obtain rfl | rfl | rfl := this
          · have nt' : 10 ≤ gr_R g (3 * p) ∧ gr_R g (3 * p) < 99 := nt
            omega
          · omega
          · omega
      · rw [xm_Rm W mR hp hm3]
        refine ek_if (sy_lt ok) (fun c => nm_r (nI_1 m) (ih (m + 1) (by omega) a (st.2 (fun nt => by unfold pu_nt at nt; omega)))) (fun c => ⟨xb_i (by omega) hm3, ?_⟩)
        have nt : pu_nt (gr_R g (3 * p + m)) := by unfold pu_nt; unfold pu_ok at ok; omega
        have h5 : gr_R g (3 * p + m) - 10 < 5 := by unfold pu_ok at ok; unfold pu_nt at nt; omega
        rw [sy_nt nt, xb_10]
        exact ⟨vp_in_nI h5 (by decide), nm_r (e' := upd a (gr_R g (3 * p + m) - 10) 1) (by rw [nI_clamp (by omega)]; rfl) (nm_r (nI_1 m) (ih (m + 1) (by omega) _ (st.1 nt)))⟩
  exact ⟨3 + 1, K 3 0 rfl a_useful I⟩
/-- traits, up to the last question -/
theorem ys_traits {post : Int32 → SY → Prop} {n : Nat} (W : gr_W g) (hn5 : n < 5) (mR : xm_R g a_right) (mF : xm_F g a_left) (mZ : ym_Z g a_size) (Pr : xm_Pr g a_productive) (hpost : ∀ (a_useful : Nat → Int32) (a c : Nat), ((a = 1 ∧ pf_PR g n) ∨ (a = 0 ∧ ¬ pf_PR g n)) → ((c = 4 ∧ pf_US g n) ∨ (c = 0 ∧ ¬ pf_US g n)) → wY_traits_145 post (nI (10 + n)) (nI c) (nI a) (nI (gr_P g)) (nI (gr_L g)) f_goal f_extra f_measured f_known f_more f_sum a_left a_size a_right a_text a_ops a_constants a_heights a_many a_chosen a_firstEnd a_secondEnd a_values a_nodes a_far a_productive a_useful a_covers) : ∃ n16, wY_traits_16 post (nI (10 + n)) (nI (gr_P g)) (nI (gr_L g)) f_goal f_extra f_measured f_known f_more f_sum n16 0 a_left a_size a_right a_text a_ops a_constants a_heights a_many a_chosen a_firstEnd a_secondEnd a_values a_nodes a_far a_productive a_useful a_covers := by
  have hP := W.1
  have AP : ∀ {p : Nat}, p < gr_P g → ((∀ m, 0 ≤ m → m < 3 → pf_yl (mk_q a_productive) (gr_R g (3 * p + m))) ↔ pf_ap g (pf_PR g) p) := fun hp => ⟨fun h => (xm_Pr_ap W hp Pr).mp (fun m hm => h m (Nat.zero_le _) hm), fun h m _ hm => (xm_Pr_ap W hp Pr).mpr h m hm⟩
  have K60 : ∀ (n53 r : Nat) (a0 : Nat → Int32), (∀ (a_useful : Nat → Int32), us_I g a0 (gr_P g) a_useful → wY_traits_53 post (nI (10 + n)) n53 (nI (r + 1)) (nI (gr_P g)) (nI (gr_L g)) f_goal f_extra f_measured f_known f_more f_sum a_left a_size a_right a_text a_ops a_constants a_heights a_many a_chosen a_firstEnd a_secondEnd a_values a_nodes a_far a_productive a_useful a_covers) → ∀ d p, p + d = gr_P g → ∀ (a_useful : Nat → Int32), us_I g a0 p a_useful → wY_traits_60 post (wY_traits_53 post (nI (10 + n)) n53) (nI (10 + n)) (nI r) (d + 1) (nI p) (nI (gr_P g)) (nI (gr_L g)) f_goal f_extra f_measured f_known f_more f_sum a_left a_size a_right a_text a_ops a_constants a_heights a_many a_chosen a_firstEnd a_secondEnd a_values a_nodes a_far a_productive a_useful a_covers := by
    intro n53 r a0 hJ d
    induction d with
    | zero =>
      intro p hp a_useful I
      have e : p = gr_P g := by omega
      subst e
      exact br_t (nI_le (Nat.le_refl _) (by omega)) (nm_r (nI_1 r) (hJ _ I))
    | succ d ih =>
      intro p hp a_useful I
      have hp' : p < gr_P g := by omega
      have hF := W.2.2.1 p hp'
      refine br_f (nI_ge (by omega) (by omega)) ⟨vp_in_nI (by omega) (by decide), ?_⟩
      rw [xm_Fp W mF hp', xb_10]
      refine ⟨vp_in_nI hF (by decide), ?_⟩
      rw [nI_clamp (show gr_F g p < 2 ^ 31 by omega)]
      refine br_c (fun z => nm_r (nI_1 p) (ih (p + 1) (by omega) _ (us_no W hp' I (Or.inl z)))) (fun z => ?_)
      refine ys_allYield (g := g) (k := 0) W hp' (by decide) mR mZ (fun ap => br_f (by decide) ?_) (fun ap => br_t rfl (nm_r (nI_1 p) (ih (p + 1) (by omega) _ (us_no W hp' I (Or.inr (fun q => ap ((AP hp').mpr q)))))))
      exact ys_spread (g := g) W hp' mR mZ (I.2.1 _ hF z) ((AP hp').mp ap) ⟨I.1, I.2.1, fun _ _ z => z, fun m' hm' => by omega⟩ (fun a r => nm_r (nI_1 p) (ih (p + 1) (by omega) _ (us_in W I r)))
  have K53 : ∀ d r, r + d = 5 → ∀ (a_useful : Nat → Int32), us_O g r a_useful → wY_traits_53 post (nI (10 + n)) (d + 1) (nI r) (nI (gr_P g)) (nI (gr_L g)) f_goal f_extra f_measured f_known f_more f_sum a_left a_size a_right a_text a_ops a_constants a_heights a_many a_chosen a_firstEnd a_secondEnd a_values a_nodes a_far a_productive a_useful a_covers := by
    intro d
    induction d with
    | zero =>
      intro r hr a_useful I
      have e : r = 5 := by omega
      subst e
      have Us := us_end I
      have T128 : ∀ a : Nat, ((a = 1 ∧ pf_PR g n) ∨ (a = 0 ∧ ¬ pf_PR g n)) → wY_traits_128 post (nI (10 + n)) (nI a) (nI (gr_P g)) (nI (gr_L g)) f_goal f_extra f_measured f_known f_more f_sum a_left a_size a_right a_text a_ops a_constants a_heights a_many a_chosen a_firstEnd a_secondEnd a_values a_nodes a_far a_productive a_useful a_covers := by
        intro a ha
        unfold wY_traits_128
        rw [xb_10]
        refine ⟨vp_in_nI hn5 (by decide), ?_⟩
        rw [nI_clamp (by omega)]
        obtain ⟨e1, e2⟩ | ⟨e1, e2⟩ := Us n hn5
        · exact br_f (by rw [e1]; decide) (hpost a_useful a 4 ha (Or.inl ⟨rfl, e2⟩))
        · exact br_t e1 (hpost a_useful a 0 ha (Or.inr ⟨rfl, e2⟩))
      refine br_t (nI_le (a := 5) (b := 5) (by decide) (by decide)) ?_
      rw [xb_10]
      refine ⟨vp_in_nI hn5 (by decide), ?_⟩
      rw [nI_clamp (by omega)]
      obtain ⟨e1, e2⟩ | ⟨e1, e2⟩ := Pr n hn5
      · exact br_f (by rw [e1]; decide) (T128 1 (Or.inl ⟨rfl, e2⟩))
      · exact br_t e1 (T128 0 (Or.inr ⟨rfl, e2⟩))
    | succ d ih =>
      intro r hr a_useful I
      refine br_f (nI_ge (b := 5) (by omega) (by decide)) ⟨gr_P g + 1, ?_⟩
      exact K60 (d + 1) r a_useful (fun a I' => ih (r + 1) (by omega) a (us_step W I I')) (gr_P g) 0 (by omega) a_useful ⟨I.1, I.2.1, fun _ _ z => z, fun p' m hp' => by omega⟩
  have K16 : ∀ d x, x + d = 5 → ∀ (a_useful : Nat → Int32), (∀ y, y < x → (a_useful y = 0 ∧ ¬ (y = 0 ∧ pf_PR g 0)) ∨ (a_useful y = 1 ∧ y = 0 ∧ pf_PR g 0)) → wY_traits_16 post (nI (10 + n)) (nI (gr_P g)) (nI (gr_L g)) f_goal f_extra f_measured f_known f_more f_sum (d + 1) (nI x) a_left a_size a_right a_text a_ops a_constants a_heights a_many a_chosen a_firstEnd a_secondEnd a_values a_nodes a_far a_productive a_useful a_covers := by
    intro d
    induction d with
    | zero =>
      intro x hx a_useful hz
      have e : x = 5 := by omega
      subst e
      refine br_t (nI_le (a := 5) (b := 5) (by decide) (by decide)) ⟨5 + 1, K53 5 0 rfl _ ⟨fun n hn => ?_, fun n hn z => ?_, fun pr => ?_, Or.inl (Nat.zero_le _)⟩⟩
      · obtain h | h := hz n hn
        · exact Or.inl h.1
        · exact Or.inr h.1
      · obtain h | h := hz n hn
        · exact absurd h.1 z
        · rw [h.2.1]; exact (pf_US_cl g).1 h.2.2
      · obtain h | h := hz 0 (by decide)
        · exact absurd ⟨rfl, pr⟩ h.2
        · rw [h.1]; decide
    | succ d ih =>
      intro x hx a_useful hz
      have hin : vp_in (nI x) 5 := vp_in_nI (by omega) (by decide)
      have ec : (nI x).toNatClampNeg = x := nI_clamp (by omega)
      have E0 : ¬ (x = 0 ∧ pf_PR g 0) → ∀ y, y < x + 1 → (upd a_useful x 0 y = 0 ∧ ¬ (y = 0 ∧ pf_PR g 0)) ∨ (upd a_useful x 0 y = 1 ∧ y = 0 ∧ pf_PR g 0) := by
        intro h y hy
        by_cases c : y = x
        · rw [c, pk_us]; exact Or.inl ⟨rfl, h⟩
        · rw [pk_un c]; exact hz y (by omega)
      have E1 : (x = 0 ∧ pf_PR g 0) → ∀ y, y < x + 1 → (upd a_useful x 1 y = 0 ∧ ¬ (y = 0 ∧ pf_PR g 0)) ∨ (upd a_useful x 1 y = 1 ∧ y = 0 ∧ pf_PR g 0) := by
        intro h y hy
        by_cases c : y = x
        · rw [c, pk_us]; exact Or.inr ⟨rfl, h⟩
        · rw [pk_un c]; exact hz y (by omega)
      refine br_f (nI_ge (b := 5) (by omega) (by decide)) (pk_eq x 0 (fun e => ?_) (fun e => ⟨hin, nm_r (e' := upd a_useful x 0) (by rw [ec]; rfl) (nm_r (nI_1 x) (ih (x + 1) (by omega) _ (E0 (fun q => e q.1))))⟩))
      refine br_c (fun z => ⟨hin, nm_r (e' := upd a_useful x 0) (by rw [ec]; rfl) (nm_r (nI_1 x) (ih (x + 1) (by omega) _ (E0 (fun q => ?_))))⟩) (fun z => ⟨hin, nm_r (e' := upd a_useful x 1) (by rw [ec]; rfl) (nm_r (nI_1 x) (ih (x + 1) (by omega) _ (E1 ⟨e, ?_⟩)))⟩)
      · obtain ⟨e1, _⟩ | ⟨_, e1⟩ := Pr 0 (by decide)
        · rw [e1] at z; exact absurd z (by decide)
        · exact e1 q.2
      · obtain ⟨_, e1⟩ | ⟨e1, _⟩ := Pr 0 (by decide)
        · exact e1
        · exact absurd e1 z
  exact ⟨5 + 1, K16 5 0 rfl _ (fun y hy => absurd hy (by omega))⟩
end
end
section
/-! the reference: its state, its questions -/
def ym_Inv (g : gr_G) (v : SY) : Prop := match v with
  | (f_productions, f_length, f_goal, f_extra, f_measured, f_known, f_more, f_sum, a_left, a_size, a_right, a_text, a_ops, a_constants, a_heights, a_many, a_chosen, a_firstEnd, a_secondEnd, a_values, a_nodes, a_far, a_productive, a_useful, a_covers) => f_productions = nI (gr_P g) ∧ f_length = nI (gr_L g) ∧ xm_T g a_text ∧ xm_R g a_right ∧ xm_F g a_left ∧ ym_Z g a_size ∧ (∀ p, p < gr_P g → ∃ o, o < 8 ∧ a_ops p = nI o) ∧ (f_known ≠ 0 → ym_Known g a_ops a_constants a_heights a_many a_chosen a_firstEnd a_secondEnd a_values a_nodes ∧ (f_measured ≠ 0 → ym_Far g a_far))
def ym_sh (v : SY) : sh_T := match v with
  | (f_productions, f_length, f_goal, f_extra, f_measured, f_known, f_more, f_sum, a_left, a_size, a_right, a_text, a_ops, a_constants, a_heights, a_many, a_chosen, a_firstEnd, a_secondEnd, a_values, a_nodes, a_far, a_productive, a_useful, a_covers) => (a_left, a_right, a_ops, a_constants, a_text)
theorem ym_sh_e {f_productions f_length f_goal f_extra f_measured f_known f_more : Int32} {f_sum : Int64} {a_left a_size a_right a_text a_ops a_constants a_heights : Nat → Int32} {a_many : Nat → Int64} {a_chosen a_firstEnd a_secondEnd : Nat → Int32} {a_values a_nodes : Nat → Int64} {a_far a_productive a_useful a_covers : Nat → Int32} : ym_sh (f_productions, f_length, f_goal, f_extra, f_measured, f_known, f_more, f_sum, a_left, a_size, a_right, a_text, a_ops, a_constants, a_heights, a_many, a_chosen, a_firstEnd, a_secondEnd, a_values, a_nodes, a_far, a_productive, a_useful, a_covers) = (a_left, a_right, a_ops, a_constants, a_text) := rfl
section
variable {g : gr_G} {v : SY}
theorem yq_know {post : SY → Prop} (W : gr_W g) (I : ym_Inv g v) (h : ∀ {f_goal f_extra f_measured f_known f_more : Int32} {f_sum : Int64} {a_left a_size a_right a_text a_ops a_constants a_heights : Nat → Int32} {a_many : Nat → Int64} {a_chosen a_firstEnd a_secondEnd : Nat → Int32} {a_values a_nodes : Nat → Int64} {a_far a_productive a_useful a_covers : Nat → Int32}, ym_Inv g (nI (gr_P g), nI (gr_L g), f_goal, f_extra, f_measured, f_known, f_more, f_sum, a_left, a_size, a_right, a_text, a_ops, a_constants, a_heights, a_many, a_chosen, a_firstEnd, a_secondEnd, a_values, a_nodes, a_far, a_productive, a_useful, a_covers) → (a_left, a_right, a_ops, a_constants, a_text) = ym_sh v → ym_Known g a_ops a_constants a_heights a_many a_chosen a_firstEnd a_secondEnd a_values a_nodes → (f_measured ≠ 0 → ym_Far g a_far) → f_known ≠ 0 → post (nI (gr_P g), nI (gr_L g), f_goal, f_extra, f_measured, f_known, f_more, f_sum, a_left, a_size, a_right, a_text, a_ops, a_constants, a_heights, a_many, a_chosen, a_firstEnd, a_secondEnd, a_values, a_nodes, a_far, a_productive, a_useful, a_covers)) : wpY_know post v := by
  obtain ⟨f_productions, f_length, f_goal, f_extra, f_measured, f_known, f_more, f_sum, a_left, a_size, a_right, a_text, a_ops, a_constants, a_heights, a_many, a_chosen, a_firstEnd, a_secondEnd, a_values, a_nodes, a_far, a_productive, a_useful, a_covers⟩ := v
  obtain ⟨rfl, rfl, tx, mR, mF, mZ, mO, hk⟩ := I
  exact ys_know (g := g) (Q := ym_Far g a_far) W tx mR mF mZ mO hk (fun f1 f2 f3 s1 a1 a2 a3 a4 a5 a6 a7 kn K Q => h ⟨rfl, rfl, tx, mR, mF, mZ, mO, fun _ => ⟨K, Q⟩⟩ ym_sh_e.symm K Q kn)
theorem yq_heightK {post : Int32 → SY → Prop} {p0 p1 p2 : Int32} (W : gr_W g) (I : ym_Inv g v) (hs : ∀ {f_goal f_extra f_measured f_known f_more : Int32} {f_sum : Int64} {a_left a_size a_right a_text a_ops a_constants a_heights : Nat → Int32} {a_many : Nat → Int64} {a_chosen a_firstEnd a_secondEnd : Nat → Int32} {a_values a_nodes : Nat → Int64} {a_far a_productive a_useful a_covers : Nat → Int32} (n i j : Nat), ym_Inv g (nI (gr_P g), nI (gr_L g), f_goal, f_extra, f_measured, f_known, f_more, f_sum, a_left, a_size, a_right, a_text, a_ops, a_constants, a_heights, a_many, a_chosen, a_firstEnd, a_secondEnd, a_values, a_nodes, a_far, a_productive, a_useful, a_covers) → (a_left, a_right, a_ops, a_constants, a_text) = ym_sh v → ym_Known g a_ops a_constants a_heights a_many a_chosen a_firstEnd a_secondEnd a_values a_nodes → pu_V g n i j → p0 = nI (10 + n) → p1 = nI i → p2 = nI j → post (nI (pu_HH g n i j)) (nI (gr_P g), nI (gr_L g), f_goal, f_extra, f_measured, f_known, f_more, f_sum, a_left, a_size, a_right, a_text, a_ops, a_constants, a_heights, a_many, a_chosen, a_firstEnd, a_secondEnd, a_values, a_nodes, a_far, a_productive, a_useful, a_covers)) (hn : (∀ n i j, pu_V g n i j → ¬ (p0 = nI (10 + n) ∧ p1 = nI i ∧ p2 = nI j)) → post 0 v) : wpY_height post v p0 p1 p2 := by
  obtain ⟨f_productions, f_length, f_goal, f_extra, f_measured, f_known, f_more, f_sum, a_left, a_size, a_right, a_text, a_ops, a_constants, a_heights, a_many, a_chosen, a_firstEnd, a_secondEnd, a_values, a_nodes, a_far, a_productive, a_useful, a_covers⟩ := v
  have I0 := I
  obtain ⟨rfl, rfl, _⟩ := I
  unfold wpY_height
  refine ys_span W (fun n i j hv e0 e1 e2 => br_f (by decide) ?_) (fun q => br_t rfl (hn q))
  refine yq_know W I0 (fun I' e K Q kn => ys_cell n i j e0 e1 e2 ⟨vp_in_nI (cy_lt W hv) (by decide), ?_⟩)
  rw [nI_clamp (by have := cy_lt W hv; omega), K.1.2.1 n i j hv]
  exact hs n i j I' e K hv e0 e1 e2
theorem yq_derivesK {post : Int32 → SY → Prop} {p0 p1 p2 : Int32} (W : gr_W g) (I : ym_Inv g v) (hs : ∀ {f_goal f_extra f_measured f_known f_more : Int32} {f_sum : Int64} {a_left a_size a_right a_text a_ops a_constants a_heights : Nat → Int32} {a_many : Nat → Int64} {a_chosen a_firstEnd a_secondEnd : Nat → Int32} {a_values a_nodes : Nat → Int64} {a_far a_productive a_useful a_covers : Nat → Int32} (n i j : Nat), ym_Inv g (nI (gr_P g), nI (gr_L g), f_goal, f_extra, f_measured, f_known, f_more, f_sum, a_left, a_size, a_right, a_text, a_ops, a_constants, a_heights, a_many, a_chosen, a_firstEnd, a_secondEnd, a_values, a_nodes, a_far, a_productive, a_useful, a_covers) → (a_left, a_right, a_ops, a_constants, a_text) = ym_sh v → ym_Known g a_ops a_constants a_heights a_many a_chosen a_firstEnd a_secondEnd a_values a_nodes → pu_V g n i j → p0 = nI (10 + n) → p1 = nI i → p2 = nI j → (0 < pu_HH g n i j → post 1 (nI (gr_P g), nI (gr_L g), f_goal, f_extra, f_measured, f_known, f_more, f_sum, a_left, a_size, a_right, a_text, a_ops, a_constants, a_heights, a_many, a_chosen, a_firstEnd, a_secondEnd, a_values, a_nodes, a_far, a_productive, a_useful, a_covers)) ∧ (¬ 0 < pu_HH g n i j → post 0 (nI (gr_P g), nI (gr_L g), f_goal, f_extra, f_measured, f_known, f_more, f_sum, a_left, a_size, a_right, a_text, a_ops, a_constants, a_heights, a_many, a_chosen, a_firstEnd, a_secondEnd, a_values, a_nodes, a_far, a_productive, a_useful, a_covers))) (hn : (∀ n i j, pu_V g n i j → ¬ (p0 = nI (10 + n) ∧ p1 = nI i ∧ p2 = nI j)) → post 0 v) : wpY_derives post v p0 p1 p2 := by
  obtain ⟨f_productions, f_length, f_goal, f_extra, f_measured, f_known, f_more, f_sum, a_left, a_size, a_right, a_text, a_ops, a_constants, a_heights, a_many, a_chosen, a_firstEnd, a_secondEnd, a_values, a_nodes, a_far, a_productive, a_useful, a_covers⟩ := v
  unfold wpY_derives
  refine yq_heightK W I (fun n i j I' e K hv e0 e1 e2 => ?_) (fun q => br_t (by decide) (hn q))
  have H := hs n i j I' e K hv e0 e1 e2
  have hb := (K.1.1 n i j hv).2.2
  exact pk_le (pu_HH g n i j) 0 (fun c => H.2 (by omega)) (fun c => H.1 c)
theorem yq_derives {post : Int32 → SY → Prop} {p0 p1 p2 : Int32} (W : gr_W g) (I : ym_Inv g v) (hs : ∀ v' n i j, ym_Inv g v' → ym_sh v' = ym_sh v → pu_V g n i j → p0 = nI (10 + n) → p1 = nI i → p2 = nI j → post (if 0 < pu_HH g n i j then 1 else 0) v') (hn : (∀ n i j, pu_V g n i j → ¬ (p0 = nI (10 + n) ∧ p1 = nI i ∧ p2 = nI j)) → post 0 v) : wpY_derives post v p0 p1 p2 :=
  yq_derivesK W I (fun n i j I' e K hv e0 e1 e2 => ⟨fun c => xb_pv (if_pos c) (hs _ n i j I' (ym_sh_e.trans e) hv e0 e1 e2), fun c => xb_pv (if_neg c) (hs _ n i j I' (ym_sh_e.trans e) hv e0 e1 e2)⟩) hn
theorem yq_height {post : Int32 → SY → Prop} {p0 p1 p2 : Int32} (W : gr_W g) (I : ym_Inv g v) (hs : ∀ v' n i j, ym_Inv g v' → ym_sh v' = ym_sh v → pu_V g n i j → p0 = nI (10 + n) → p1 = nI i → p2 = nI j → post (nI (pu_HH g n i j)) v') (hn : (∀ n i j, pu_V g n i j → ¬ (p0 = nI (10 + n) ∧ p1 = nI i ∧ p2 = nI j)) → post 0 v) : wpY_height post v p0 p1 p2 :=
  yq_heightK W I (fun n i j I' e K hv e0 e1 e2 => hs _ n i j I' (ym_sh_e.trans e) hv e0 e1 e2) hn
theorem yq_trees {post : Int32 → SY → Prop} {p0 p1 p2 : Int32} (W : gr_W g) (I : ym_Inv g v) (hs : ∀ v' n i j, ym_Inv g v' → ym_sh v' = ym_sh v → pu_V g n i j → p0 = nI (10 + n) → p1 = nI i → p2 = nI j → post (xc_v (pu_HH g n i j) (pu_CC g n i j)) v') (hn : (∀ n i j, pu_V g n i j → ¬ (p0 = nI (10 + n) ∧ p1 = nI i ∧ p2 = nI j)) → post 0 v) : wpY_trees post v p0 p1 p2 := by
  obtain ⟨f_productions, f_length, f_goal, f_extra, f_measured, f_known, f_more, f_sum, a_left, a_size, a_right, a_text, a_ops, a_constants, a_heights, a_many, a_chosen, a_firstEnd, a_secondEnd, a_values, a_nodes, a_far, a_productive, a_useful, a_covers⟩ := v
  have I0 := I
  obtain ⟨rfl, rfl, _⟩ := I
  unfold wpY_trees
  refine ys_span W (fun n i j hv e0 e1 e2 => br_f (by decide) ?_) (fun q => br_t rfl (hn q))
  have hl := cy_lt W hv
  have hin : vp_in (nI (cy n i j)) 980 := vp_in_nI hl (by decide)
  have ec : (nI (cy n i j)).toNatClampNeg = cy n i j := nI_clamp (by omega)
  refine yq_know W I0 (fun I' e K Q kn => ys_cell n i j e0 e1 e2 ⟨hin, ?_⟩)
  have z := hs _ n i j I' (ym_sh_e.trans e) hv e0 e1 e2
  have hb := (K.1.1 n i j hv).2.2
  have fb := pu_CI_le K.2.1.1.1 hv
  rw [ec, K.1.2.1 n i j hv, K.2.1.2 n i j hv]
  unfold xc_v at z
  refine pk_le (pu_HH g n i j) 0 (fun c => ⟨hin, ?_⟩) (fun c => ⟨hin, ek_if (d := pu_CC g n i j = 0) (pk_lEQ (b := 0) (by omega) (by decide)) (fun c2 => ?_) (fun c2 => ⟨hin, ?_⟩)⟩)
  · rw [if_pos (by omega)] at z
    rw [K.2.1.1.1.1 n i j hv (by omega), lN_i]; exact z
  · rw [if_neg (by omega), if_pos c2] at z; exact z
  · rw [if_neg (by omega), if_neg c2] at z
    rw [lN_i]; exact z
theorem yq_longest {post : Int32 → SY → Prop} {p0 p1 : Int32} (W : gr_W g) (I : ym_Inv g v) (hs : ∀ v' n i, ym_Inv g v' → ym_sh v' = ym_sh v → n < 5 → i ≤ gr_L g → p0 = nI (10 + n) → p1 = nI i → (∀ j, i ≤ j → j ≤ gr_L g → 0 < pu_HH g n i j → (∀ j', j < j' → j' ≤ gr_L g → pu_HH g n i j' = 0) → post (nI j) v') ∧ ((∀ j, i ≤ j → j ≤ gr_L g → pu_HH g n i j = 0) → post (-1) v')) (hn : (∀ n i, n < 5 → i ≤ gr_L g → ¬ (p0 = nI (10 + n) ∧ p1 = nI i)) → post (-1) v) : wpY_longest post v p0 p1 := by
  obtain ⟨f_productions, f_length, f_goal, f_extra, f_measured, f_known, f_more, f_sum, a_left, a_size, a_right, a_text, a_ops, a_constants, a_heights, a_many, a_chosen, a_firstEnd, a_secondEnd, a_values, a_nodes, a_far, a_productive, a_useful, a_covers⟩ := v
  have I0 := I
  obtain ⟨rfl, rfl, _⟩ := I
  have hL := W.2.1
  unfold wpY_longest
  refine ys_span W (fun n i j hv e0 e1 e2 => br_f (by decide) ?_) (fun q => br_t rfl (hn (fun n i h1 h2 z => q n i i ⟨h1, Nat.le_refl _, h2⟩ ⟨z.1, z.2, z.2⟩)))
  have hi : i ≤ gr_L g := by have := hv.2; omega
  refine yq_know W I0 (fun {f1 f2 f3 f4 f5 f6 a1 a2 a3 a4 a5 a6 a7 a8 a9 a10 a11 a12 a13 a14 a15 a16 a17} I' e K Q kn => ?_)
  have H := hs _ n i I' (ym_sh_e.trans e) hv.1 hi e0 e1
  subst e0 e1
  have Kl : ∀ d j, j + d = gr_L g + 1 → i ≤ j → ∀ b : Int32, ((b = -1 ∧ ∀ j', i ≤ j' → j' < j → pu_HH g n i j' = 0) ∨ (∃ j0, b = nI j0 ∧ i ≤ j0 ∧ j0 < j ∧ 0 < pu_HH g n i j0 ∧ ∀ j', j0 < j' → j' < j → pu_HH g n i j' = 0)) → wY_longest_21 post (nI (10 + n)) (nI i) (nI (gr_P g)) (nI (gr_L g)) f1 f2 f3 f4 f5 f6 a1 a2 a3 a4 a5 a6 a7 a8 a9 a10 a11 a12 a13 a14 a15 a16 a17 (d + 1) b (nI j) := by
    intro d
    induction d with
    | zero =>
      intro j hj hij b hb
      refine br_t (nI_lt (by omega) (by omega)) ?_
      obtain ⟨rfl, q⟩ | ⟨j0, rfl, h1, h2, h3, h4⟩ := hb
      · exact H.2 (fun j' h1 h2 => q j' h1 (by omega))
      · exact H.1 j0 h1 (by omega) h3 (fun j' q1 q2 => h4 j' q1 (by omega))
    | succ d ih =>
      intro j hj hij b hb
      have hvj : pu_V g n i j := ⟨hv.1, hij, by omega⟩
      have hl := cy_lt W hvj
      have hbb := (K.1.1 _ _ _ hvj).2.2
      refine br_f (nI_nlt (by omega) (by omega)) (ys_cell n i j rfl rfl rfl ⟨vp_in_nI hl (by decide), ?_⟩)
      rw [nI_clamp (by omega), K.1.2.1 _ _ _ hvj]
      refine pk_le (pu_HH g n i j) 0 (fun c => nm_r (nI_1 j) (ih (j + 1) (by omega) (by omega) b ?_)) (fun c => nm_r (nI_1 j) (ih (j + 1) (by omega) (by omega) (nI j) (Or.inr ⟨j, rfl, hij, by omega, c, fun j' h1 h2 => by omega⟩)))
      obtain ⟨rfl, q⟩ | ⟨j0, rfl, h1, h2, h3, h4⟩ := hb
      · refine Or.inl ⟨rfl, fun j' h1 h2 => ?_⟩
        by_cases z : j' = j
        · rw [z]; omega
        · exact q j' h1 (by omega)
      · refine Or.inr ⟨j0, rfl, h1, by omega, h3, fun j' q1 q2 => ?_⟩
        by_cases z : j' = j
        · rw [z]; omega
        · exact h4 j' q1 (by omega)
  exact ⟨gr_L g + 1 - i + 1, Kl (gr_L g + 1 - i) i (by omega) (Nat.le_refl _) (-1) (Or.inl ⟨rfl, fun j' h1 h2 => by omega⟩)⟩
theorem yq_value {post : Int64 → SY → Prop} {p0 p1 p2 : Int32} (W : gr_W g) (I : ym_Inv g v) (hs : ∀ v' n i j, ym_Inv g v' → ym_sh v' = ym_sh v → pu_V g n i j → p0 = nI (10 + n) → p1 = nI i → p2 = nI j → post (pu_VL g (ym_sh v).2.2.1 (ym_sh v).2.2.2.1 n i j) v') (hn : (∀ n i j, pu_V g n i j → ¬ (p0 = nI (10 + n) ∧ p1 = nI i ∧ p2 = nI j)) → post ev_N v) : wpY_value post v p0 p1 p2 := by
  obtain ⟨f_productions, f_length, f_goal, f_extra, f_measured, f_known, f_more, f_sum, a_left, a_size, a_right, a_text, a_ops, a_constants, a_heights, a_many, a_chosen, a_firstEnd, a_secondEnd, a_values, a_nodes, a_far, a_productive, a_useful, a_covers⟩ := v
  unfold wpY_value
  refine yq_derivesK W I (fun n i j I' e K hv e0 e1 e2 => ⟨fun c => br_f (by decide) ?_, fun c => br_t rfl ?_⟩) (fun q => br_t rfl (hn q))
  · have hl := cy_lt W hv
    refine ys_cell n i j e0 e1 e2 ⟨vp_in_nI hl (by decide), ?_⟩
    rw [nI_clamp (by omega), (K.2.2 n i j hv c trivial).2.2.2.1]
    rw [← e] at hs
    exact hs _ n i j I' ym_sh_e hv e0 e1 e2
  · have z := hs _ n i j I' (ym_sh_e.trans e) hv e0 e1 e2
    rw [pu_VL_0 (by omega)] at z
    exact z
theorem pu_lft_0 {f : Nat → Nat} : ∀ d, d ≤ 3 → (∀ m, 3 - d ≤ m → m < 3 → f m = 0) → pu_lft f d = 0 := by
  intro d
  induction d with
  | zero => intro _ _; rfl
  | succ d ih =>
    intro hd h
    show f (2 - d) + pu_lft f d = 0
    rw [h (2 - d) (by omega) (by omega), ih (by omega) (fun m h1 h2 => h m (by omega) h2)]
end
section
variable {g : gr_G} {f_goal f_extra f_measured f_known f_more : Int32} {f_sum : Int64} {a_left a_size a_right a_text a_ops a_constants a_heights : Nat → Int32} {a_many : Nat → Int64} {a_chosen a_firstEnd a_secondEnd : Nat → Int32} {a_values a_nodes : Nat → Int64} {a_far a_productive a_useful a_covers : Nat → Int32}
theorem ys_node61 {post : Int32 → SY → Prop} (W : gr_W g) (mR : xm_R g a_right) (mZ : ym_Z g a_size) (Kn : ym_Known g a_ops a_constants a_heights a_many a_chosen a_firstEnd a_secondEnd a_values a_nodes) : ∀ f n i j k, k < f → pu_V g n i j → 0 < pu_HH g n i j → pu_SZ g n i j ≤ 1000000000 → k < pu_SZ g n i j → post (nI (10000 * pu_cp g (pu_ND g n i j k).1 (pu_ND g n i j k).2.1 (pu_ND g n i j k).2.2 + 100 * (pu_ND g n i j k).2.1 + (pu_ND g n i j k).2.2)) (nI (gr_P g), nI (gr_L g), f_goal, f_extra, f_measured, f_known, f_more, f_sum, a_left, a_size, a_right, a_text, a_ops, a_constants, a_heights, a_many, a_chosen, a_firstEnd, a_secondEnd, a_values, a_nodes, a_far, a_productive, a_useful, a_covers) → wY_node_61 post (nI (gr_P g)) (nI (gr_L g)) f_goal f_extra f_measured f_known f_more f_sum a_left a_size a_right a_text a_ops a_constants a_heights a_many a_chosen a_firstEnd a_secondEnd a_values a_nodes a_far a_productive a_useful a_covers f (nI (cy n i j)) (lN k) := by
  have hL := W.2.1
  have hP := W.1
  have S := Kn.1.1
  have X := pu_CHX_of W S
  intro f
  induction f with
  | zero => intro n i j k hk; omega
  | succ f ih =>
    intro n i j k hkf hv h0 hz hk hp
    have hl := cy_lt W hv
    have hin : vp_in (nI (cy n i j)) 980 := vp_in_nI hl (by decide)
    have ec : (nI (cy n i j)).toNatClampNeg = cy n i j := nI_clamp (by omega)
    obtain ⟨e1, e2, e3, _, _⟩ := Kn.2.2 n i j hv h0 trivial
    have hcp : pu_cp g n i j < gr_P g := (pu_part W X hv h0 (m := 0) (by decide)).1
    have d2 : (nI (cy n i j) - nI (cy n i j) / 196 * 196) / 14 = nI i := by
      rw [show (196 : Int32) = nI 196 from rfl, pk_rem (by omega) (by decide) (by decide), show (14 : Int32) = nI 14 from rfl, pk_div (by omega) (by decide) (by decide), (cy_dec W hv).2.1]
    have d3 : nI (cy n i j) - nI (cy n i j) / 14 * 14 = nI j := by
      rw [show (14 : Int32) = nI 14 from rfl, pk_rem (by omega) (by decide) (by decide), (cy_dec W hv).2.2]
    refine ek_if (d := k ≤ 0) (pk_lLE (b := 0) (by omega) (by decide)) (fun l => ⟨hin, by decide, by decide, by decide, ?_⟩) (fun l => ⟨hin, nm_r (e' := nI (pu_cp g n i j)) (by rw [ec]; exact e1) ⟨by decide, by decide, nm_r d2 ⟨by decide, nm_r d3 (nm_r (e' := lN (k - 1)) (by rw [show (1 : Int64) = lN 1 from rfl, lN_sub (by omega)]) ⟨3 + 1 + 1, ?_⟩)⟩⟩⟩)
    · have : k = 0 := by omega
      subst this
      rw [pu_ND_0] at hp
      rw [ec, e1, d2, d3, show (10000 : Int32) = nI 10000 from rfl, show (100 : Int32) = nI 100 from rfl, pk_mul, pk_mul, nI_add, nI_add]
      exact hp
    · obtain ⟨m1, hm1, nt1, k1, hk1, l1, esl, eN⟩ := pu_ND_s W X hv h0 (by omega) hk
      obtain ⟨v1, h01, hlt1⟩ := (pu_part W X hv h0 hm1).2.2.2.2 nt1
      have sl1 := pu_SZ_pt W X hv h0 hm1
      rw [pu_pz_t nt1] at sl1
      have fin : wY_node_61 post (nI (gr_P g)) (nI (gr_L g)) f_goal f_extra f_measured f_known f_more f_sum a_left a_size a_right a_text a_ops a_constants a_heights a_many a_chosen a_firstEnd a_secondEnd a_values a_nodes a_far a_productive a_useful a_covers f (nI (cy (pu_s g n i j m1 - 10) (pu_b g n i j m1) (pu_e g n i j m1))) (lN k1) := ih _ _ _ k1 (by omega) v1 h01 (by omega) l1 (by rw [← eN]; exact hp)
      have ez : a_size (nI (pu_cp g n i j)).toNatClampNeg = nI (pu_k g (pu_cp g n i j)) := by rw [nI_clamp (by omega)]; exact mZ _ hcp
      have inp : vp_in (nI (pu_cp g n i j)) 12 := vp_in_nI (by omega) (by decide)
      have k3 := pu_k_le g (pu_cp g n i j)
      have K101 : ∀ d m, m + d = 3 → ∀ k, k < 1000000000 → k < pu_lft (pu_pz g (pu_SZ g) n i j) d → pu_sl g n i j d k = (pu_s g n i j m1 - 10, pu_b g n i j m1, pu_e g n i j m1, k1) → wY_node_101 post (wY_node_61 post (nI (gr_P g)) (nI (gr_L g)) f_goal f_extra f_measured f_known f_more f_sum a_left a_size a_right a_text a_ops a_constants a_heights a_many a_chosen a_firstEnd a_secondEnd a_values a_nodes a_far a_productive a_useful a_covers f) (nI (cy n i j)) (nI (pu_cp g n i j)) (nI i) (nI j) (nI (gr_P g)) (nI (gr_L g)) f_goal f_extra f_measured f_known f_more f_sum a_left a_size a_right a_text a_ops a_constants a_heights a_many a_chosen a_firstEnd a_secondEnd a_values a_nodes a_far a_productive a_useful a_covers (d + 1 + 1) (lN k) (-1) (nI m) := by
        intro d
        induction d with
        | zero => intro m hm k hk1 hk; exact absurd hk (Nat.not_lt_zero _)
        | succ d ihd =>
          intro m hm k hk1 hk hsl
          have em : m = 2 - d := by omega
          have hm3 : m < 3 := by omega
          have mk : m < pu_k g (pu_cp g n i j) := by
            by_cases c : m < pu_k g (pu_cp g n i j)
            · exact c
            · exfalso
              rw [pu_lft_0 (d + 1) (by omega) (fun q h1 h2 => pu_pz_f (fun nt => ?_))] at hk
              · omega
              · unfold pu_nt pu_s at nt
                have kc := pu_k_c W hcp
                have : q = 0 ∨ q = 1 ∨ q = 2 := by omega
                unfold pu_cp at *
                obtain rfl | rfl | rfl := this
                · have nt' : 10 ≤ gr_R g (3 * (pu_ch g n i j).1) ∧ gr_R g (3 * (pu_ch g n i j).1) < 99 := nt
                  omega
                · omega
                · omega
          subst em
          have hk' : k < pu_pz g (pu_SZ g) n i j (2 - d) + pu_lft (pu_pz g (pu_SZ g) n i j) d := hk
          obtain ⟨_, ok, hbe, heL, hpt⟩ := pu_part W X hv h0 hm3
          refine ⟨inp, br_f (by rw [ez]; exact nI_ge mk (by omega)) (br_f (by decide) ⟨xb_i (by omega) hm3, nm_r (e' := sy_m (pu_s g n i j (2 - d))) (xm_Rm W mR hcp hm3) ?_⟩)⟩
          refine ys_pb W hv hm3 e2 e3 (ys_pe W hv hm3 e2 e3 (ek_if (sy_lt ok) (fun c => ?_) (fun c => ?_)))
          · have nt : ¬ pu_nt (pu_s g n i j (2 - d)) := by unfold pu_nt; omega
            rw [pu_pz_f nt] at hk'
            exact nm_r (nI_1 (2 - d)) (ihd (2 - d + 1) (by omega) k hk1 (by omega) ((pu_sl_f nt).symm.trans hsl))
          · have nt : pu_nt (pu_s g n i j (2 - d)) := by unfold pu_nt; unfold pu_ok at ok; omega
            obtain ⟨v', h0', hlt⟩ := hpt nt
            have hl' := cy_lt W v'
            have sl := pu_SZ_pt W X hv h0 hm3
            rw [pu_pz_t nt] at sl hk'
            have en : a_nodes (nI (cy (pu_s g n i j (2 - d) - 10) (pu_b g n i j (2 - d)) (pu_e g n i j (2 - d)))).toNatClampNeg = lN (pu_SZ g (pu_s g n i j (2 - d) - 10) (pu_b g n i j (2 - d)) (pu_e g n i j (2 - d))) := by
              rw [nI_clamp (by omega), (Kn.2.2 _ _ _ v' h0' trivial).2.2.2.2]
              unfold pu_c2; rw [if_pos (by omega)]
            refine ys_cell (pu_s g n i j (2 - d) - 10) (pu_b g n i j (2 - d)) (pu_e g n i j (2 - d)) (sy_nt nt) rfl rfl ⟨vp_in_nI hl' (by decide), ?_⟩
            rw [en]
            refine ek_if (d := pu_SZ g (pu_s g n i j (2 - d) - 10) (pu_b g n i j (2 - d)) (pu_e g n i j (2 - d)) ≤ k) (pk_lLE (by omega) (by omega)) (fun l => ⟨vp_in_nI hl' (by decide), nm_r (e' := lN (k - pu_SZ g (pu_s g n i j (2 - d) - 10) (pu_b g n i j (2 - d)) (pu_e g n i j (2 - d)))) (lN_sub l) (nm_r (nI_1 (2 - d)) (ihd (2 - d + 1) (by omega) _ (by omega) (by omega) ((pu_sl_m nt (by omega)).symm.trans hsl)))⟩) (fun l => nm_r (nI_1 (2 - d)) ?_)
            have q := (pu_sl_t nt (by omega)).symm.trans hsl
            injection q with q1 q
            injection q with q2 q
            injection q with q3 q4
            rw [q1, q2, q3, q4]
            have hl1 := cy_lt W v1
            refine ⟨inp, br_c (fun _ => fin) (fun _ => br_t (nI_pos' (by omega)) fin)⟩
      exact K101 3 0 rfl (k - 1) (by omega) (pu_lft3 W X hv h0 (by omega) hk) esl
end
end
section
/-! the reference: the other questions -/
section
variable {g : gr_G} {v : SY}
theorem yq_node {post : Int32 → SY → Prop} {p0 : Int32} (W : gr_W g) (I : ym_Inv g v) (hs : ∀ v' k, ym_Inv g v' → ym_sh v' = ym_sh v → p0 = nI k → k < pu_SZ g 0 0 (gr_L g) → pu_SZ g 0 0 (gr_L g) ≤ 1000000000 → post (nI (10000 * pu_cp g (pu_ND g 0 0 (gr_L g) k).1 (pu_ND g 0 0 (gr_L g) k).2.1 (pu_ND g 0 0 (gr_L g) k).2.2 + 100 * (pu_ND g 0 0 (gr_L g) k).2.1 + (pu_ND g 0 0 (gr_L g) k).2.2)) v') (hn : ∀ v', ym_Inv g v' → ym_sh v' = ym_sh v → (∀ k, k < 2 ^ 31 → ¬ (p0 = nI k ∧ k < pu_SZ g 0 0 (gr_L g) ∧ pu_SZ g 0 0 (gr_L g) ≤ 1000000000)) → post (-1) v') : wpY_node post v p0 := by
  obtain ⟨f_productions, f_length, f_goal, f_extra, f_measured, f_known, f_more, f_sum, a_left, a_size, a_right, a_text, a_ops, a_constants, a_heights, a_many, a_chosen, a_firstEnd, a_secondEnd, a_values, a_nodes, a_far, a_productive, a_useful, a_covers⟩ := v
  have I0 := I
  obtain ⟨rfl, rfl, _⟩ := I
  have hL := W.2.1
  have hv : pu_V g 0 0 (gr_L g) := ⟨by decide, Nat.zero_le _, Nat.le_refl _⟩
  have hl := cy_lt W hv
  have hin : vp_in (nI (cy 0 0 (gr_L g))) 980 := vp_in_nI hl (by decide)
  have ec : (nI (cy 0 0 (gr_L g))).toNatClampNeg = cy 0 0 (gr_L g) := nI_clamp (by omega)
  refine br_c (fun q => hn _ I0 rfl (fun k hk z => xb_nlt (lo := 0) (k := k) (by decide) q hk (by omega) z.1)) (fun q => ?_)
  obtain ⟨k, hk, rfl⟩ := nI_of q
  refine yq_derivesK W I0 (fun n i j I' e K hv' e0 e1 e2 => ?_) (fun q => absurd ⟨rfl, rfl, rfl⟩ (q 0 0 (gr_L g) hv))
  have hv2 := hv'.2
  have n0 : n = 0 := by
    have : nI 10 = nI (10 + n) := e0
    rw [nI_eq (by decide) (by have := hv'.1; omega)] at this; omega
  have i0 : i = 0 := by
    have : nI 0 = nI i := e1
    rw [nI_eq (by decide) (by omega)] at this; omega
  have j0 : j = gr_L g := by rw [nI_eq (by omega) (by omega)] at e2; omega
  subst n0 i0 j0
  refine ⟨fun h0 => br_f (by decide) (ys_cell 0 0 (gr_L g) rfl rfl rfl ⟨hin, ?_⟩), fun h0 => br_t rfl (hn _ I' (ym_sh_e.trans e) (fun k' hk' z => ?_))⟩
  · have D := (K.2.2 0 0 (gr_L g) hv h0 trivial).2.2.2.2
    have l2 := pu_c2_le (pu_SZ g 0 0 (gr_L g))
    have mR := I'.2.2.2.1
    have mZ := I'.2.2.2.2.2.1
    rw [ec, D, nI_l hk]
    refine ek_if (d := pu_c2 (pu_SZ g 0 0 (gr_L g)) ≤ k) (pk_lLE (by omega) (by omega)) (fun l => hn _ I' (ym_sh_e.trans e) (fun k' hk' z => ?_)) (fun l => ⟨hin, ?_⟩)
    · obtain ⟨z1, z2, z3⟩ := z
      rw [nI_eq hk hk'] at z1
      unfold pu_c2 at l
      rw [if_pos (by omega)] at l
      omega
    · refine ek_if (d := pu_c2 (pu_SZ g 0 0 (gr_L g)) ≤ 1000000000) (pk_lLE (b := 1000000000) (by omega) (by decide)) (fun l3 => ⟨k + 1, ?_⟩) (fun l3 => hn _ I' (ym_sh_e.trans e) (fun k' hk' z => ?_))
      · have s9 : pu_SZ g 0 0 (gr_L g) ≤ 1000000000 := by
          by_cases c : pu_SZ g 0 0 (gr_L g) < 2000000000
          · unfold pu_c2 at l3; rw [if_pos c] at l3; exact l3
          · unfold pu_c2 at l3; rw [if_neg c] at l3; omega
        have kl : k < pu_SZ g 0 0 (gr_L g) := by
          unfold pu_c2 at l; rw [if_pos (by omega)] at l; omega
        exact ys_node61 W mR mZ K (k + 1) 0 0 (gr_L g) k (by omega) hv h0 s9 kl (hs _ k I' (ym_sh_e.trans e) rfl kl s9)
      · obtain ⟨z1, z2, z3⟩ := z
        unfold pu_c2 at l3
        rw [if_pos (by omega)] at l3
        omega
  · obtain ⟨z1, z2, z3⟩ := z
    rw [pu_SZ_0 (by omega)] at z2
    omega
theorem yq_distance {post : Int32 → SY → Prop} {p0 p1 p2 : Int32} (W : gr_W g) (I : ym_Inv g v) (hs : ∀ v' n i j, ym_Inv g v' → ym_sh v' = ym_sh v → pu_V g n i j → p0 = nI (10 + n) → p1 = nI i → p2 = nI j → post (if pd_D g n i j < 1000000 then nI (pd_D g n i j) else -1) v') (hn : (∀ n i j, pu_V g n i j → ¬ (p0 = nI (10 + n) ∧ p1 = nI i ∧ p2 = nI j)) → post (-1) v) : wpY_distance post v p0 p1 p2 := by
  obtain ⟨f_productions, f_length, f_goal, f_extra, f_measured, f_known, f_more, f_sum, a_left, a_size, a_right, a_text, a_ops, a_constants, a_heights, a_many, a_chosen, a_firstEnd, a_secondEnd, a_values, a_nodes, a_far, a_productive, a_useful, a_covers⟩ := v
  have I0 := I
  obtain ⟨rfl, rfl, _⟩ := I
  unfold wpY_distance
  refine ys_span W (fun n i j hv e0 e1 e2 => br_f (by decide) ?_) (fun q => br_t rfl (hn q))
  refine yq_know W I0 (fun I' e K Q kn => ?_)
  obtain ⟨_, _, tx, mR, mF, mZ, mO, hk⟩ := I'
  refine ys_measure (g := g) W tx mR mF mZ Q (fun f1 f2 a1 m1 F => ys_cell n i j e0 e1 e2 ⟨vp_in_nI (cy_lt W hv) (by decide), ?_⟩)
  rw [nI_clamp (by have := cy_lt W hv; omega), F n i j hv]
  exact hs _ n i j ⟨rfl, rfl, tx, mR, mF, mZ, mO, fun _ => ⟨K, fun _ => F⟩⟩ (ym_sh_e.trans e) hv e0 e1 e2
theorem yq_isBt {post : Int32 → SY → Prop} {k t : Nat} (W : gr_W g) (I : ym_Inv g v) (hk : k ≤ gr_L g) (ht : t < 6) (hs : ∀ {f_goal f_extra f_measured f_known f_more : Int32} {f_sum : Int64} {a_left a_size a_right a_text a_ops a_constants a_heights : Nat → Int32} {a_many : Nat → Int64} {a_chosen a_firstEnd a_secondEnd : Nat → Int32} {a_values a_nodes : Nat → Int64} {a_far a_productive a_useful a_covers : Nat → Int32}, ym_Inv g (nI (gr_P g), nI (gr_L g), f_goal, f_extra, f_measured, f_known, f_more, f_sum, a_left, a_size, a_right, a_text, a_ops, a_constants, a_heights, a_many, a_chosen, a_firstEnd, a_secondEnd, a_values, a_nodes, a_far, a_productive, a_useful, a_covers) → (a_left, a_right, a_ops, a_constants, a_text) = ym_sh v → (pf_FO g k t 0 0 → post 1 (nI (gr_P g), nI (gr_L g), f_goal, f_extra, f_measured, f_known, f_more, f_sum, a_left, a_size, a_right, a_text, a_ops, a_constants, a_heights, a_many, a_chosen, a_firstEnd, a_secondEnd, a_values, a_nodes, a_far, a_productive, a_useful, a_covers)) ∧ (¬ pf_FO g k t 0 0 → post 0 (nI (gr_P g), nI (gr_L g), f_goal, f_extra, f_measured, f_known, f_more, f_sum, a_left, a_size, a_right, a_text, a_ops, a_constants, a_heights, a_many, a_chosen, a_firstEnd, a_secondEnd, a_values, a_nodes, a_far, a_productive, a_useful, a_covers))) : wpY_isBeginning post v (nI k) (nI t) := by
  obtain ⟨f_productions, f_length, f_goal, f_extra, f_measured, f_known, f_more, f_sum, a_left, a_size, a_right, a_text, a_ops, a_constants, a_heights, a_many, a_chosen, a_firstEnd, a_secondEnd, a_values, a_nodes, a_far, a_productive, a_useful, a_covers⟩ := v
  unfold wpY_isBeginning
  refine yq_know W I (fun I' e K Q kn => br_t (nI_pos' (by omega)) ?_)
  obtain ⟨_, _, tx, mR, mF, mZ, mO, hkk⟩ := I'
  unfold wY_isBeginning_16
  refine ys_begin (g := g) (K := k) (t := t) (nI_1 k) hk W tx mR mF mZ K.1 (Or.inl ⟨rfl, ht⟩) (fun f1 a1 a2 => ?_)
  exact ⟨fun q => ⟨rfl, (hs ⟨rfl, rfl, tx, mR, mF, mZ, mO, hkk⟩ e).1 q⟩, fun q => ⟨rfl, (hs ⟨rfl, rfl, tx, mR, mF, mZ, mO, hkk⟩ e).2 q⟩⟩
theorem yq_isBm {post : Int32 → SY → Prop} {k : Nat} (W : gr_W g) (I : ym_Inv g v) (hk : k ≤ gr_L g) (hs : ∀ {f_goal f_extra f_measured f_known f_more : Int32} {f_sum : Int64} {a_left a_size a_right a_text a_ops a_constants a_heights : Nat → Int32} {a_many : Nat → Int64} {a_chosen a_firstEnd a_secondEnd : Nat → Int32} {a_values a_nodes : Nat → Int64} {a_far a_productive a_useful a_covers : Nat → Int32}, ym_Inv g (nI (gr_P g), nI (gr_L g), f_goal, f_extra, f_measured, f_known, f_more, f_sum, a_left, a_size, a_right, a_text, a_ops, a_constants, a_heights, a_many, a_chosen, a_firstEnd, a_secondEnd, a_values, a_nodes, a_far, a_productive, a_useful, a_covers) → (a_left, a_right, a_ops, a_constants, a_text) = ym_sh v → (pf_B g k → post 1 (nI (gr_P g), nI (gr_L g), f_goal, f_extra, f_measured, f_known, f_more, f_sum, a_left, a_size, a_right, a_text, a_ops, a_constants, a_heights, a_many, a_chosen, a_firstEnd, a_secondEnd, a_values, a_nodes, a_far, a_productive, a_useful, a_covers)) ∧ (¬ pf_B g k → post 0 (nI (gr_P g), nI (gr_L g), f_goal, f_extra, f_measured, f_known, f_more, f_sum, a_left, a_size, a_right, a_text, a_ops, a_constants, a_heights, a_many, a_chosen, a_firstEnd, a_secondEnd, a_values, a_nodes, a_far, a_productive, a_useful, a_covers))) : wpY_isBeginning post v (nI k) (-1) := by
  obtain ⟨f_productions, f_length, f_goal, f_extra, f_measured, f_known, f_more, f_sum, a_left, a_size, a_right, a_text, a_ops, a_constants, a_heights, a_many, a_chosen, a_firstEnd, a_secondEnd, a_values, a_nodes, a_far, a_productive, a_useful, a_covers⟩ := v
  unfold wpY_isBeginning
  refine yq_know W I (fun I' e K Q kn => br_f (by decide) ?_)
  obtain ⟨_, _, tx, mR, mF, mZ, mO, hkk⟩ := I'
  unfold wY_isBeginning_16
  by_cases c : k = 0
  · subst c
    have eB : pf_B g 0 = pf_PR g 0 := if_pos rfl
    rw [eB] at hs
    refine ys_begin0 (g := g) rfl W mR mF mZ (fun a1 => ?_)
    exact ⟨fun q => ⟨rfl, (hs ⟨rfl, rfl, tx, mR, mF, mZ, mO, hkk⟩ e).1 q⟩, fun q => ⟨rfl, (hs ⟨rfl, rfl, tx, mR, mF, mZ, mO, hkk⟩ e).2 q⟩⟩
  · obtain ⟨q, rfl⟩ : ∃ q, k = q + 1 := ⟨k - 1, by omega⟩
    have eB : pf_B g (q + 1) = pf_FO g q (gr_T g q) 0 0 := if_neg c
    rw [eB] at hs
    refine ys_begin (g := g) (K := q) (t := gr_T g q) rfl (by omega) W tx mR mF mZ K.1 (Or.inr ⟨rfl, by omega, rfl⟩) (fun f1 a1 a2 => ?_)
    exact ⟨fun q => ⟨rfl, (hs ⟨rfl, rfl, tx, mR, mF, mZ, mO, hkk⟩ e).1 q⟩, fun q => ⟨rfl, (hs ⟨rfl, rfl, tx, mR, mF, mZ, mO, hkk⟩ e).2 q⟩⟩
theorem yq_errorAt {post : Int32 → SY → Prop} (W : gr_W g) (I : ym_Inv g v) (hs : ∀ v', ym_Inv g v' → ym_sh v' = ym_sh v → (0 < pu_HH g 0 0 (gr_L g) → post (-1) v') ∧ (pu_HH g 0 0 (gr_L g) = 0 → ∀ k, k ≤ gr_L g → pf_B g k → (∀ k', k < k' → k' ≤ gr_L g → ¬ pf_B g k') → post (nI k) v') ∧ (pu_HH g 0 0 (gr_L g) = 0 → (∀ k, k ≤ gr_L g → ¬ pf_B g k) → post (-2) v')) : wpY_errorAt post v := by
  have hL := W.2.1
  have Kl : pu_HH g 0 0 (gr_L g) = 0 → ∀ d, d ≤ gr_L g + 1 → (∀ k', d ≤ k' → k' ≤ gr_L g → ¬ pf_B g k') → ∀ {f_goal f_extra f_measured f_known f_more : Int32} {f_sum : Int64} {a_left a_size a_right a_text a_ops a_constants a_heights : Nat → Int32} {a_many : Nat → Int64} {a_chosen a_firstEnd a_secondEnd : Nat → Int32} {a_values a_nodes : Nat → Int64} {a_far a_productive a_useful a_covers : Nat → Int32}, ym_Inv g (nI (gr_P g), nI (gr_L g), f_goal, f_extra, f_measured, f_known, f_more, f_sum, a_left, a_size, a_right, a_text, a_ops, a_constants, a_heights, a_many, a_chosen, a_firstEnd, a_secondEnd, a_values, a_nodes, a_far, a_productive, a_useful, a_covers) → (a_left, a_right, a_ops, a_constants, a_text) = ym_sh v → wY_errorAt_21 post (d + 1) (nI d + (-1)) (nI (gr_P g)) (nI (gr_L g)) f_goal f_extra f_measured f_known f_more f_sum a_left a_size a_right a_text a_ops a_constants a_heights a_many a_chosen a_firstEnd a_secondEnd a_values a_nodes a_far a_productive a_useful a_covers := by
    intro z d
    induction d with
    | zero =>
      intro hd hist f1 f2 f3 f4 f5 f6 a1 a2 a3 a4 a5 a6 a7 a8 a9 a10 a11 a12 a13 a14 a15 a16 a17 I' e
      exact br_t ((xb_m1lt (b := 0) (by decide) (by decide)).mpr (Nat.le_refl _)) ((hs _ I' (ym_sh_e.trans e)).2.2 z (fun k hk => hist k (by omega) hk))
    | succ d ih =>
      intro hd hist f1 f2 f3 f4 f5 f6 a1 a2 a3 a4 a5 a6 a7 a8 a9 a10 a11 a12 a13 a14 a15 a16 a17 I' e
      refine br_f (fun z => by have := (xb_m1lt (b := 0) (by omega) (by decide)).mp z; omega) ?_
      rw [pk_m1]
      refine yq_isBm W I' (by omega) (fun I2 e2 => ⟨fun b => br_f (by decide) ((hs _ I2 (ym_sh_e.trans (e2.trans (ym_sh_e.trans e)))).2.1 z d (by omega) b (fun k' h1 h2 => hist k' (by omega) h2)), fun b => br_t rfl (nm_e (ih (by omega) (fun k' h1 h2 => ?_) I2 (e2.trans (ym_sh_e.trans e))))⟩)
      by_cases q : k' = d
      · rw [q]; exact b
      · exact hist k' (by omega) h2
  obtain ⟨f_productions, f_length, f_goal, f_extra, f_measured, f_known, f_more, f_sum, a_left, a_size, a_right, a_text, a_ops, a_constants, a_heights, a_many, a_chosen, a_firstEnd, a_secondEnd, a_values, a_nodes, a_far, a_productive, a_useful, a_covers⟩ := v
  have I0 := I
  obtain ⟨rfl, rfl, _⟩ := I
  have hv : pu_V g 0 0 (gr_L g) := ⟨by decide, Nat.zero_le _, Nat.le_refl _⟩
  unfold wpY_errorAt
  refine yq_derivesK W I0 (fun n i j I' e K hv' e0 e1 e2 => ?_) (fun q => absurd ⟨rfl, rfl, rfl⟩ (q 0 0 (gr_L g) hv))
  have hv2 := hv'.2
  have n0 : n = 0 := by
    have : nI 10 = nI (10 + n) := e0
    rw [nI_eq (by decide) (by have := hv'.1; omega)] at this; omega
  have i0 : i = 0 := by
    have : nI 0 = nI i := e1
    rw [nI_eq (by decide) (by omega)] at this; omega
  have j0 : j = gr_L g := by rw [nI_eq (by omega) (by omega)] at e2; omega
  subst n0 i0 j0
  refine ⟨fun h0 => br_f (by decide) ((hs _ I' (ym_sh_e.trans e)).1 h0), fun h0 => br_t rfl ⟨gr_L g + 1 + 1, ?_⟩⟩
  have Z := Kl (by omega) (gr_L g + 1) (Nat.le_refl _) (fun k' h1 h2 => by omega) I' e
  rw [pk_m1] at Z
  exact Z
theorem fb_exp' : ∀ b : Fin 2, ∀ m : Fin 64, ∀ t : Fin 6, nI (m.val + 64 * b.val) ||| ((1 : Int32) <<< (nI t.val &&& 31)) = nI ((m.val ||| 2 ^ t.val) + 64 * b.val) := by decide +kernel
theorem fb_exp {b m t : Nat} (hb : b < 2) (hm : m < 64) (ht : t < 6) : nI (m + 64 * b) ||| ((1 : Int32) <<< (nI t &&& 31)) = nI ((m ||| 2 ^ t) + 64 * b) := fb_exp' ⟨b, hb⟩ ⟨m, hm⟩ ⟨t, ht⟩
theorem yq_expected {post : Int32 → SY → Prop} {p0 : Int32} (W : gr_W g) (I : ym_Inv g v) (hs : ∀ v' k m, ym_Inv g v' → ym_sh v' = ym_sh v → k ≤ gr_L g → p0 = nI k → m < 64 → (∀ t, t < 6 → (m.testBit t = true ↔ pf_FO g k t 0 0)) → post (nI (m + if 0 < pu_HH g 0 0 k then 64 else 0)) v') (hn : (∀ k, k ≤ gr_L g → p0 ≠ nI k) → post (-1) v) : wpY_expected post v p0 := by
  have hL := W.2.1
  have Kl : ∀ k, k ≤ gr_L g → p0 = nI k → ∀ b, b < 2 → 64 * b = (if 0 < pu_HH g 0 0 k then 64 else 0) → ∀ d t, t + d = 6 → ∀ m, m < 64 → (∀ t', t' < 6 → (m.testBit t' = true ↔ (t' < t ∧ pf_FO g k t' 0 0))) → ∀ {f_goal f_extra f_measured f_known f_more : Int32} {f_sum : Int64} {a_left a_size a_right a_text a_ops a_constants a_heights : Nat → Int32} {a_many : Nat → Int64} {a_chosen a_firstEnd a_secondEnd : Nat → Int32} {a_values a_nodes : Nat → Int64} {a_far a_productive a_useful a_covers : Nat → Int32}, ym_Inv g (nI (gr_P g), nI (gr_L g), f_goal, f_extra, f_measured, f_known, f_more, f_sum, a_left, a_size, a_right, a_text, a_ops, a_constants, a_heights, a_many, a_chosen, a_firstEnd, a_secondEnd, a_values, a_nodes, a_far, a_productive, a_useful, a_covers) → (a_left, a_right, a_ops, a_constants, a_text) = ym_sh v → wY_expected_34 post (nI k) (d + 1) (nI (m + 64 * b)) (nI t) (nI (gr_P g)) (nI (gr_L g)) f_goal f_extra f_measured f_known f_more f_sum a_left a_size a_right a_text a_ops a_constants a_heights a_many a_chosen a_firstEnd a_secondEnd a_values a_nodes a_far a_productive a_useful a_covers := by
    intro k hk ek b hb eb d
    induction d with
    | zero =>
      intro t ht m hm h f1 f2 f3 f4 f5 f6 a1 a2 a3 a4 a5 a6 a7 a8 a9 a10 a11 a12 a13 a14 a15 a16 a17 I' e
      have e6 : t = 6 := by omega
      subst e6
      have z := hs _ k m I' (ym_sh_e.trans e) hk ek hm (fun t ht => (h t ht).trans ⟨fun q => q.2, fun q => ⟨ht, q⟩⟩)
      rw [← eb] at z
      exact br_t (nI_le (a := 6) (b := 6) (by decide) (by decide)) z
    | succ d ih =>
      intro t ht m hm h f1 f2 f3 f4 f5 f6 a1 a2 a3 a4 a5 a6 a7 a8 a9 a10 a11 a12 a13 a14 a15 a16 a17 I' e
      have t6 : t < 6 := by omega
      refine br_f (nI_ge (b := 6) (by omega) (by decide)) (yq_isBt W I' hk t6 (fun I2 e2 => ⟨fun q => br_f (by decide) (nm_r (fb_exp hb hm t6) (nm_r (nI_1 t) (ih (t + 1) (by omega) _ (fb_or hm (fb_sh t6).2).2 (fun t' ht' => ?_) I2 (e2.trans (ym_sh_e.trans e))))), fun q => br_t rfl (nm_r (nI_1 t) (ih (t + 1) (by omega) m hm (fun t' ht' => (h t' ht').trans ?_) I2 (e2.trans (ym_sh_e.trans e))))⟩))
      · rw [Nat.testBit_or, Bool.or_eq_true, h t' ht', Nat.testBit_two_pow, decide_eq_true_eq]
        constructor
        · intro z
          obtain z | z := z
          · exact ⟨by omega, z.2⟩
          · rw [← z]; exact ⟨by omega, q⟩
        · intro z
          by_cases c : t = t'
          · exact Or.inr c
          · exact Or.inl ⟨by omega, z.2⟩
      · constructor
        · exact fun z => ⟨by omega, z.2⟩
        · intro z
          by_cases c : t' = t
          · rw [c] at z; exact absurd z.2 q
          · exact ⟨by omega, z.2⟩
  obtain ⟨f_productions, f_length, f_goal, f_extra, f_measured, f_known, f_more, f_sum, a_left, a_size, a_right, a_text, a_ops, a_constants, a_heights, a_many, a_chosen, a_firstEnd, a_secondEnd, a_values, a_nodes, a_far, a_productive, a_useful, a_covers⟩ := v
  have I0 := I
  obtain ⟨rfl, rfl, _⟩ := I
  refine br_c (fun q => hn (fun k hk => xb_nlt (lo := 0) (by decide) q (by omega) (by omega))) (fun q => ?_)
  obtain ⟨k, hk, rfl⟩ := nI_of q
  refine pk_le k (gr_L g) (fun l => ?_) (fun l => hn (fun k' hk' z => ?_))
  · have hv : pu_V g 0 0 k := ⟨by decide, Nat.zero_le _, l⟩
    refine yq_derivesK W I0 (fun n i j I' e K hv' e0 e1 e2 => ?_) (fun q => absurd ⟨rfl, rfl, rfl⟩ (q 0 0 k hv))
    have hv2 := hv'.2
    have n0 : n = 0 := by
      have : nI 10 = nI (10 + n) := e0
      rw [nI_eq (by decide) (by have := hv'.1; omega)] at this; omega
    have i0 : i = 0 := by
      have : nI 0 = nI i := e1
      rw [nI_eq (by decide) (by omega)] at this; omega
    have j0 : j = k := by rw [nI_eq (by omega) (by omega)] at e2; omega
    subst n0 i0 j0
    have z0 : ∀ t', t' < 6 → ((0 : Nat).testBit t' = true ↔ (t' < 0 ∧ pf_FO g j t' 0 0)) := fun t' _ => by rw [Nat.zero_testBit]; exact ⟨fun q => absurd q (by decide), fun q => absurd q.1 (by omega)⟩
    refine ⟨fun h0 => br_f (by decide) ⟨6 + 1, ?_⟩, fun h0 => br_t rfl ⟨6 + 1, ?_⟩⟩
    · exact Kl j l rfl 1 (by decide) (by rw [if_pos h0]) 6 0 rfl 0 (by decide) z0 I' e
    · exact Kl j l rfl 0 (by decide) (by rw [if_neg h0]) 6 0 rfl 0 (by decide) z0 I' e
  · rw [nI_eq hk (by omega)] at z; omega
theorem yq_traits {post : Int32 → SY → Prop} {p0 : Int32} (W : gr_W g) (I : ym_Inv g v) (hs : ∀ v' n a b c, ym_Inv g v' → ym_sh v' = ym_sh v → n < 5 → p0 = nI (10 + n) → ((a = 1 ∧ pf_PR g n) ∨ (a = 0 ∧ ¬ pf_PR g n)) → ((b = 2 ∧ 0 < pu_HH g n 0 0) ∨ (b = 0 ∧ ¬ 0 < pu_HH g n 0 0)) → ((c = 4 ∧ pf_US g n) ∨ (c = 0 ∧ ¬ pf_US g n)) → post (nI (a + b + c)) v') (hn : (∀ n, n < 5 → p0 ≠ nI (10 + n)) → post (-1) v) : wpY_traits post v p0 := by
  obtain ⟨f_productions, f_length, f_goal, f_extra, f_measured, f_known, f_more, f_sum, a_left, a_size, a_right, a_text, a_ops, a_constants, a_heights, a_many, a_chosen, a_firstEnd, a_secondEnd, a_values, a_nodes, a_far, a_productive, a_useful, a_covers⟩ := v
  have I0 := I
  obtain ⟨rfl, rfl, tx, mR, mF, mZ, mO, hk⟩ := I
  unfold wpY_traits
  refine ys_nt (fun n hn5 e0 => br_f (by decide) ?_) (fun q => br_t rfl (hn q))
  subst e0
  refine ys_findProd (g := g) W mR mF mZ (fun pr Pr => ys_traits (g := g) W hn5 mR mF mZ Pr (fun us a c ha hc => nm_r (nI_add a c) ?_))
  have hv : pu_V g n 0 0 := ⟨hn5, Nat.le_refl _, Nat.zero_le _⟩
  refine yq_derivesK (g := g) W ⟨rfl, rfl, tx, mR, mF, mZ, mO, hk⟩ (fun n' i j I' e K hv' e0 e1 e2 => ?_) (fun q => absurd ⟨rfl, rfl, rfl⟩ (q n 0 0 hv))
  have hv2 := hv'.2
  have hL := W.2.1
  have n0 : n' = n := by rw [nI_eq (by omega) (by have := hv'.1; omega)] at e0; omega
  have i0 : i = 0 := by
    have : nI 0 = nI i := e1
    rw [nI_eq (by decide) (by omega)] at this; omega
  have j0 : j = 0 := by
    have : nI 0 = nI j := e2
    rw [nI_eq (by decide) (by omega)] at this; omega
  subst n0 i0 j0
  refine ⟨fun h0 => br_f (by decide) ?_, fun h0 => br_t rfl ?_⟩
  · have z := hs _ n' a 2 c I' (ym_sh_e.trans (e.trans (ym_sh_e.trans ym_sh_e.symm))) hn5 rfl ha (Or.inl ⟨rfl, h0⟩) hc
    rw [show (2 : Int32) = nI 2 from rfl, nI_add, show a + c + 2 = a + 2 + c by omega]
    exact z
  · exact hs _ n' a 0 c I' (ym_sh_e.trans (e.trans (ym_sh_e.trans ym_sh_e.symm))) hn5 rfl ha (Or.inr ⟨rfl, h0⟩) hc
end
end
section
/-! the reference: edits -/
def ed_k (a b c : Nat) : Nat := if a = 99 then 0 else if b = 99 then 1 else if c = 99 then 2 else 3
section
variable {g : gr_G} {f_goal f_extra f_measured f_known f_more : Int32} {f_sum : Int64} {a_left a_size a_right a_text a_ops a_constants a_heights : Nat → Int32} {a_many : Nat → Int64} {a_chosen a_firstEnd a_secondEnd : Nat → Int32} {a_values a_nodes : Nat → Int64} {a_far a_productive a_useful a_covers : Nat → Int32}
theorem ys_produce {post : Int32 → SY → Prop} {p0 p1 p2 p3 : Int32} (W : gr_W g) (bad : (∀ n a b c, ¬ (n < 5 ∧ p0 = nI (10 + n) ∧ xm_rs a b c p1 p2 p3)) → post (-1) (nI (gr_P g), nI (gr_L g), f_goal, f_extra, f_measured, f_known, f_more, f_sum, a_left, a_size, a_right, a_text, a_ops, a_constants, a_heights, a_many, a_chosen, a_firstEnd, a_secondEnd, a_values, a_nodes, a_far, a_productive, a_useful, a_covers)) (full : (∃ n a b c, n < 5 ∧ p0 = nI (10 + n) ∧ xm_rs a b c p1 p2 p3) → gr_P g = 12 → post (-2) (nI (gr_P g), nI (gr_L g), f_goal, f_extra, f_measured, f_known, f_more, f_sum, a_left, a_size, a_right, a_text, a_ops, a_constants, a_heights, a_many, a_chosen, a_firstEnd, a_secondEnd, a_values, a_nodes, a_far, a_productive, a_useful, a_covers))
    (good : ∀ n a b c, n < 5 → p0 = nI (10 + n) → xm_rs a b c p1 p2 p3 → gr_P g < 12 → post (nI (gr_P g)) (nI (gr_P g + 1), nI (gr_L g), f_goal, f_extra, f_measured, 0, f_more, f_sum, upd a_left (gr_P g) p0, upd a_size (gr_P g) (nI (ed_k a b c)), upd (upd (upd a_right (3 * gr_P g) p1) (3 * gr_P g + 1) p2) (3 * gr_P g + 2) p3, a_text, upd a_ops (gr_P g) 1, upd a_constants (gr_P g) 0, a_heights, a_many, a_chosen, a_firstEnd, a_secondEnd, a_values, a_nodes, a_far, a_productive, a_useful, a_covers)) : wpY_produce post (nI (gr_P g), nI (gr_L g), f_goal, f_extra, f_measured, f_known, f_more, f_sum, a_left, a_size, a_right, a_text, a_ops, a_constants, a_heights, a_many, a_chosen, a_firstEnd, a_secondEnd, a_values, a_nodes, a_far, a_productive, a_useful, a_covers) p0 p1 p2 p3 := by
  have hP := W.1
  unfold wpY_produce
  refine ys_nt (fun n hn en => br_f (by decide) ?_) (fun h => br_t rfl (bad (fun n a b c q => h n q.1 q.2.1)))
  refine ys_wrong (fun a oa ea => br_t rfl ?_) (fun h => br_f (by decide) (bad (fun n a b c q => h a q.2.2.1 q.2.2.2.2.2.1)))
  refine ys_wrong (fun b ob eb => br_t rfl ?_) (fun h => br_f (by decide) (bad (fun n a b c q => h b q.2.2.2.1 q.2.2.2.2.2.2.1)))
  refine ys_wrong (fun c oc ec => br_t rfl ?_) (fun h => br_f (by decide) (bad (fun n a b c q => h c q.2.2.2.2.1 q.2.2.2.2.2.2.2.1)))
  subst ea eb ec
  have f : ∀ s s', pu_ok s → pu_ok s' → sy_m s = sy_m s' → (s = 99 ↔ s' = 99) := fun s s' o o' e => by rw [← sy_e1 o, ← sy_e1 o', e]
  have gapless : (a = 99 → b = 99) → (b = 99 → c = 99) → wY_produce_58 post p0 (sy_m a) (sy_m b) (sy_m c) (nI (gr_P g)) (nI (gr_L g)) f_goal f_extra f_measured f_known f_more f_sum a_left a_size a_right a_text a_ops a_constants a_heights a_many a_chosen a_firstEnd a_secondEnd a_values a_nodes a_far a_productive a_useful a_covers := by
    intro g1 g2
    have rs : xm_rs a b c (sy_m a) (sy_m b) (sy_m c) := ⟨oa, ob, oc, rfl, rfl, rfl, g1, g2⟩
    refine pk_eq (gr_P g) 12 (fun e => full ⟨n, a, b, c, hn, en, rs⟩ e) (fun e => ?_)
    have l : gr_P g < 12 := by omega
    have G := good n a b c hn en rs l
    have T158 : ∀ z : Nat, z = ed_k a b c → wY_produce_158 post (nI z) (nI (gr_P g)) (nI (gr_P g)) (nI (gr_L g)) f_goal f_extra f_measured f_known f_more f_sum (upd a_left (gr_P g) p0) a_size (upd (upd (upd a_right (3 * gr_P g) (sy_m a)) (3 * gr_P g + 1) (sy_m b)) (3 * gr_P g + 2) (sy_m c)) a_text a_ops a_constants a_heights a_many a_chosen a_firstEnd a_secondEnd a_values a_nodes a_far a_productive a_useful a_covers := by
      intro z ez
      subst ez
      refine ⟨vp_in_nI l (by decide), nm_r (e' := upd a_size (gr_P g) (nI (ed_k a b c))) (by rw [nI_clamp (by omega)]) ⟨vp_in_nI l (by decide), nm_r (e' := upd a_ops (gr_P g) 1) (by rw [nI_clamp (by omega)]) ⟨vp_in_nI l (by decide), nm_r (e' := upd a_constants (gr_P g) 0) (by rw [nI_clamp (by omega)]) (nm_r (nI_1 _) ?_)⟩⟩⟩
      rw [nI_pred]; exact G
    refine ⟨vp_in_nI l (by decide), nm_r (e' := upd a_left (gr_P g) p0) (by rw [nI_clamp (by omega)]) ⟨xb_i0 l, nm_r (by rw [xb_r0 l]) ⟨xb_i1 l, nm_r (by rw [xb_r1 l]) ⟨xb_i2 l, nm_r (by rw [xb_r2 l]) ?_⟩⟩⟩⟩
    refine ek_if (sy_e1 oa) (fun z => T158 0 (by unfold ed_k; rw [if_pos z])) (fun z => ek_if (sy_e1 ob) (fun z2 => T158 1 (by unfold ed_k; rw [if_neg z, if_pos z2])) (fun z2 => ek_if (sy_e1 oc) (fun z3 => T158 2 (by unfold ed_k; rw [if_neg z, if_neg z2, if_pos z3])) (fun z3 => T158 3 (by unfold ed_k; rw [if_neg z, if_neg z2, if_neg z3]))))
  have nogap : ¬ ((a = 99 → b = 99) ∧ (b = 99 → c = 99)) → post (-1) (nI (gr_P g), nI (gr_L g), f_goal, f_extra, f_measured, f_known, f_more, f_sum, a_left, a_size, a_right, a_text, a_ops, a_constants, a_heights, a_many, a_chosen, a_firstEnd, a_secondEnd, a_values, a_nodes, a_far, a_productive, a_useful, a_covers) := by
    intro h
    refine bad (fun n' a' b' c' q => h ?_)
    obtain ⟨_, _, oa', ob', oc', ea, eb, ec, g1, g2⟩ := q
    have ha := f a a' oa oa' ea
    have hb := f b b' ob ob' eb
    have hc := f c c' oc oc' ec
    exact ⟨fun z => hb.mpr (g1 (ha.mp z)), fun z => hc.mpr (g2 (hb.mp z))⟩
  have T45 : (a = 99 → b = 99) → wY_produce_45 post p0 (sy_m a) (sy_m b) (sy_m c) (nI (gr_P g)) (nI (gr_L g)) f_goal f_extra f_measured f_known f_more f_sum a_left a_size a_right a_text a_ops a_constants a_heights a_many a_chosen a_firstEnd a_secondEnd a_values a_nodes a_far a_productive a_useful a_covers := fun g1 =>
    ek_if (sy_e1 ob) (fun z => ek_if (sy_e1 oc) (fun z2 => gapless g1 (fun _ => z2)) (fun z2 => nogap (fun q => z2 (q.2 z)))) (fun z => gapless g1 (fun q => absurd q z))
  exact ek_if (sy_e1 oa) (fun z => ek_if (sy_e1 ob) (fun z2 => T45 (fun _ => z2)) (fun z2 => nogap (fun q => z2 (q.1 z)))) (fun z => T45 (fun q => absurd q z))
theorem ys_retract {post : Int32 → SY → Prop} (W : gr_W g) (none : gr_P g = 0 → post 0 (nI (gr_P g), nI (gr_L g), f_goal, f_extra, f_measured, f_known, f_more, f_sum, a_left, a_size, a_right, a_text, a_ops, a_constants, a_heights, a_many, a_chosen, a_firstEnd, a_secondEnd, a_values, a_nodes, a_far, a_productive, a_useful, a_covers)) (good : ∀ p, gr_P g = p + 1 → post 1 (nI p, nI (gr_L g), f_goal, f_extra, f_measured, 0, f_more, f_sum, a_left, a_size, a_right, a_text, a_ops, a_constants, a_heights, a_many, a_chosen, a_firstEnd, a_secondEnd, a_values, a_nodes, a_far, a_productive, a_useful, a_covers)) : wpY_retract post (nI (gr_P g), nI (gr_L g), f_goal, f_extra, f_measured, f_known, f_more, f_sum, a_left, a_size, a_right, a_text, a_ops, a_constants, a_heights, a_many, a_chosen, a_firstEnd, a_secondEnd, a_values, a_nodes, a_far, a_productive, a_useful, a_covers) := by
  have hP := W.1
  refine pk_eq (gr_P g) 0 none (fun h => ?_)
  obtain ⟨p, ep⟩ : ∃ p, gr_P g = p + 1 := ⟨gr_P g - 1, by omega⟩
  refine nm_r (e' := nI p) (by rw [ep]; exact nI_pred p) (good p ep)
theorem ys_action {post : Int32 → SY → Prop} {p0 p1 p2 : Int32} (W : gr_W g) (bad : (∀ p o, ¬ (p < gr_P g ∧ o < 8 ∧ p0 = nI p ∧ p1 = nI o)) → post 0 (nI (gr_P g), nI (gr_L g), f_goal, f_extra, f_measured, f_known, f_more, f_sum, a_left, a_size, a_right, a_text, a_ops, a_constants, a_heights, a_many, a_chosen, a_firstEnd, a_secondEnd, a_values, a_nodes, a_far, a_productive, a_useful, a_covers)) (good : ∀ p o, p < gr_P g → o < 8 → p0 = nI p → p1 = nI o → post 1 (nI (gr_P g), nI (gr_L g), f_goal, f_extra, f_measured, 0, f_more, f_sum, a_left, a_size, a_right, a_text, upd a_ops p (nI o), upd a_constants p p2, a_heights, a_many, a_chosen, a_firstEnd, a_secondEnd, a_values, a_nodes, a_far, a_productive, a_useful, a_covers)) : wpY_action post (nI (gr_P g), nI (gr_L g), f_goal, f_extra, f_measured, f_known, f_more, f_sum, a_left, a_size, a_right, a_text, a_ops, a_constants, a_heights, a_many, a_chosen, a_firstEnd, a_secondEnd, a_values, a_nodes, a_far, a_productive, a_useful, a_covers) p0 p1 p2 := by
  have hP := W.1
  refine br_c (fun h => bad (fun p o q => xb_nlt (lo := 0) (k := p) (by decide) h (by omega) (by omega) q.2.2.1)) (fun h => br_c (fun h2 => bad (fun p o q => xb_nle (by omega) h2 q.1 q.2.2.1)) (fun h2 => br_c (fun h3 => bad (fun p o q => xb_nlt (lo := 0) (k := o) (by decide) h3 (by omega) (by omega) q.2.2.2)) (fun h3 => br_c (fun h4 => ?_) (fun h4 => bad (fun p o q => ?_)))))
  · obtain ⟨p, hp, rfl⟩ := nI_of h
    obtain ⟨o, ho, rfl⟩ := nI_of h3
    rw [nI_leI (by omega) hp] at h2
    rw [show (7 : Int32) = nI 7 from rfl, nI_leI ho (by decide)] at h4
    refine ⟨vp_in_nI (by omega) (by decide), nm_r (e' := upd a_ops p (nI o)) (by rw [nI_clamp hp]) ⟨vp_in_nI (by omega) (by decide), nm_r (e' := upd a_constants p p2) (by rw [nI_clamp hp]) (good p o (by omega) (by omega) rfl rfl)⟩⟩
  · apply h4
    rw [q.2.2.2, show (7 : Int32) = nI 7 from rfl]
    exact nI_le (by have := q.2.1; omega) (by decide)
theorem ys_set {post : Int32 → SY → Prop} {p0 p1 : Int32} (W : gr_W g) (bad : (∀ i t, ¬ (i < gr_L g ∧ t < 6 ∧ p0 = nI i ∧ p1 = nI t)) → post 0 (nI (gr_P g), nI (gr_L g), f_goal, f_extra, f_measured, f_known, f_more, f_sum, a_left, a_size, a_right, a_text, a_ops, a_constants, a_heights, a_many, a_chosen, a_firstEnd, a_secondEnd, a_values, a_nodes, a_far, a_productive, a_useful, a_covers)) (good : ∀ i t, i < gr_L g → t < 6 → p0 = nI i → p1 = nI t → post 1 (nI (gr_P g), nI (gr_L g), f_goal, f_extra, f_measured, 0, f_more, f_sum, a_left, a_size, a_right, upd a_text i (nI t), a_ops, a_constants, a_heights, a_many, a_chosen, a_firstEnd, a_secondEnd, a_values, a_nodes, a_far, a_productive, a_useful, a_covers)) : wpY_set post (nI (gr_P g), nI (gr_L g), f_goal, f_extra, f_measured, f_known, f_more, f_sum, a_left, a_size, a_right, a_text, a_ops, a_constants, a_heights, a_many, a_chosen, a_firstEnd, a_secondEnd, a_values, a_nodes, a_far, a_productive, a_useful, a_covers) p0 p1 := by
  have hL := W.2.1
  refine br_c (fun h => bad (fun i t q => xb_nlt (lo := 0) (k := i) (by decide) h (by omega) (by omega) q.2.2.1)) (fun h => br_c (fun h2 => bad (fun i t q => xb_nle (by omega) h2 q.1 q.2.2.1)) (fun h2 => ?_))
  refine ys_tm (fun t ht et => br_f (by decide) ?_) (fun q => br_t rfl (bad (fun i t z => q t z.2.1 z.2.2.2)))
  obtain ⟨i, hi, rfl⟩ := nI_of h
  rw [nI_leI (by omega) hi] at h2
  exact ⟨vp_in_nI (by omega) (by decide), nm_r (e' := upd a_text i (nI t)) (by rw [et, nI_clamp (by omega)]) (good i t (by omega) ht rfl et)⟩
theorem ys_insert {post : Int32 → SY → Prop} {p0 p1 : Int32} (W : gr_W g) (bad : (∀ i t, ¬ (i ≤ gr_L g ∧ t < 6 ∧ gr_L g < 10 ∧ p0 = nI i ∧ p1 = nI t)) → post 0 (nI (gr_P g), nI (gr_L g), f_goal, f_extra, f_measured, f_known, f_more, f_sum, a_left, a_size, a_right, a_text, a_ops, a_constants, a_heights, a_many, a_chosen, a_firstEnd, a_secondEnd, a_values, a_nodes, a_far, a_productive, a_useful, a_covers)) (good : ∀ i t, i ≤ gr_L g → t < 6 → gr_L g < 10 → p0 = nI i → p1 = nI t → post 1 (nI (gr_P g), nI (gr_L g + 1), f_goal, f_extra, f_measured, 0, f_more, f_sum, a_left, a_size, a_right, ed_ins a_text (gr_L g) i (nI t), a_ops, a_constants, a_heights, a_many, a_chosen, a_firstEnd, a_secondEnd, a_values, a_nodes, a_far, a_productive, a_useful, a_covers)) : wpY_insert post (nI (gr_P g), nI (gr_L g), f_goal, f_extra, f_measured, f_known, f_more, f_sum, a_left, a_size, a_right, a_text, a_ops, a_constants, a_heights, a_many, a_chosen, a_firstEnd, a_secondEnd, a_values, a_nodes, a_far, a_productive, a_useful, a_covers) p0 p1 := by
  have hL := W.2.1
  refine br_c (fun h => bad (fun i t q => xb_nlt (lo := 0) (k := i) (by decide) h (by omega) (by omega) q.2.2.2.1)) (fun h => br_c (fun h2 => bad (fun i t q => xb_ngt (by omega) h2 q.1 q.2.2.2.1)) (fun h2 => ?_))
  refine ys_tm (fun t ht et => br_f (by decide) ?_) (fun q => br_t rfl (bad (fun i t z => q t z.2.1 z.2.2.2.2)))
  refine pk_eq (gr_L g) 10 (fun l => bad (fun i t q => by omega)) (fun l => ?_)
  obtain ⟨i, hi, rfl⟩ := nI_of h
  rw [nI_ltI (by omega) hi] at h2
  subst et
  have G := good i t (by omega) ht (by omega) rfl rfl
  have K : ∀ d k, k = i + d → k ≤ gr_L g → ∀ (a : Nat → Int32), (∀ x, a x = if k < x ∧ x ≤ gr_L g then a_text (x - 1) else a_text x) → wY_insert_36 post (nI i) (nI t) (nI (gr_P g)) (nI (gr_L g)) f_goal f_extra f_measured f_known f_more f_sum (d + 1) (nI k) a_left a_size a_right a a_ops a_constants a_heights a_many a_chosen a_firstEnd a_secondEnd a_values a_nodes a_far a_productive a_useful a_covers := by
    intro d
    induction d with
    | zero =>
      intro k hk hkL a ha
      refine br_t (nI_le (by omega) (by omega)) ⟨vp_in_nI (by omega) (by decide), nm_r (e' := ed_ins a_text (gr_L g) i (nI t)) ?_ (nm_r (nI_1 _) G)⟩
      rw [nI_clamp (by omega)]
      funext x
      unfold upd ed_ins
      rw [ha x]
      by_cases c : x = i
      · rw [if_pos c, if_pos c]
      · rw [if_neg c, if_neg c, show k = i by omega]
    | succ d ih =>
      intro k hk hkL a ha
      obtain ⟨q, rfl⟩ : ∃ q, k = q + 1 := ⟨k - 1, by omega⟩
      refine br_f (nI_ge (by omega) (by omega)) ⟨by rw [nI_pred]; exact vp_in_nI (by omega) (by decide), vp_in_nI (by omega) (by decide), nm_r (e' := upd a (q + 1) (a q)) (by rw [nI_pred, nI_clamp (by omega), nI_clamp (by omega)]) (nm_r (pk_m1 q) (ih q (by omega) (by omega) _ (fun x => ?_)))⟩
      unfold upd
      by_cases c : x = q + 1
      · rw [if_pos c, ha q, if_neg (by omega), if_pos (by omega), c]; rfl
      · rw [if_neg c, ha x]
        by_cases c2 : q + 1 < x ∧ x ≤ gr_L g
        · rw [if_pos c2, if_pos (by omega)]
        · rw [if_neg c2, if_neg (by omega)]
  refine ⟨gr_L g - i + 1, K (gr_L g - i) (gr_L g) (by omega) (by omega) _ (fun x => ?_)⟩
  rw [if_neg (by omega)]
theorem ys_erase {post : Int32 → SY → Prop} {p0 : Int32} (W : gr_W g) (bad : (∀ i, ¬ (i < gr_L g ∧ p0 = nI i)) → post 0 (nI (gr_P g), nI (gr_L g), f_goal, f_extra, f_measured, f_known, f_more, f_sum, a_left, a_size, a_right, a_text, a_ops, a_constants, a_heights, a_many, a_chosen, a_firstEnd, a_secondEnd, a_values, a_nodes, a_far, a_productive, a_useful, a_covers)) (good : ∀ i l, i < gr_L g → gr_L g = l + 1 → p0 = nI i → post 1 (nI (gr_P g), nI l, f_goal, f_extra, f_measured, 0, f_more, f_sum, a_left, a_size, a_right, ed_era a_text (gr_L g) i, a_ops, a_constants, a_heights, a_many, a_chosen, a_firstEnd, a_secondEnd, a_values, a_nodes, a_far, a_productive, a_useful, a_covers)) : wpY_erase post (nI (gr_P g), nI (gr_L g), f_goal, f_extra, f_measured, f_known, f_more, f_sum, a_left, a_size, a_right, a_text, a_ops, a_constants, a_heights, a_many, a_chosen, a_firstEnd, a_secondEnd, a_values, a_nodes, a_far, a_productive, a_useful, a_covers) p0 := by
  have hL := W.2.1
  refine br_c (fun h => bad (fun i q => xb_nlt (lo := 0) (k := i) (by decide) h (by omega) (by omega) q.2)) (fun h => br_c (fun h2 => ?_) (fun h2 => bad (fun i q => h2 (by rw [q.2]; exact nI_lt q.1 (by omega)))))
  obtain ⟨i, hi, rfl⟩ := nI_of h
  rw [nI_ltI hi (by omega)] at h2
  obtain ⟨l, el⟩ : ∃ l, gr_L g = l + 1 := ⟨gr_L g - 1, by omega⟩
  have G := good i l h2 el rfl
  have K : ∀ d k, k + d = l → i ≤ k → ∀ (a : Nat → Int32), (∀ x, a x = if i ≤ x ∧ x < k then a_text (x + 1) else a_text x) → wY_erase_26 post (nI (gr_P g)) (nI l) f_goal f_extra f_measured f_known f_more f_sum (d + 1) (nI k) a_left a_size a_right a a_ops a_constants a_heights a_many a_chosen a_firstEnd a_secondEnd a_values a_nodes a_far a_productive a_useful a_covers := by
    intro d
    induction d with
    | zero =>
      intro k hk hik a ha
      refine br_t (nI_le (by omega) (by omega)) ?_
      have e : a = ed_era a_text (gr_L g) i := by
        funext x
        unfold ed_era
        rw [ha x]
        by_cases c : i ≤ x ∧ x < k
        · rw [if_pos c, if_pos (by omega)]
        · rw [if_neg c, if_neg (by omega)]
      rw [e]; exact G
    | succ d ih =>
      intro k hk hik a ha
      refine br_f (nI_ge (by omega) (by omega)) ⟨by rw [nI_1]; exact vp_in_nI (by omega) (by decide), vp_in_nI (by omega) (by decide), nm_r (e' := upd a k (a (k + 1))) (by rw [nI_1, nI_clamp (by omega), nI_clamp (by omega)]) (nm_r (nI_1 k) (ih (k + 1) (by omega) (by omega) _ (fun x => ?_)))⟩
      unfold upd
      by_cases c : x = k
      · rw [if_pos c, ha (k + 1), if_neg (by omega), if_pos (by omega), c]
      · rw [if_neg c, ha x]
        by_cases c2 : i ≤ x ∧ x < k
        · rw [if_pos c2, if_pos (by omega)]
        · rw [if_neg c2, if_neg (by omega)]
  refine nm_r (e' := nI l) (by rw [el]; exact nI_pred l) ⟨l - i + 1, K (l - i) i (by omega) (by omega) _ (fun x => ?_)⟩
  rw [if_neg (by omega)]
end
/-! the grammar and the text after an edit -/
def eg_p (g : gr_G) (n a b c : Nat) : gr_G := (gr_P g + 1, gr_L g, fun p => if p = gr_P g then n else gr_F g p, fun k => if k = 3 * gr_P g then a else if k = 3 * gr_P g + 1 then b else if k = 3 * gr_P g + 2 then c else gr_R g k, gr_T g)
def eg_r (g : gr_G) (p : Nat) : gr_G := (p, gr_L g, gr_F g, gr_R g, gr_T g)
def eg_t (g : gr_G) (l : Nat) (T : Nat → Nat) : gr_G := (gr_P g, l, gr_F g, gr_R g, T)
section
variable {g : gr_G}
theorem eg_p_R {n a b c k : Nat} (h : k < 3 * gr_P g) : gr_R (eg_p g n a b c) k = gr_R g k := by
  show (if k = 3 * gr_P g then a else if k = 3 * gr_P g + 1 then b else if k = 3 * gr_P g + 2 then c else gr_R g k) = _
  rw [if_neg (by omega), if_neg (by omega), if_neg (by omega)]
theorem eg_p_R0 {n a b c : Nat} : gr_R (eg_p g n a b c) (3 * gr_P g) = a := if_pos rfl
theorem eg_p_R1 {n a b c : Nat} : gr_R (eg_p g n a b c) (3 * gr_P g + 1) = b := by
  show (if 3 * gr_P g + 1 = 3 * gr_P g then a else if 3 * gr_P g + 1 = 3 * gr_P g + 1 then b else _) = _
  rw [if_neg (by omega), if_pos rfl]
theorem eg_p_R2 {n a b c : Nat} : gr_R (eg_p g n a b c) (3 * gr_P g + 2) = c := by
  show (if 3 * gr_P g + 2 = 3 * gr_P g then a else if 3 * gr_P g + 2 = 3 * gr_P g + 1 then b else if 3 * gr_P g + 2 = 3 * gr_P g + 2 then c else _) = _
  rw [if_neg (by omega), if_neg (by omega), if_pos rfl]
theorem eg_p_W {n a b c : Nat} {p1 p2 p3 : Int32} (W : gr_W g) (hn : n < 5) (rs : xm_rs a b c p1 p2 p3) (l : gr_P g < 12) : gr_W (eg_p g n a b c) := by
  obtain ⟨W1, W2, W3, W4, W5, W6⟩ := W
  refine ⟨(by omega : gr_P g + 1 ≤ 12), W2, fun p hp => ?_, fun k hk => ?_, fun p hp => ?_, W6⟩
  · show (if p = gr_P g then n else gr_F g p) < 5
    by_cases z : p = gr_P g
    · rw [if_pos z]; exact hn
    · have hp' : p < gr_P g + 1 := hp
      rw [if_neg z]; exact W3 p (by omega)
  · have hk' : k < 3 * (gr_P g + 1) := hk
    by_cases z : k < 3 * gr_P g
    · rw [eg_p_R z]; exact W4 k z
    · have : k = 3 * gr_P g ∨ k = 3 * gr_P g + 1 ∨ k = 3 * gr_P g + 2 := by omega
      obtain rfl | rfl | rfl := this
      · rw [eg_p_R0]; exact rs.1
      · rw [eg_p_R1]; exact rs.2.1
      · rw [eg_p_R2]; exact rs.2.2.1
  · have hp' : p < gr_P g + 1 := hp
    by_cases z : p = gr_P g
    · subst z
      rw [eg_p_R0, eg_p_R1, eg_p_R2]; exact rs.2.2.2.2.2.2
    · rw [eg_p_R (by omega), eg_p_R (by omega), eg_p_R (by omega)]; exact W5 p (by omega)
theorem eg_p_xR {n a b c : Nat} {p1 p2 p3 : Int32} {r : Nat → Int32} (rs : xm_rs a b c p1 p2 p3) (h : xm_R g r) : xm_R (eg_p g n a b c) (upd (upd (upd r (3 * gr_P g) p1) (3 * gr_P g + 1) p2) (3 * gr_P g + 2) p3) := by
  intro k hk
  have hk' : k < 3 * (gr_P g + 1) := hk
  by_cases z : k < 3 * gr_P g
  · rw [eg_p_R z, pk_un (by omega), pk_un (by omega), pk_un (by omega)]; exact h k z
  · have : k = 3 * gr_P g ∨ k = 3 * gr_P g + 1 ∨ k = 3 * gr_P g + 2 := by omega
    obtain rfl | rfl | rfl := this
    · rw [eg_p_R0, pk_un (by omega), pk_un (by omega), pk_us]; exact rs.2.2.2.1
    · rw [eg_p_R1, pk_un (by omega), pk_us]; exact rs.2.2.2.2.1
    · rw [eg_p_R2, pk_us]; exact rs.2.2.2.2.2.1
theorem eg_p_xF {n a b c : Nat} {p0 : Int32} {f : Nat → Int32} (e : p0 = nI (10 + n)) (h : xm_F g f) : xm_F (eg_p g n a b c) (upd f (gr_P g) p0) := by
  intro p hp
  have hp' : p < gr_P g + 1 := hp
  show _ = nI (10 + if p = gr_P g then n else gr_F g p)
  by_cases z : p = gr_P g
  · rw [if_pos z, z, pk_us]; exact e
  · rw [if_neg z, pk_un z]; exact h p (by omega)
theorem eg_p_O {n a b c : Nat} {o : Nat → Int32} (h : ∀ p, p < gr_P g → ∃ q, q < 8 ∧ o p = nI q) : ∀ p, p < gr_P (eg_p g n a b c) → ∃ q, q < 8 ∧ upd o (gr_P g) 1 p = nI q := by
  intro p hp
  have hp' : p < gr_P g + 1 := hp
  by_cases z : p = gr_P g
  · rw [z, pk_us]; exact ⟨1, by decide, rfl⟩
  · rw [pk_un z]; exact h p (by omega)
theorem eg_p_Z {n a b c : Nat} {s : Nat → Int32} (h : ym_Z g s) : ym_Z (eg_p g n a b c) (upd s (gr_P g) (nI (ed_k a b c))) := by
  intro p hp
  have hp' : p < gr_P g + 1 := hp
  by_cases z : p = gr_P g
  · subst z
    rw [pk_us]
    unfold pu_k ed_k
    rw [eg_p_R0, eg_p_R1, eg_p_R2]
  · rw [pk_un z, h p (by omega)]
    unfold pu_k
    rw [eg_p_R (by omega), eg_p_R (by omega), eg_p_R (by omega)]
theorem eg_r_W {p : Nat} (W : gr_W g) (e : gr_P g = p + 1) : gr_W (eg_r g p) := by
  obtain ⟨W1, W2, W3, W4, W5, W6⟩ := W
  exact ⟨(by omega : p ≤ 12), W2, fun q hq => W3 q (by have : q < p := hq; omega), fun k hk => W4 k (by have : k < 3 * p := hk; omega), fun q hq => W5 q (by have : q < p := hq; omega), W6⟩
theorem eg_t_W {l : Nat} {T : Nat → Nat} (W : gr_W g) (hl : l ≤ 10) (hT : ∀ i, i < l → T i < 6) : gr_W (eg_t g l T) := by
  obtain ⟨W1, W2, W3, W4, W5, W6⟩ := W
  exact ⟨W1, hl, W3, W4, W5, hT⟩
end
end
section
/-! the two together -/
def i_Rel (k : Nat) (u : SX) (v : SY) : Prop := ∃ g, gr_W g ∧ xm_Inv g u ∧ ym_Inv g v ∧ xm_sh u = ym_sh v
theorem rl_3 {g : gr_G} {n i j n' i' j' : Nat} {p0 p1 p2 : Int32} (W : gr_W g) (a : pu_V g n i j) (b : pu_V g n' i' j') (e0 : p0 = nI (10 + n)) (e1 : p1 = nI i) (e2 : p2 = nI j) (f0 : p0 = nI (10 + n')) (f1 : p1 = nI i') (f2 : p2 = nI j') : n' = n ∧ i' = i ∧ j' = j := by
  have hL := W.2.1
  obtain ⟨a1, a2, a3⟩ := a
  obtain ⟨b1, b2, b3⟩ := b
  have g0 := e0.symm.trans f0
  have g1 := e1.symm.trans f1
  have g2 := e2.symm.trans f2
  rw [nI_eq (by omega) (by omega)] at g0 g1 g2
  omega
theorem rl_sh {u : SX} {v : SY} {a b c d e a' b' c' d' e' : Nat → Int32} (h : xm_sh u = ym_sh v) (h1 : xm_sh u = (a, b, c, d, e)) (h2 : ym_sh v = (a', b', c', d', e')) : a = a' ∧ b = b' ∧ c = c' ∧ d = d' ∧ e = e' := by
  have q := h1.symm.trans (h.trans h2)
  injection q with q1 q
  injection q with q2 q
  injection q with q3 q
  injection q with q4 q5
  exact ⟨q1, q2, q3, q4, q5⟩
theorem i_up {k : Nat} {u : SX} {v : SY} (h : i_Rel k u v) : i_Rel (k + 5) u v := h
theorem i_vc0 : wpX_init (fun u => wpY_init (fun v => i_Rel 0 u v)) :=
  ⟨(0, 0, fun _ => 0, fun _ => 0, fun _ => 0), ⟨by decide, by decide, fun p hp => absurd hp (Nat.not_lt_zero _), fun p hp => absurd hp (Nat.not_lt_zero _), fun p hp => absurd hp (Nat.not_lt_zero _), fun p hp => absurd hp (Nat.not_lt_zero _)⟩, ⟨rfl, rfl, fun p hp => absurd hp (Nat.not_lt_zero _), fun p hp => absurd hp (Nat.not_lt_zero _), fun p hp => absurd hp (Nat.not_lt_zero _), fun p hp => absurd hp (Nat.not_lt_zero _), fun z => absurd rfl z, fun z => absurd rfl z, fun z => absurd rfl z, fun z => absurd rfl z⟩, ⟨rfl, rfl, fun p hp => absurd hp (Nat.not_lt_zero _), fun p hp => absurd hp (Nat.not_lt_zero _), fun p hp => absurd hp (Nat.not_lt_zero _), fun p hp => absurd hp (Nat.not_lt_zero _), fun p hp => absurd hp (Nat.not_lt_zero _), fun z => absurd rfl z⟩, rfl⟩
theorem i_vc_derives {k : Nat} {u : SX} {v : SY} (I : i_Rel k u v) (hk : k + 5 ≤ 2560) (v1 : Int32) (v2 : Int32) (v3 : Int32) : wpX_derives (fun r u' => wpY_derives (fun r' v' => r' = r ∧ i_Rel (k + 5) u' v') v v1 v2 v3) u v1 v2 v3 := by
  obtain ⟨g, W, IX, IY, sh⟩ := I
  refine xq_derives W IX (fun u' n i j I' e S hv e0 e1 e2 => yq_derives W IY (fun v' n' i' j' J' f hv' f0 f1 f2 => ⟨?_, g, W, I', J', e.trans (sh.trans f.symm)⟩) (fun q => absurd ⟨e0, e1, e2⟩ (q n i j hv))) (fun u' I' e q => yq_derives W IY (fun v' n i j J' f hv f0 f1 f2 => absurd ⟨f0, f1, f2⟩ (q n i j hv)) (fun q' => ⟨rfl, g, W, I', IY, e.trans sh⟩))
  obtain ⟨rfl, rfl, rfl⟩ := rl_3 W hv hv' e0 e1 e2 f0 f1 f2
  rfl
theorem i_vc_height {k : Nat} {u : SX} {v : SY} (I : i_Rel k u v) (hk : k + 5 ≤ 2560) (v1 : Int32) (v2 : Int32) (v3 : Int32) : wpX_height (fun r u' => wpY_height (fun r' v' => r' = r ∧ i_Rel (k + 5) u' v') v v1 v2 v3) u v1 v2 v3 := by
  obtain ⟨g, W, IX, IY, sh⟩ := I
  refine xq_height W IX (fun u' n i j I' e S hv e0 e1 e2 => yq_height W IY (fun v' n' i' j' J' f hv' f0 f1 f2 => ⟨?_, g, W, I', J', e.trans (sh.trans f.symm)⟩) (fun q => absurd ⟨e0, e1, e2⟩ (q n i j hv))) (fun u' I' e q => yq_height W IY (fun v' n i j J' f hv f0 f1 f2 => absurd ⟨f0, f1, f2⟩ (q n i j hv)) (fun q' => ⟨rfl, g, W, I', IY, e.trans sh⟩))
  obtain ⟨rfl, rfl, rfl⟩ := rl_3 W hv hv' e0 e1 e2 f0 f1 f2
  rfl
theorem i_vc_trees {k : Nat} {u : SX} {v : SY} (I : i_Rel k u v) (hk : k + 5 ≤ 2560) (v1 : Int32) (v2 : Int32) (v3 : Int32) : wpX_trees (fun r u' => wpY_trees (fun r' v' => r' = r ∧ i_Rel (k + 5) u' v') v v1 v2 v3) u v1 v2 v3 := by
  obtain ⟨g, W, IX, IY, sh⟩ := I
  refine xq_trees W IX (fun u' n i j I' e S S2 hv e0 e1 e2 => yq_trees W IY (fun v' n' i' j' J' f hv' f0 f1 f2 => ⟨?_, g, W, I', J', e.trans (sh.trans f.symm)⟩) (fun q => absurd ⟨e0, e1, e2⟩ (q n i j hv))) (fun u' I' e q => yq_trees W IY (fun v' n i j J' f hv f0 f1 f2 => absurd ⟨f0, f1, f2⟩ (q n i j hv)) (fun q' => ⟨rfl, g, W, I', IY, e.trans sh⟩))
  obtain ⟨rfl, rfl, rfl⟩ := rl_3 W hv hv' e0 e1 e2 f0 f1 f2
  rfl
theorem i_vc_value {k : Nat} {u : SX} {v : SY} (I : i_Rel k u v) (hk : k + 5 ≤ 2560) (v1 : Int32) (v2 : Int32) (v3 : Int32) : wpX_value (fun r u' => wpY_value (fun r' v' => r' = r ∧ i_Rel (k + 5) u' v') v v1 v2 v3) u v1 v2 v3 := by
  obtain ⟨g, W, IX, IY, sh⟩ := I
  refine xq_value W IX (fun u' n i j I' e S hv e0 e1 e2 => yq_value W IY (fun v' n' i' j' J' f hv' f0 f1 f2 => ⟨?_, g, W, I', J', e.trans (sh.trans f.symm)⟩) (fun q => absurd ⟨e0, e1, e2⟩ (q n i j hv))) (fun u' I' e q => yq_value W IY (fun v' n i j J' f hv f0 f1 f2 => absurd ⟨f0, f1, f2⟩ (q n i j hv)) (fun q' => ⟨rfl, g, W, I', IY, e.trans sh⟩))
  obtain ⟨rfl, rfl, rfl⟩ := rl_3 W hv hv' e0 e1 e2 f0 f1 f2
  rw [sh]
theorem i_vc_distance {k : Nat} {u : SX} {v : SY} (I : i_Rel k u v) (hk : k + 5 ≤ 2560) (v1 : Int32) (v2 : Int32) (v3 : Int32) : wpX_distance (fun r u' => wpY_distance (fun r' v' => r' = r ∧ i_Rel (k + 5) u' v') v v1 v2 v3) u v1 v2 v3 := by
  obtain ⟨g, W, IX, IY, sh⟩ := I
  refine xq_distance W IX (fun u' n i j I' e hv e0 e1 e2 => yq_distance W IY (fun v' n' i' j' J' f hv' f0 f1 f2 => ⟨?_, g, W, I', J', e.trans (sh.trans f.symm)⟩) (fun q => absurd ⟨e0, e1, e2⟩ (q n i j hv))) (fun u' I' e q => yq_distance W IY (fun v' n i j J' f hv f0 f1 f2 => absurd ⟨f0, f1, f2⟩ (q n i j hv)) (fun q' => ⟨rfl, g, W, I', IY, e.trans sh⟩))
  obtain ⟨rfl, rfl, rfl⟩ := rl_3 W hv hv' e0 e1 e2 f0 f1 f2
  rfl
theorem i_vc_longest {k : Nat} {u : SX} {v : SY} (I : i_Rel k u v) (hk : k + 5 ≤ 2560) (v1 : Int32) (v2 : Int32) : wpX_longest (fun r u' => wpY_longest (fun r' v' => r' = r ∧ i_Rel (k + 5) u' v') v v1 v2) u v1 v2 := by
  obtain ⟨g, W, IX, IY, sh⟩ := I
  refine xq_longest W IX (fun u' n i I' e S hn hi e0 e1 => ⟨fun j h1 h2 h3 h4 => yq_longest W IY (fun v' n' i' J' f hn' hi' f0 f1 => ?_) (fun q => absurd ⟨e0, e1⟩ (q n i hn hi)), fun h => yq_longest W IY (fun v' n' i' J' f hn' hi' f0 f1 => ?_) (fun q => absurd ⟨e0, e1⟩ (q n i hn hi))⟩) (fun u' I' e q => yq_longest W IY (fun v' n i J' f hn hi f0 f1 => absurd ⟨f0, f1⟩ (q n i hn hi)) (fun q' => ⟨rfl, g, W, I', IY, e.trans sh⟩))
  · obtain ⟨rfl, rfl, _⟩ := rl_3 W (⟨hn, Nat.le_refl _, hi⟩ : pu_V g n i i) (⟨hn', Nat.le_refl _, hi'⟩ : pu_V g n' i' i') e0 e1 e1 f0 f1 f1
    refine ⟨fun j' q1 q2 q3 q4 => ⟨?_, g, W, I', J', e.trans (sh.trans f.symm)⟩, fun q => absurd (q j h1 h2) (by omega)⟩
    by_cases c : j' < j
    · exact absurd (q4 j c h2) (by omega)
    · by_cases c2 : j < j'
      · exact absurd (h4 j' c2 q2) (by omega)
      · rw [show j' = j by omega]
  · obtain ⟨rfl, rfl, _⟩ := rl_3 W (⟨hn, Nat.le_refl _, hi⟩ : pu_V g n i i) (⟨hn', Nat.le_refl _, hi'⟩ : pu_V g n' i' i') e0 e1 e1 f0 f1 f1
    exact ⟨fun j' q1 q2 q3 q4 => absurd (h j' q1 q2) (by omega), fun q => ⟨rfl, g, W, I', J', e.trans (sh.trans f.symm)⟩⟩
theorem i_vc_node {k : Nat} {u : SX} {v : SY} (I : i_Rel k u v) (hk : k + 5 ≤ 2560) (v1 : Int32) : wpX_node (fun r u' => wpY_node (fun r' v' => r' = r ∧ i_Rel (k + 5) u' v') v v1) u v1 := by
  obtain ⟨g, W, IX, IY, sh⟩ := I
  refine xq_node W IX (fun u' q I' e S e0 l s9 => yq_node W IY (fun v' q' J' f f0 l' s9' => ⟨?_, g, W, I', J', e.trans (sh.trans f.symm)⟩) (fun v' J' f no => absurd ⟨e0, l, s9⟩ (no q (by omega)))) (fun u' I' e no => yq_node W IY (fun v' q J' f f0 l s9 => absurd ⟨f0, l, s9⟩ (no q (by omega))) (fun v' J' f no' => ⟨rfl, g, W, I', J', e.trans (sh.trans f.symm)⟩))
  have z := e0.symm.trans f0
  rw [nI_eq (by omega) (by omega)] at z
  rw [z]
theorem i_vc_errorAt {k : Nat} {u : SX} {v : SY} (I : i_Rel k u v) (hk : k + 5 ≤ 2560) : wpX_errorAt (fun r u' => wpY_errorAt (fun r' v' => r' = r ∧ i_Rel (k + 5) u' v') v) u := by
  obtain ⟨g, W, IX, IY, sh⟩ := I
  refine xq_errorAt W IX (fun u' I' e S => ⟨fun h0 => yq_errorAt W IY (fun v' J' f => ⟨fun _ => ⟨rfl, g, W, I', J', e.trans (sh.trans f.symm)⟩, fun z => absurd z (by omega), fun z => absurd z (by omega)⟩), fun h0 q q1 q2 q3 => yq_errorAt W IY (fun v' J' f => ⟨fun z => absurd z (by omega), fun _ q' r1 r2 r3 => ⟨?_, g, W, I', J', e.trans (sh.trans f.symm)⟩, fun _ no => absurd q2 (no q q1)⟩), fun h0 no => yq_errorAt W IY (fun v' J' f => ⟨fun z => absurd z (by omega), fun _ q' r1 r2 r3 => absurd r2 (no q' r1), fun _ _ => ⟨rfl, g, W, I', J', e.trans (sh.trans f.symm)⟩⟩)⟩)
  by_cases c : q' < q
  · exact absurd q2 (r3 q c q1)
  · by_cases c2 : q < q'
    · exact absurd r2 (q3 q' c2 r1)
    · rw [show q' = q by omega]
theorem i_vc_expected {k : Nat} {u : SX} {v : SY} (I : i_Rel k u v) (hk : k + 5 ≤ 2560) (v1 : Int32) : wpX_expected (fun r u' => wpY_expected (fun r' v' => r' = r ∧ i_Rel (k + 5) u' v') v v1) u v1 := by
  obtain ⟨g, W, IX, IY, sh⟩ := I
  have hL := W.2.1
  refine xq_expected W IX (fun u' q m I' e S hq e0 hm h => yq_expected W IY (fun v' q' m' J' f hq' f0 hm' h' => ⟨?_, g, W, I', J', e.trans (sh.trans f.symm)⟩) (fun no => absurd e0 (no q hq))) (fun u' I' e no => yq_expected W IY (fun v' q m J' f hq f0 hm h => absurd f0 (no q hq)) (fun no' => ⟨rfl, g, W, I', IY, e.trans sh⟩))
  have z := e0.symm.trans f0
  rw [nI_eq (by omega) (by omega)] at z
  subst z
  have em : m' = m := fb_ext hm' hm (fun t ht => by
    cases e1 : m.testBit t with
    | true => exact (h' t ht).mpr ((h t ht).mp e1)
    | false =>
      cases e2 : m'.testBit t with
      | true => have := (h t ht).mpr ((h' t ht).mp e2); rw [e1] at this; exact absurd this (by decide)
      | false => rfl)
  rw [em]
theorem i_vc_traits {k : Nat} {u : SX} {v : SY} (I : i_Rel k u v) (hk : k + 5 ≤ 2560) (v1 : Int32) : wpX_traits (fun r u' => wpY_traits (fun r' v' => r' = r ∧ i_Rel (k + 5) u' v') v v1) u v1 := by
  obtain ⟨g, W, IX, IY, sh⟩ := I
  refine xq_traits W IX (fun u' n a b c I' e S hn e0 ha hb hc => yq_traits W IY (fun v' n' a' b' c' J' f hn' f0 ha' hb' hc' => ⟨?_, g, W, I', J', e.trans (sh.trans f.symm)⟩) (fun no => absurd e0 (no n hn))) (fun u' I' e no => yq_traits W IY (fun v' n a b c J' f hn f0 ha hb hc => absurd f0 (no n hn)) (fun no' => ⟨rfl, g, W, I', IY, e.trans sh⟩))
  have z := e0.symm.trans f0
  rw [nI_eq (by omega) (by omega)] at z
  have z' : n' = n := by omega
  subst z'
  have ea : a' = a := by
    obtain ⟨x, y⟩ | ⟨x, y⟩ := ha <;> obtain ⟨x', y'⟩ | ⟨x', y'⟩ := ha'
    · omega
    · exact absurd y y'
    · exact absurd y' y
    · omega
  have eb : b' = b := by omega
  have ecc : c' = c := by
    obtain ⟨x, y⟩ | ⟨x, y⟩ := hc <;> obtain ⟨x', y'⟩ | ⟨x', y'⟩ := hc'
    · omega
    · exact absurd y y'
    · exact absurd y' y
    · omega
  rw [ea, eb, ecc]
end
section
/-! the two together: edits -/
theorem i_vc_produce {k : Nat} {u : SX} {v : SY} (I : i_Rel k u v) (hk : k + 5 ≤ 2560) (v1 : Int32) (v2 : Int32) (v3 : Int32) (v4 : Int32) : wpX_produce (fun r u' => wpY_produce (fun r' v' => r' = r ∧ i_Rel (k + 5) u' v') v v1 v2 v3 v4) u v1 v2 v3 v4 := by
  obtain ⟨f_productions, f_length, f_chartReady, f_countsReady, f_distancesReady, f_followsReady, f_filled, a_lefts, a_rights, a_ops, a_constants, a_text, a_heights, a_chosen, a_firstEnds, a_secondEnds, a_order, a_counts, a_distances, a_follows, a_sizes, a_values, a_operands, a_productive, a_used⟩ := u
  obtain ⟨y1, y2, y3, y4, y5, y6, y7, y8, z1, z2, z3, z4, z5, z6, z7, z8, z9, z10, z11, z12, z13, z14, z15, z16, z17⟩ := v
  obtain ⟨g, W, IX, IY, sh⟩ := I
  obtain ⟨rfl, rfl, rfl, rfl, rfl⟩ := rl_sh sh xm_sh_e ym_sh_e
  have IX0 := IX
  have IY0 := IY
  obtain ⟨rfl, rfl, tx, mR, mF, mO, cr, cc, cd, cf⟩ := IX
  obtain ⟨rfl, rfl, tx', mR', mF', mZ', mO', hk'⟩ := IY
  refine xs_produce (g := g) W (fun q => ys_produce (g := g) W (fun _ => ⟨rfl, g, W, IX0, IY0, sh⟩) (fun ex _ => ?_) (fun n a b c h1 h2 h3 _ => absurd ⟨h1, h2, h3⟩ (q n a b c))) (fun ex e => ys_produce (g := g) W (fun q => ?_) (fun _ _ => ⟨rfl, g, W, IX0, IY0, sh⟩) (fun n a b c h1 h2 h3 l => absurd l (by omega))) (fun ex l => ys_produce (g := g) W (fun q => ?_) (fun _ e => absurd l (by omega)) (fun n a b c h1 h2 h3 _ => ⟨rfl, eg_p g n a b c, eg_p_W W h1 h3 l, ⟨rfl, rfl, tx, eg_p_xR h3 mR, eg_p_xF h2 mF, eg_p_O mO, fun z => absurd rfl z, fun z => absurd rfl z, fun z => absurd rfl z, fun z => absurd rfl z⟩, ⟨rfl, rfl, tx', eg_p_xR h3 mR', eg_p_xF h2 mF', eg_p_Z mZ', eg_p_O mO', fun z => absurd rfl z⟩, xm_sh_e.trans ym_sh_e.symm⟩))
  · obtain ⟨n, a, b, c, h⟩ := ex
    exact absurd h (q n a b c)
  · obtain ⟨n, a, b, c, h⟩ := ex
    exact absurd h (q n a b c)
  · obtain ⟨n, a, b, c, h⟩ := ex
    exact absurd h (q n a b c)
theorem i_vc_retract {k : Nat} {u : SX} {v : SY} (I : i_Rel k u v) (hk : k + 5 ≤ 2560) : wpX_retract (fun r u' => wpY_retract (fun r' v' => r' = r ∧ i_Rel (k + 5) u' v') v) u := by
  obtain ⟨f_productions, f_length, f_chartReady, f_countsReady, f_distancesReady, f_followsReady, f_filled, a_lefts, a_rights, a_ops, a_constants, a_text, a_heights, a_chosen, a_firstEnds, a_secondEnds, a_order, a_counts, a_distances, a_follows, a_sizes, a_values, a_operands, a_productive, a_used⟩ := u
  obtain ⟨y1, y2, y3, y4, y5, y6, y7, y8, z1, z2, z3, z4, z5, z6, z7, z8, z9, z10, z11, z12, z13, z14, z15, z16, z17⟩ := v
  obtain ⟨g, W, IX, IY, sh⟩ := I
  obtain ⟨rfl, rfl, rfl, rfl, rfl⟩ := rl_sh sh xm_sh_e ym_sh_e
  have IX0 := IX
  have IY0 := IY
  obtain ⟨rfl, rfl, tx, mR, mF, mO, cr, cc, cd, cf⟩ := IX
  obtain ⟨rfl, rfl, tx', mR', mF', mZ', mO', hk'⟩ := IY
  refine xs_retract (g := g) W (fun e => ys_retract (g := g) W (fun _ => ⟨rfl, g, W, IX0, IY0, sh⟩) (fun p e' => absurd e (by omega))) (fun p e => ys_retract (g := g) W (fun e' => absurd e (by omega)) (fun p' e' => ?_))
  have ep : p' = p := by omega
  subst ep
  exact ⟨rfl, eg_r g p', eg_r_W W e, ⟨rfl, rfl, tx, fun q hq => mR q (by have : q < 3 * p' := hq; omega), fun q hq => mF q (by have : q < p' := hq; omega), fun q hq => mO q (by have : q < p' := hq; omega), fun z => absurd rfl z, fun z => absurd rfl z, fun z => absurd rfl z, fun z => absurd rfl z⟩, ⟨rfl, rfl, tx', fun q hq => mR' q (by have : q < 3 * p' := hq; omega), fun q hq => mF' q (by have : q < p' := hq; omega), fun q hq => mZ' q (by have : q < p' := hq; omega), fun q hq => mO' q (by have : q < p' := hq; omega), fun z => absurd rfl z⟩, xm_sh_e.trans ym_sh_e.symm⟩
theorem i_vc_action {k : Nat} {u : SX} {v : SY} (I : i_Rel k u v) (hk : k + 5 ≤ 2560) (v1 : Int32) (v2 : Int32) (v3 : Int32) : wpX_action (fun r u' => wpY_action (fun r' v' => r' = r ∧ i_Rel (k + 5) u' v') v v1 v2 v3) u v1 v2 v3 := by
  obtain ⟨f_productions, f_length, f_chartReady, f_countsReady, f_distancesReady, f_followsReady, f_filled, a_lefts, a_rights, a_ops, a_constants, a_text, a_heights, a_chosen, a_firstEnds, a_secondEnds, a_order, a_counts, a_distances, a_follows, a_sizes, a_values, a_operands, a_productive, a_used⟩ := u
  obtain ⟨y1, y2, y3, y4, y5, y6, y7, y8, z1, z2, z3, z4, z5, z6, z7, z8, z9, z10, z11, z12, z13, z14, z15, z16, z17⟩ := v
  obtain ⟨g, W, IX, IY, sh⟩ := I
  obtain ⟨rfl, rfl, rfl, rfl, rfl⟩ := rl_sh sh xm_sh_e ym_sh_e
  have IX0 := IX
  have IY0 := IY
  obtain ⟨rfl, rfl, tx, mR, mF, mO, cr, cc, cd, cf⟩ := IX
  obtain ⟨rfl, rfl, tx', mR', mF', mZ', mO', hk'⟩ := IY
  have hP := W.1
  have up : ∀ p o, o < 8 → ∀ q, q < gr_P g → ∃ r, r < 8 ∧ upd a_ops p (nI o) q = nI r := by
    intro p o ho q hq
    by_cases c : q = p
    · rw [c, pk_us]; exact ⟨o, ho, rfl⟩
    · rw [pk_un c]; exact mO q hq
  refine xs_action (g := g) W (fun q => ys_action (g := g) W (fun _ => ⟨rfl, g, W, IX0, IY0, sh⟩) (fun p o h1 h2 h3 h4 => absurd ⟨h1, h2, h3, h4⟩ (q p o))) (fun p o h1 h2 h3 h4 => ys_action (g := g) W (fun q => absurd ⟨h1, h2, h3, h4⟩ (q p o)) (fun p' o' f1 f2 f3 f4 => ?_))
  have ep : p' = p := by
    have z := h3.symm.trans f3
    rw [nI_eq (by omega) (by omega)] at z; omega
  have eo : o' = o := by
    have z := h4.symm.trans f4
    rw [nI_eq (by omega) (by omega)] at z; omega
  subst ep eo
  exact ⟨rfl, g, W, ⟨rfl, rfl, tx, mR, mF, up p' o' h2, cr, cc, cd, cf⟩, ⟨rfl, rfl, tx', mR', mF', mZ', up p' o' h2, fun z => absurd rfl z⟩, xm_sh_e.trans ym_sh_e.symm⟩
theorem i_vc_set {k : Nat} {u : SX} {v : SY} (I : i_Rel k u v) (hk : k + 5 ≤ 2560) (v1 : Int32) (v2 : Int32) : wpX_set (fun r u' => wpY_set (fun r' v' => r' = r ∧ i_Rel (k + 5) u' v') v v1 v2) u v1 v2 := by
  obtain ⟨f_productions, f_length, f_chartReady, f_countsReady, f_distancesReady, f_followsReady, f_filled, a_lefts, a_rights, a_ops, a_constants, a_text, a_heights, a_chosen, a_firstEnds, a_secondEnds, a_order, a_counts, a_distances, a_follows, a_sizes, a_values, a_operands, a_productive, a_used⟩ := u
  obtain ⟨y1, y2, y3, y4, y5, y6, y7, y8, z1, z2, z3, z4, z5, z6, z7, z8, z9, z10, z11, z12, z13, z14, z15, z16, z17⟩ := v
  obtain ⟨g, W, IX, IY, sh⟩ := I
  obtain ⟨rfl, rfl, rfl, rfl, rfl⟩ := rl_sh sh xm_sh_e ym_sh_e
  have IX0 := IX
  have IY0 := IY
  obtain ⟨rfl, rfl, tx, mR, mF, mO, cr, cc, cd, cf⟩ := IX
  obtain ⟨rfl, rfl, tx', mR', mF', mZ', mO', hk'⟩ := IY
  have hL := W.2.1
  refine xs_set (g := g) W (fun q => ys_set (g := g) W (fun _ => ⟨rfl, g, W, IX0, IY0, sh⟩) (fun p o h1 h2 h3 h4 => absurd ⟨h1, h2, h3, h4⟩ (q p o))) (fun p o h1 h2 h3 h4 => ys_set (g := g) W (fun q => absurd ⟨h1, h2, h3, h4⟩ (q p o)) (fun p' o' f1 f2 f3 f4 => ?_))
  have ep : p' = p := by
    have z := h3.symm.trans f3
    rw [nI_eq (by omega) (by omega)] at z; omega
  have eo : o' = o := by
    have z := h4.symm.trans f4
    rw [nI_eq (by omega) (by omega)] at z; omega
  subst ep eo
  have T : xm_T (eg_t g (gr_L g) (fun x => if x = p' then o' else gr_T g x)) (upd a_text p' (nI o')) := by
    intro x hx
    have hx' : x < gr_L g := hx
    show _ = nI (if x = p' then o' else gr_T g x)
    by_cases c : x = p'
    · rw [if_pos c, c, pk_us]
    · rw [if_neg c, pk_un c]; exact tx x hx'
  refine ⟨rfl, eg_t g (gr_L g) (fun x => if x = p' then o' else gr_T g x), eg_t_W W hL (fun x hx => ?_), ⟨rfl, rfl, T, mR, mF, mO, fun z => absurd rfl z, fun z => absurd rfl z, fun z => absurd rfl z, fun z => absurd rfl z⟩, ⟨rfl, rfl, T, mR', mF', mZ', mO', fun z => absurd rfl z⟩, xm_sh_e.trans ym_sh_e.symm⟩
  show (if x = p' then o' else gr_T g x) < 6
  split
  · exact h2
  · exact W.2.2.2.2.2 x hx
theorem i_vc_insert {k : Nat} {u : SX} {v : SY} (I : i_Rel k u v) (hk : k + 5 ≤ 2560) (v1 : Int32) (v2 : Int32) : wpX_insert (fun r u' => wpY_insert (fun r' v' => r' = r ∧ i_Rel (k + 5) u' v') v v1 v2) u v1 v2 := by
  obtain ⟨f_productions, f_length, f_chartReady, f_countsReady, f_distancesReady, f_followsReady, f_filled, a_lefts, a_rights, a_ops, a_constants, a_text, a_heights, a_chosen, a_firstEnds, a_secondEnds, a_order, a_counts, a_distances, a_follows, a_sizes, a_values, a_operands, a_productive, a_used⟩ := u
  obtain ⟨y1, y2, y3, y4, y5, y6, y7, y8, z1, z2, z3, z4, z5, z6, z7, z8, z9, z10, z11, z12, z13, z14, z15, z16, z17⟩ := v
  obtain ⟨g, W, IX, IY, sh⟩ := I
  obtain ⟨rfl, rfl, rfl, rfl, rfl⟩ := rl_sh sh xm_sh_e ym_sh_e
  have IX0 := IX
  have IY0 := IY
  obtain ⟨rfl, rfl, tx, mR, mF, mO, cr, cc, cd, cf⟩ := IX
  obtain ⟨rfl, rfl, tx', mR', mF', mZ', mO', hk'⟩ := IY
  have hL := W.2.1
  refine xs_insert (g := g) W (fun q => ys_insert (g := g) W (fun _ => ⟨rfl, g, W, IX0, IY0, sh⟩) (fun p o h1 h2 h5 h3 h4 => absurd ⟨h1, h2, h5, h3, h4⟩ (q p o))) (fun p o h1 h2 h5 h3 h4 => ys_insert (g := g) W (fun q => absurd ⟨h1, h2, h5, h3, h4⟩ (q p o)) (fun p' o' f1 f2 f5 f3 f4 => ?_))
  have ep : p' = p := by
    have z := h3.symm.trans f3
    rw [nI_eq (by omega) (by omega)] at z; omega
  have eo : o' = o := by
    have z := h4.symm.trans f4
    rw [nI_eq (by omega) (by omega)] at z; omega
  subst ep eo
  have T : xm_T (eg_t g (gr_L g + 1) (fun x => if x = p' then o' else if p' < x ∧ x ≤ gr_L g then gr_T g (x - 1) else gr_T g x)) (ed_ins a_text (gr_L g) p' (nI o')) := by
    intro x hx
    have hx' : x < gr_L g + 1 := hx
    show ed_ins a_text (gr_L g) p' (nI o') x = nI (if x = p' then o' else if p' < x ∧ x ≤ gr_L g then gr_T g (x - 1) else gr_T g x)
    unfold ed_ins
    by_cases c : x = p'
    · rw [if_pos c, if_pos c]
    · rw [if_neg c, if_neg c]
      by_cases c2 : p' < x ∧ x ≤ gr_L g
      · rw [if_pos c2, if_pos c2]; exact tx (x - 1) (by omega)
      · rw [if_neg c2, if_neg c2]; exact tx x (by omega)
  refine ⟨rfl, eg_t g (gr_L g + 1) (fun x => if x = p' then o' else if p' < x ∧ x ≤ gr_L g then gr_T g (x - 1) else gr_T g x), eg_t_W W (by omega) (fun x hx => ?_), ⟨rfl, rfl, T, mR, mF, mO, fun z => absurd rfl z, fun z => absurd rfl z, fun z => absurd rfl z, fun z => absurd rfl z⟩, ⟨rfl, rfl, T, mR', mF', mZ', mO', fun z => absurd rfl z⟩, xm_sh_e.trans ym_sh_e.symm⟩
  show (if x = p' then o' else if p' < x ∧ x ≤ gr_L g then gr_T g (x - 1) else gr_T g x) < 6
  by_cases c : x = p'
  · rw [if_pos c]; exact h2
  · rw [if_neg c]
    by_cases c2 : p' < x ∧ x ≤ gr_L g
    · rw [if_pos c2]; exact W.2.2.2.2.2 _ (by omega)
    · rw [if_neg c2]; exact W.2.2.2.2.2 x (by omega)
theorem i_vc_erase {k : Nat} {u : SX} {v : SY} (I : i_Rel k u v) (hk : k + 5 ≤ 2560) (v1 : Int32) : wpX_erase (fun r u' => wpY_erase (fun r' v' => r' = r ∧ i_Rel (k + 5) u' v') v v1) u v1 := by
  obtain ⟨f_productions, f_length, f_chartReady, f_countsReady, f_distancesReady, f_followsReady, f_filled, a_lefts, a_rights, a_ops, a_constants, a_text, a_heights, a_chosen, a_firstEnds, a_secondEnds, a_order, a_counts, a_distances, a_follows, a_sizes, a_values, a_operands, a_productive, a_used⟩ := u
  obtain ⟨y1, y2, y3, y4, y5, y6, y7, y8, z1, z2, z3, z4, z5, z6, z7, z8, z9, z10, z11, z12, z13, z14, z15, z16, z17⟩ := v
  obtain ⟨g, W, IX, IY, sh⟩ := I
  obtain ⟨rfl, rfl, rfl, rfl, rfl⟩ := rl_sh sh xm_sh_e ym_sh_e
  have IX0 := IX
  have IY0 := IY
  obtain ⟨rfl, rfl, tx, mR, mF, mO, cr, cc, cd, cf⟩ := IX
  obtain ⟨rfl, rfl, tx', mR', mF', mZ', mO', hk'⟩ := IY
  have hL := W.2.1
  refine xs_erase (g := g) W (fun q => ys_erase (g := g) W (fun _ => ⟨rfl, g, W, IX0, IY0, sh⟩) (fun p l h1 h2 h3 => absurd ⟨h1, h3⟩ (q p))) (fun p l h1 h2 h3 => ys_erase (g := g) W (fun q => absurd ⟨h1, h3⟩ (q p)) (fun p' l' f1 f2 f3 => ?_))
  have ep : p' = p := by
    have z := h3.symm.trans f3
    rw [nI_eq (by omega) (by omega)] at z; omega
  have eo : l' = l := by omega
  subst ep eo
  have T : xm_T (eg_t g l' (fun x => if p' ≤ x ∧ x + 1 < gr_L g then gr_T g (x + 1) else gr_T g x)) (ed_era a_text (gr_L g) p') := by
    intro x hx
    have hx' : x < l' := hx
    show ed_era a_text (gr_L g) p' x = nI (if p' ≤ x ∧ x + 1 < gr_L g then gr_T g (x + 1) else gr_T g x)
    unfold ed_era
    by_cases c : p' ≤ x ∧ x + 1 < gr_L g
    · rw [if_pos c, if_pos c]; exact tx (x + 1) (by omega)
    · rw [if_neg c, if_neg c]; exact tx x (by omega)
  refine ⟨rfl, eg_t g l' (fun x => if p' ≤ x ∧ x + 1 < gr_L g then gr_T g (x + 1) else gr_T g x), eg_t_W W (by omega) (fun x hx => ?_), ⟨rfl, rfl, T, mR, mF, mO, fun z => absurd rfl z, fun z => absurd rfl z, fun z => absurd rfl z, fun z => absurd rfl z⟩, ⟨rfl, rfl, T, mR', mF', mZ', mO', fun z => absurd rfl z⟩, xm_sh_e.trans ym_sh_e.symm⟩
  show (if p' ≤ x ∧ x + 1 < gr_L g then gr_T g (x + 1) else gr_T g x) < 6
  by_cases c : p' ≤ x ∧ x + 1 < gr_L g
  · rw [if_pos c]; exact W.2.2.2.2.2 _ (by omega)
  · rw [if_neg c]; exact W.2.2.2.2.2 x (by omega)
end
