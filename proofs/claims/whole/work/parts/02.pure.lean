/-! the pure picture: walks over the steps between groups, short walks, sums, bits -/
/-- a walk of k steps from g to h -/
def rt_P (e : Nat → Nat → Bool) : Nat → Nat → Nat → Prop
  | 0 => fun g h => g = h
  | k + 1 => fun g h => ∃ m, m < 18 ∧ rt_P e k g m ∧ e m h = true
/-- g leads to h -/
def rt_R (e : Nat → Nat → Bool) (g h : Nat) : Prop := ∃ k, rt_P e k g h
theorem rt_front {e : Nat → Nat → Bool} : ∀ (k g h : Nat), h < 18 → rt_P e (k + 1) g h → ∃ m, m < 18 ∧ e g m = true ∧ rt_P e k m h := by
  intro k
  induction k with
  | zero =>
    intro g h hh H
    obtain ⟨m, hm, e1, e2⟩ := H
    have e1' : g = m := e1
    subst e1'
    exact ⟨h, hh, e2, rfl⟩
  | succ k ih =>
    intro g h hh H
    obtain ⟨m, hm, e1, e2⟩ := H
    obtain ⟨m', hm', e3, e4⟩ := ih g m hm e1
    exact ⟨m', hm', e3, m, hm, e4, e2⟩
theorem rt_cons {e : Nat → Nat → Bool} : ∀ (k g m h : Nat), g < 18 → e g m = true → rt_P e k m h → rt_P e (k + 1) g h := by
  intro k
  induction k with
  | zero =>
    intro g m h hg e1 H
    have H' : m = h := H
    subst H'
    exact ⟨g, hg, rfl, e1⟩
  | succ k ih =>
    intro g m h hg e1 H
    obtain ⟨m2, hm2, e3, e4⟩ := H
    exact ⟨m2, hm2, ih g m m2 hg e1 e3, e4⟩
theorem rt_Rrefl (e : Nat → Nat → Bool) (h : Nat) : rt_R e h h := ⟨0, rfl⟩
theorem rt_Rcons {e : Nat → Nat → Bool} {g m h : Nat} (hg : g < 18) (e1 : e g m = true) (H : rt_R e m h) : rt_R e g h := by
  obtain ⟨k, H⟩ := H
  exact ⟨k + 1, rt_cons k g m h hg e1 H⟩
theorem rt_Rsnoc {e : Nat → Nat → Bool} {g m h : Nat} (hm : m < 18) (H : rt_R e g m) (e1 : e m h = true) : rt_R e g h := by
  obtain ⟨k, H⟩ := H
  exact ⟨k + 1, m, hm, H, e1⟩
/-- how many numbers below n have p -/
noncomputable def rt_c (p : Nat → Prop) : Nat → Nat
  | 0 => 0
  | n + 1 => rt_c p n + @ite Nat (p n) (Classical.propDecidable (p n)) 1 0
theorem rt_c_t {p : Nat → Prop} {n : Nat} (h : p n) : rt_c p (n + 1) = rt_c p n + 1 := by
  show rt_c p n + @ite Nat (p n) (Classical.propDecidable (p n)) 1 0 = _
  rw [if_pos h]
theorem rt_c_f {p : Nat → Prop} {n : Nat} (h : ¬ p n) : rt_c p (n + 1) = rt_c p n := by
  show rt_c p n + @ite Nat (p n) (Classical.propDecidable (p n)) 1 0 = _
  rw [if_neg h, Nat.add_zero]
theorem rt_c_le (p : Nat → Prop) : ∀ n, rt_c p n ≤ n := by
  intro n
  induction n with
  | zero => exact Nat.le_refl 0
  | succ n ih =>
    by_cases h : p n
    · rw [rt_c_t h]; omega
    · rw [rt_c_f h]; omega
theorem rt_c_mono {p q : Nat → Prop} : ∀ n, (∀ i, i < n → p i → q i) → rt_c p n ≤ rt_c q n := by
  intro n
  induction n with
  | zero => exact fun _ => Nat.le_refl 0
  | succ n ih =>
    intro H
    have h1 := ih (fun i hi => H i (by omega))
    by_cases h : p n
    · rw [rt_c_t h, rt_c_t (H n (by omega) h)]; omega
    · rw [rt_c_f h]
      by_cases h2 : q n
      · rw [rt_c_t h2]; omega
      · rw [rt_c_f h2]; omega
theorem rt_c_lt {p q : Nat → Prop} (j : Nat) (hq : q j) (hp : ¬ p j) : ∀ n, j < n → (∀ i, i < n → p i → q i) → rt_c p n < rt_c q n := by
  intro n
  induction n with
  | zero => intro h; omega
  | succ n ih =>
    intro hj H
    by_cases e : j = n
    · subst e
      have h1 := rt_c_mono (p := p) (q := q) j (fun i hi => H i (by omega))
      rw [rt_c_f hp, rt_c_t hq]; omega
    · have h1 := ih (by omega) (fun i hi => H i (by omega))
      by_cases h : p n
      · rw [rt_c_t h, rt_c_t (H n (by omega) h)]; omega
      · rw [rt_c_f h]
        by_cases h2 : q n
        · rw [rt_c_t h2]; omega
        · rw [rt_c_f h2]; omega
/-- g leads to h within k steps -/
def rt_D (e : Nat → Nat → Bool) (g k h : Nat) : Prop := ∃ j, j ≤ k ∧ rt_P e j g h
theorem rt_key (e : Nat → Nat → Bool) (g : Nat) (hg : g < 18) : ∀ k, (∃ j, j < k ∧ ∀ h, h < 18 → rt_D e g (j + 1) h → rt_D e g j h) ∨ k + 1 ≤ rt_c (rt_D e g k) 18 := by
  intro k
  induction k with
  | zero =>
    refine Or.inr ?_
    have h := rt_c_lt (p := fun _ => False) (q := rt_D e g 0) g ⟨0, Nat.le_refl 0, rfl⟩ (fun z => z) 18 hg (fun _ _ z => z.elim)
    omega
  | succ k ih =>
    rcases ih with ⟨j, hj, st⟩ | h
    · exact Or.inl ⟨j, by omega, st⟩
    · by_cases st : ∀ h, h < 18 → rt_D e g (k + 1) h → rt_D e g k h
      · exact Or.inl ⟨k, by omega, st⟩
      · refine Or.inr ?_
        obtain ⟨a, ha⟩ := Classical.not_forall.mp st
        have ha2 : a < 18 ∧ rt_D e g (k + 1) a ∧ ¬ rt_D e g k a := by
          by_cases b1 : a < 18
          · by_cases b2 : rt_D e g (k + 1) a
            · by_cases b3 : rt_D e g k a
              · exact (ha (fun _ _ => b3)).elim
              · exact ⟨b1, b2, b3⟩
            · exact (ha (fun _ z => (b2 z).elim)).elim
          · exact (ha (fun z _ => (b1 z).elim)).elim
        have h2 := rt_c_lt (p := rt_D e g k) (q := rt_D e g (k + 1)) a ha2.2.1 ha2.2.2 18 ha2.1 (fun i _ z => by
          obtain ⟨j, hj, w⟩ := z
          exact ⟨j, by omega, w⟩)
        omega
/-- who leads to h does so within 17 steps -/
theorem rt_short {e : Nat → Nat → Bool} {g h : Nat} (hg : g < 18) (hh : h < 18) (H : rt_R e g h) : ∃ j, j ≤ 17 ∧ rt_P e j g h := by
  rcases rt_key e g hg 18 with ⟨j, hj, st⟩ | h2
  · have all : ∀ m a, a < 18 → rt_P e m g a → rt_D e g j a := by
      intro m
      induction m with
      | zero => intro a _ w; exact ⟨0, by omega, w⟩
      | succ m ih =>
        intro a ha w
        obtain ⟨m', hm', w1, w2⟩ := w
        obtain ⟨i, hi, w3⟩ := ih m' hm' w1
        exact st a ha ⟨i + 1, by omega, m', hm', w3, w2⟩
    obtain ⟨k, w⟩ := H
    obtain ⟨i, hi, w2⟩ := all k h hh w
    exact ⟨i, by omega, w2⟩
  · have := rt_c_le (rt_D e g 18) 18
    omega
/-- r is the set of the groups that lead to h -/
def rt_isL (e : Nat → Nat → Bool) (h : Nat) (r : Int32) : Prop := ∀ i, i < 32 → (bt r i = true ↔ i < 18 ∧ rt_R e i h)
/-- i is entered in a group that leads to h -/
noncomputable def rt_q (e : Nat → Nat → Bool) (p : Nat → Int32) (h i : Nat) : Bool := @decide (∃ g, g < 18 ∧ rt_R e g h ∧ bt (p g) i = true) (Classical.propDecidable _)
theorem rt_q_iff {e : Nat → Nat → Bool} {p : Nat → Int32} {h i : Nat} : rt_q e p h i = true ↔ ∃ g, g < 18 ∧ rt_R e g h ∧ bt (p g) i = true := by
  unfold rt_q
  exact @decide_eq_true_iff _ (Classical.propDecidable _)
def rt_isQ (e : Nat → Nat → Bool) (p : Nat → Int32) (h : Nat) (r : Int32) : Prop := ∀ i, i < 32 → bt r i = rt_q e p h i
theorem rt_beq {a b : Bool} (h : a = true ↔ b = true) : a = b := by
  cases a <;> cases b <;> simp at h ⊢
theorem rt_isL_u {e : Nat → Nat → Bool} {h : Nat} {r r' : Int32} (a : rt_isL e h r) (b : rt_isL e h r') : r = r' :=
  b_ext (fun i hi => rt_beq ((a i hi).trans (b i hi).symm))
theorem rt_isQ_u {e : Nat → Nat → Bool} {p : Nat → Int32} {h : Nat} {r r' : Int32} (a : rt_isQ e p h r) (b : rt_isQ e p h r') : r = r' :=
  b_ext (fun i hi => (a i hi).trans (b i hi).symm)
theorem rt_isL_of {e : Nat → Nat → Bool} {h : Nat} {s : Int32} (hh : h < 18) (hz : ∀ i, 18 ≤ i → bt s i = false) (hs : ∀ g, g < 18 → bt s g = true → rt_R e g h) (hc : ∀ k, k ≤ 17 → ∀ g, g < 18 → rt_P e k g h → bt s g = true) : rt_isL e h s := by
  intro i _
  constructor
  · intro b
    rcases Nat.lt_or_ge i 18 with c | c
    · exact ⟨c, hs i c b⟩
    · rw [hz i c] at b; cases b
  · intro ⟨c, w⟩
    obtain ⟨j, hj, w2⟩ := rt_short c hh w
    exact hc j hj i c w2
/-! sums -/
def rt_s (f : Nat → Nat) : Nat → Nat
  | 0 => 0
  | n + 1 => rt_s f n + f n
theorem rt_s_1 (f : Nat → Nat) (n : Nat) : rt_s f (n + 1) = rt_s f n + f n := rfl
theorem rt_s_congr {f g : Nat → Nat} : ∀ n, (∀ i, i < n → f i = g i) → rt_s f n = rt_s g n := by
  intro n
  induction n with
  | zero => exact fun _ => rfl
  | succ n ih =>
    intro H
    rw [rt_s_1, rt_s_1, ih (fun i hi => H i (by omega)), H n (by omega)]
theorem rt_s_zero : ∀ n, rt_s (fun _ => 0) n = 0 := by
  intro n
  induction n with
  | zero => rfl
  | succ n ih => rw [rt_s_1, ih]
theorem rt_s_add (f g : Nat → Nat) : ∀ n, rt_s (fun i => f i + g i) n = rt_s f n + rt_s g n := by
  intro n
  induction n with
  | zero => rfl
  | succ n ih => rw [rt_s_1, rt_s_1, rt_s_1, ih]; omega
theorem rt_s_comm (d : Nat → Nat → Nat) (m : Nat) : ∀ n, rt_s (fun g => rt_s (d g) m) n = rt_s (fun p => rt_s (fun g => d g p) n) m := by
  intro n
  induction n with
  | zero => exact (rt_s_zero m).symm
  | succ n ih =>
    rw [rt_s_1, ih, ← rt_s_add]
    exact rt_s_congr m (fun _ _ => rfl)
/-! bits -/
theorem rt_b1 : ∀ i, i < 32 → bt 1 i = decide (i = 0) := by decide +kernel
theorem rt_sb {p : Nat} (hp : p < 32) {i : Nat} (hi : i < 32) : bt ((1 : Int32) <<< (nI p &&& 31)) i = decide (i = p) := by
  rw [b_shl p hp 1 hi, rt_b1 _ (by omega)]
  by_cases h : p ≤ i
  · rw [decide_eq_true h, Bool.true_and]
    by_cases h2 : i = p
    · rw [decide_eq_true h2, decide_eq_true (by omega)]
    · rw [decide_eq_false h2, decide_eq_false (by omega)]
  · rw [decide_eq_false h, Bool.false_and, decide_eq_false (by omega)]
theorem rt_bit {p : Nat} (hp : p < 32) (x : Int32) : (x >>> (nI p &&& 31)) &&& 1 = nI (bt x p).toNat := by
  apply b_ext
  intro i hi
  rw [b_and, rt_b1 i hi, b_sshr p hp x hi]
  by_cases h : i = 0
  · subst h
    rw [if_pos (by omega), Nat.add_zero]
    cases bt x p
    · exact (by decide +kernel : (false && decide (0 = 0)) = bt (nI false.toNat) 0)
    · exact (by decide +kernel : (true && decide (0 = 0)) = bt (nI true.toNat) 0)
  · rw [decide_eq_false h, Bool.and_false]
    cases bt x p
    · exact (b_0 i).symm
    · show false = bt 1 i
      rw [rt_b1 i hi, decide_eq_false h]
theorem rt_bitT {p : Nat} (hp : p < 32) {x : Int32} (h : bt x p = true) : (x >>> (nI p &&& 31)) &&& 1 = 1 := by
  rw [rt_bit hp, h]; rfl
theorem rt_bitF {p : Nat} (hp : p < 32) {x : Int32} (h : bt x p = false) : (x >>> (nI p &&& 31)) &&& 1 = 0 := by
  rw [rt_bit hp, h]; rfl
theorem rt_bitN {p : Nat} (hp : p < 32) {x : Int32} (h : bt x p = false) : ¬ (x >>> (nI p &&& 31)) &&& 1 = 1 := by
  rw [rt_bitF hp h]; decide
/-- a branch over one bit -/
theorem rt_br {x : Int32} {A B : Prop} (p : Nat) (hp : p < 32) (f : bt x p = true → A) (g : bt x p = false → B) : ((x >>> (nI p &&& 31)) &&& 1 = 1 → A) ∧ (¬ (x >>> (nI p &&& 31)) &&& 1 = 1 → B) := by
  cases h : bt x p with
  | true => exact br_t (rt_bitT hp h) (f h)
  | false => exact br_f (rt_bitN hp h) (g h)
theorem rt_on {p : Nat} (hp : p < 32) (x : Int32) {i : Nat} (hi : i < 32) : bt (x ||| ((1 : Int32) <<< (nI p &&& 31))) i = (bt x i || decide (i = p)) := by
  rw [b_or, rt_sb hp hi]
theorem rt_off {p : Nat} (hp : p < 32) (x : Int32) {i : Nat} (hi : i < 32) : bt (x &&& (((1 : Int32) <<< (nI p &&& 31)) ^^^ (-1))) i = (bt x i && !decide (i = p)) := by
  rw [b_and, b_xor, rt_sb hp hi, b_m1 i hi, Bool.xor_true]
theorem rt_ix18 (t j : Nat) : nI t * 18 + nI j = nI (18 * t + j) := by
  show nI t * nI 18 + nI j = _
  rw [pk_mul, nI_add, Nat.mul_comm]
theorem rt_iy18 (t j : Nat) : 18 * nI t + nI j = nI (18 * t + j) := by
  show nI 18 * nI t + nI j = _
  rw [pk_mul, nI_add]
theorem rt_ix3 (t j : Nat) : nI t * 3 + nI j = nI (3 * t + j) := by
  show nI t * nI 3 + nI j = _
  rw [pk_mul, nI_add, Nat.mul_comm]
theorem rt_iy3 (t j : Nat) : 3 * nI t + nI j = nI (3 * t + j) := by
  show nI 3 * nI t + nI j = _
  rw [pk_mul, nI_add]
theorem rt_and7 {n : Nat} (h : n < 2 ^ 31) : nI n &&& 7 = nI (n % 8) := pk_andN (by omega) 3 (by decide)
theorem rt_rem8 {n : Nat} (h : n < 2 ^ 31) : nI n - nI n / 8 * 8 = nI (n % 8) := pk_rem (d := 8) h (by decide) (by decide)
theorem rt_rem3 {n : Nat} (h : n < 2 ^ 31) : nI n - nI n / 3 * 3 = nI (n % 3) := pk_rem (d := 3) h (by decide) (by decide)
theorem rt_rem18 {n : Nat} (h : n < 2 ^ 31) : nI n - nI n / 18 * 18 = nI (n % 18) := pk_rem (d := 18) h (by decide) (by decide)
theorem rt_div3 {n : Nat} (h : n < 2 ^ 31) : nI n / 3 = nI (n / 3) := pk_div (d := 3) h (by decide) (by decide)
theorem rt_div18 {n : Nat} (h : n < 2 ^ 31) : nI n / 18 = nI (n / 18) := pk_div (d := 18) h (by decide) (by decide)
