section
/-! rows taken from the kit's rows to paste (PURE-ROWS, BITS) -/
theorem pk_us {f : Nat → Int32} {k : Nat} {x : Int32} : upd f k x k = x := if_pos rfl
theorem pk_un {f : Nat → Int32} {k j : Nat} {x : Int32} (h : j ≠ k) : upd f k x j = f j := if_neg h
theorem pk_sub {a b : Nat} (h : b ≤ a) : nI a - nI b = nI (a - b) := by
  obtain ⟨c, rfl⟩ : ∃ c, a = c + b := ⟨a - b, by omega⟩
  rw [← nI_add, Int32.add_sub_cancel, Nat.add_sub_cancel]
theorem pk_m1 (n : Nat) : nI (n + 1) + (-1) = nI n := by
  rw [← nI_1, Int32.add_assoc, show (1 : Int32) + (-1) = 0 from rfl, Int32.add_zero]
theorem pk_mul (a b : Nat) : nI a * nI b = nI (a * b) := (Int32.ofNat_mul a b).symm
theorem pk_div {a d : Nat} (ha : a < 2 ^ 31) (h0 : 0 < d) (hd : d < 2 ^ 31) : nI a / nI d = nI (a / d) := by
  apply Int32.toInt_inj.mp
  rw [lg_idiv_nonneg (by rw [nI_toInt ha]; omega) (by rw [nI_toInt hd]; omega), nI_toInt ha, nI_toInt hd, nI_toInt (Nat.lt_of_le_of_lt (Nat.div_le_self a d) ha)]
  first | rfl | exact (Int.natCast_ediv _ _).symm
theorem pk_rem {a d : Nat} (ha : a < 2 ^ 31) (h0 : 0 < d) (hd : d < 2 ^ 31) : nI a - nI a / nI d * nI d = nI (a % d) := by
  rw [pk_div ha h0 hd, pk_mul, pk_sub (Nat.div_mul_le_self a d)]
  exact congrArg nI (by have := Nat.div_add_mod' a d; omega)
theorem pk_sub_toInt {a b : Nat} (ha : a < 2 ^ 30) (hb : b < 2 ^ 30) : (nI a - nI b).toInt = (a : Int) - b := by
  rw [Int32.toInt_sub, nI_toInt (by omega), nI_toInt (by omega)]
  exact Int.bmod_eq_of_le (by omega) (by omega)
theorem pk_sneg {a b : Nat} (hb : b < 2 ^ 30) (h : a < b) : nI a - nI b < 0 := by
  rw [Int32.lt_iff_toInt_lt, pk_sub_toInt (by omega) hb, show (0 : Int32).toInt = 0 from by decide]
  omega
theorem pk_ix (x : Int32) {n : Nat} (hn : n < 2 ^ 31) : x < 0 ∨ nI n ≤ x ∨ ∃ j : Nat, j < n ∧ x = nI j := by
  by_cases h : x < 0
  · exact Or.inl h
  · obtain ⟨j, hj, rfl⟩ := nI_of h
    by_cases h2 : j < n
    · exact Or.inr (Or.inr ⟨j, h2, rfl⟩)
    · exact Or.inr (Or.inl (nI_le (by omega) hj))
theorem pk_le {x y : Int32} {A B : Prop} (a b : Nat) (f : a ≤ b → A) (g : b < a → B) (hx : x = nI a := by rfl) (hy : y = nI b := by rfl) (ha : a < 2 ^ 31 := by omega) (hb : b < 2 ^ 31 := by omega) : (x ≤ y → A) ∧ (¬ x ≤ y → B) := by
  subst hx hy
  rw [nI_leI ha hb]
  exact ⟨f, fun z => g (by omega)⟩
theorem pk_lt {x y : Int32} {A B : Prop} (a b : Nat) (f : a < b → A) (g : b ≤ a → B) (hx : x = nI a := by rfl) (hy : y = nI b := by rfl) (ha : a < 2 ^ 31 := by omega) (hb : b < 2 ^ 31 := by omega) : (x < y → A) ∧ (¬ x < y → B) := by
  subst hx hy
  rw [nI_ltI ha hb]
  exact ⟨f, fun z => g (by omega)⟩
theorem pk_eq {x y : Int32} {A B : Prop} (a b : Nat) (f : a = b → A) (g : a ≠ b → B) (hx : x = nI a := by rfl) (hy : y = nI b := by rfl) (ha : a < 2 ^ 31 := by omega) (hb : b < 2 ^ 31 := by omega) : (x = y → A) ∧ (¬ x = y → B) := by
  subst hx hy
  rw [nI_eq ha hb]
  exact ⟨f, g⟩
theorem pk_in {x : Int32} (n N : Nat) (h : n < N) (hx : x = nI n := by rfl) (hN : N < 2 ^ 31 := by omega) : vp_in x N := by
  subst hx
  exact vp_in_nI h hN
theorem pk_cl {x : Int32} (n : Nat) (hx : x = nI n := by rfl) (h : n < 2 ^ 31 := by omega) : x.toNatClampNeg = n := by
  subst hx
  exact nI_clamp h
theorem pk_tn {n : Nat} (h : n < 2 ^ 32) : (nI n).toBitVec.toNat = n := Nat.mod_eq_of_lt h
theorem pk_and (x : Int32) {m : Int32} (k : Nat) (hm : m.toBitVec.toNat = 2 ^ k - 1) : x &&& m = nI (x.toBitVec.toNat % 2 ^ k) := by
  apply Int32.toBitVec_inj.mp
  apply BitVec.eq_of_toNat_eq
  rw [Int32.toBitVec_and, BitVec.toNat_and, hm, Nat.and_two_pow_sub_one_eq_mod]
  show _ = (BitVec.ofNat 32 _).toNat
  rw [BitVec.toNat_ofNat]
  exact (Nat.mod_eq_of_lt (Nat.lt_of_le_of_lt (Nat.mod_le _ _) x.toBitVec.isLt)).symm
theorem pk_andN {n : Nat} (h : n < 2 ^ 32) {m : Int32} (k : Nat) (hm : m.toBitVec.toNat = 2 ^ k - 1) : nI n &&& m = nI (n % 2 ^ k) := by
  rw [pk_and _ k hm, pk_tn h]
theorem pk_loop {σ : Type} (W : Nat → Nat → σ → Prop) (I : Nat → σ → Prop) (e i0 : Nat) (s : σ) (hi : i0 ≤ e) (h0 : I i0 s) (hx : ∀ n s, I e s → W (n + 1) e s)
    (hs : ∀ n i s, i < e → I i s → (∀ s', I (i + 1) s' → W n (i + 1) s') → W (n + 1) i s) : ∃ n, W n i0 s :=
  ⟨e + 1, loop_i W I e hx hs (e + 1) i0 s hi (by omega) h0⟩
theorem pk_loopD {σ : Type} (W : Nat → Nat → σ → Prop) (I : Nat → σ → Prop) (hx : ∀ n s, I 0 s → W (n + 1) 0 s)
    (hs : ∀ n i s, I (i + 1) s → (∀ s', I i s' → W n i s') → W (n + 1) (i + 1) s) : ∀ (e : Nat) (s : σ), I e s → W (e + 1) e s := by
  intro e
  induction e with
  | zero => exact fun s h => hx 0 s h
  | succ e ih => exact fun s h => hs (e + 1) e s h (fun s' h' => ih s' h')
def bt (x : Int32) (i : Nat) : Bool := x.toBitVec.getLsbD i
theorem b_ext {x y : Int32} (h : ∀ i, i < 32 → bt x i = bt y i) : x = y := Int32.toBitVec_inj.mp (BitVec.eq_of_getLsbD_eq (fun i hi => h i hi))
theorem b_or (x y : Int32) (i : Nat) : bt (x ||| y) i = (bt x i || bt y i) := by unfold bt; rw [Int32.toBitVec_or, BitVec.getLsbD_or]
theorem b_and (x y : Int32) (i : Nat) : bt (x &&& y) i = (bt x i && bt y i) := by unfold bt; rw [Int32.toBitVec_and, BitVec.getLsbD_and]
theorem b_xor (x y : Int32) (i : Nat) : bt (x ^^^ y) i = (bt x i ^^ bt y i) := by unfold bt; rw [Int32.toBitVec_xor, BitVec.getLsbD_xor]
theorem b_big {x : Int32} {i : Nat} (h : 32 ≤ i) : bt x i = false := BitVec.getLsbD_of_ge _ _ h
theorem b_m1 : ∀ i, i < 32 → bt (-1) i = true := by decide +kernel
theorem b_0 (i : Nat) : bt 0 i = false := BitVec.getLsbD_zero
theorem s_l : ∀ n, n < 32 → ((nI n &&& 31).toBitVec.smod 32).toNat = n := by decide +kernel
theorem b_shl (n : Nat) (hn : n < 32) (x : Int32) {i : Nat} (hi : i < 32) : bt (x <<< (nI n &&& 31)) i = (decide (n ≤ i) && bt x (i - n)) := by
  unfold bt
  rw [Int32.toBitVec_shiftLeft]
  show (x.toBitVec <<< ((nI n &&& 31).toBitVec.smod 32).toNat).getLsbD i = _
  rw [s_l n hn, BitVec.getLsbD_shiftLeft]
  rcases Nat.lt_or_ge i n with h | h
  · simp [h, Nat.not_le.mpr h]
  · simp [hi, h, Nat.not_lt.mpr h]
theorem b_sshr (n : Nat) (hn : n < 32) (x : Int32) {i : Nat} (hi : i < 32) : bt (x >>> (nI n &&& 31)) i = if n + i < 32 then bt x (n + i) else bt x 31 := by
  unfold bt
  rw [Int32.toBitVec_shiftRight]
  show (x.toBitVec.sshiftRight ((nI n &&& 31).toBitVec.smod 32).toNat).getLsbD i = _
  rw [s_l n hn, BitVec.getLsbD_sshiftRight, BitVec.msb_eq_getLsbD_last]
  simp [hi]
end
section
/-! the pure picture: walks over the steps between groups, short walks, sums, bits -/
/-- a walk of k steps from g to h -/
def rt_P (e : Nat → Nat → Bool) : Nat → Nat → Nat → Prop
  | 0 => fun g h => g = h
  | k + 1 => fun g h => ∃ m, m < 18 ∧ rt_P e k g m ∧ e m h = true
/-- g leads to h -/
def rt_R (e : Nat → Nat → Bool) (g h : Nat) : Prop := ∃ k, rt_P e k g h
theorem rt_front {e : Nat → Nat → Bool} : ∀ (k g h : Nat), h < 18 → rt_P e (k + 1) g h → ∃ m, m < 18 ∧ e g m = true ∧ rt_P e k m h := by
  intro k
  induction k with
  | zero =>
    intro g h hh H
    obtain ⟨m, hm, e1, e2⟩ := H
    have e1' : g = m := e1
    subst e1'
    exact ⟨h, hh, e2, rfl⟩
  | succ k ih =>
    intro g h hh H
    obtain ⟨m, hm, e1, e2⟩ := H
    obtain ⟨m', hm', e3, e4⟩ := ih g m hm e1
    exact ⟨m', hm', e3, m, hm, e4, e2⟩
theorem rt_cons {e : Nat → Nat → Bool} : ∀ (k g m h : Nat), g < 18 → e g m = true → rt_P e k m h → rt_P e (k + 1) g h := by
  intro k
  induction k with
  | zero =>
    intro g m h hg e1 H
    have H' : m = h := H
    subst H'
    exact ⟨g, hg, rfl, e1⟩
  | succ k ih =>
    intro g m h hg e1 H
    obtain ⟨m2, hm2, e3, e4⟩ := H
    exact ⟨m2, hm2, ih g m m2 hg e1 e3, e4⟩
theorem rt_Rrefl (e : Nat → Nat → Bool) (h : Nat) : rt_R e h h := ⟨0, rfl⟩
theorem rt_Rcons {e : Nat → Nat → Bool} {g m h : Nat} (hg : g < 18) (e1 : e g m = true) (H : rt_R e m h) : rt_R e g h := by
  obtain ⟨k, H⟩ := H
  exact ⟨k + 1, rt_cons k g m h hg e1 H⟩
theorem rt_Rsnoc {e : Nat → Nat → Bool} {g m h : Nat} (hm : m < 18) (H : rt_R e g m) (e1 : e m h = true) : rt_R e g h := by
  obtain ⟨k, H⟩ := H
  exact ⟨k + 1, m, hm, H, e1⟩
/-- how many numbers below n have p -/
noncomputable def rt_c (p : Nat → Prop) : Nat → Nat
  | 0 => 0
  | n + 1 => rt_c p n + @ite Nat (p n) (Classical.propDecidable (p n)) 1 0
theorem rt_c_t {p : Nat → Prop} {n : Nat} (h : p n) : rt_c p (n + 1) = rt_c p n + 1 := by
  show rt_c p n + @ite Nat (p n) (Classical.propDecidable (p n)) 1 0 = _
  rw [if_pos h]
theorem rt_c_f {p : Nat → Prop} {n : Nat} (h : ¬ p n) : rt_c p (n + 1) = rt_c p n := by
  show rt_c p n + @ite Nat (p n) (Classical.propDecidable (p n)) 1 0 = _
  rw [if_neg h, Nat.add_zero]
theorem rt_c_le (p : Nat → Prop) : ∀ n, rt_c p n ≤ n := by
  intro n
  induction n with
  | zero => exact Nat.le_refl 0
  | succ n ih =>
    by_cases h : p n
    · rw [rt_c_t h]; omega
    · rw [rt_c_f h]; omega
theorem rt_c_mono {p q : Nat → Prop} : ∀ n, (∀ i, i < n → p i → q i) → rt_c p n ≤ rt_c q n := by
  intro n
  induction n with
  | zero => exact fun _ => Nat.le_refl 0
  | succ n ih =>
    intro H
    have h1 := ih (fun i hi => H i (by omega))
    by_cases h : p n
    · rw [rt_c_t h, rt_c_t (H n (by omega) h)]; omega
    · rw [rt_c_f h]
      by_cases h2 : q n
      · rw [rt_c_t h2]; omega
      · rw [rt_c_f h2]; omega
theorem rt_c_lt {p q : Nat → Prop} (j : Nat) (hq : q j) (hp : ¬ p j) : ∀ n, j < n → (∀ i, i < n → p i → q i) → rt_c p n < rt_c q n := by
  intro n
  induction n with
  | zero => intro h; omega
  | succ n ih =>
    intro hj H
    by_cases e : j = n
    · subst e
      have h1 := rt_c_mono (p := p) (q := q) j (fun i hi => H i (by omega))
      rw [rt_c_f hp, rt_c_t hq]; omega
    · have h1 := ih (by omega) (fun i hi => H i (by omega))
      by_cases h : p n
      · rw [rt_c_t h, rt_c_t (H n (by omega) h)]; omega
      · rw [rt_c_f h]
        by_cases h2 : q n
        · rw [rt_c_t h2]; omega
        · rw [rt_c_f h2]; omega
/-- g leads to h within k steps -/
def rt_D (e : Nat → Nat → Bool) (g k h : Nat) : Prop := ∃ j, j ≤ k ∧ rt_P e j g h
theorem rt_key (e : Nat → Nat → Bool) (g : Nat) (hg : g < 18) : ∀ k, (∃ j, j < k ∧ ∀ h, h < 18 → rt_D e g (j + 1) h → rt_D e g j h) ∨ k + 1 ≤ rt_c (rt_D e g k) 18 := by
  intro k
  induction k with
  | zero =>
    refine Or.inr ?_
    have h := rt_c_lt (p := fun _ => False) (q := rt_D e g 0) g ⟨0, Nat.le_refl 0, rfl⟩ (fun z => z) 18 hg (fun _ _ z => z.elim)
    omega
  | succ k ih =>
    rcases ih with ⟨j, hj, st⟩ | h
    · exact Or.inl ⟨j, by omega, st⟩
    · by_cases st : ∀ h, h < 18 → rt_D e g (k + 1) h → rt_D e g k h
      · exact Or.inl ⟨k, by omega, st⟩
      · refine Or.inr ?_
        obtain ⟨a, ha⟩ := Classical.not_forall.mp st
        have ha2 : a < 18 ∧ rt_D e g (k + 1) a ∧ ¬ rt_D e g k a := by
          by_cases b1 : a < 18
          · by_cases b2 : rt_D e g (k + 1) a
            · by_cases b3 : rt_D e g k a
              · exact (ha (fun _ _ => b3)).elim
              · exact ⟨b1, b2, b3⟩
            · exact (ha (fun _ z => (b2 z).elim)).elim
          · exact (ha (fun z _ => (b1 z).elim)).elim
        have h2 := rt_c_lt (p := rt_D e g k) (q := rt_D e g (k + 1)) a ha2.2.1 ha2.2.2 18 ha2.1 (fun i _ z => by
          obtain ⟨j, hj, w⟩ := z
          exact ⟨j, by omega, w⟩)
        omega
/-- who leads to h does so within 17 steps -/
theorem rt_short {e : Nat → Nat → Bool} {g h : Nat} (hg : g < 18) (hh : h < 18) (H : rt_R e g h) : ∃ j, j ≤ 17 ∧ rt_P e j g h := by
  rcases rt_key e g hg 18 with ⟨j, hj, st⟩ | h2
  · have all : ∀ m a, a < 18 → rt_P e m g a → rt_D e g j a := by
      intro m
      induction m with
      | zero => intro a _ w; exact ⟨0, by omega, w⟩
      | succ m ih =>
        intro a ha w
        obtain ⟨m', hm', w1, w2⟩ := w
        obtain ⟨i, hi, w3⟩ := ih m' hm' w1
        exact st a ha ⟨i + 1, by omega, m', hm', w3, w2⟩
    obtain ⟨k, w⟩ := H
    obtain ⟨i, hi, w2⟩ := all k h hh w
    exact ⟨i, by omega, w2⟩
  · have := rt_c_le (rt_D e g 18) 18
    omega
/-- r is the set of the groups that lead to h -/
def rt_isL (e : Nat → Nat → Bool) (h : Nat) (r : Int32) : Prop := ∀ i, i < 32 → (bt r i = true ↔ i < 18 ∧ rt_R e i h)
/-- i is entered in a group that leads to h -/
noncomputable def rt_q (e : Nat → Nat → Bool) (p : Nat → Int32) (h i : Nat) : Bool := @decide (∃ g, g < 18 ∧ rt_R e g h ∧ bt (p g) i = true) (Classical.propDecidable _)
theorem rt_q_iff {e : Nat → Nat → Bool} {p : Nat → Int32} {h i : Nat} : rt_q e p h i = true ↔ ∃ g, g < 18 ∧ rt_R e g h ∧ bt (p g) i = true := by
  unfold rt_q
  exact @decide_eq_true_iff _ (Classical.propDecidable _)
def rt_isQ (e : Nat → Nat → Bool) (p : Nat → Int32) (h : Nat) (r : Int32) : Prop := ∀ i, i < 32 → bt r i = rt_q e p h i
theorem rt_beq {a b : Bool} (h : a = true ↔ b = true) : a = b := by
  cases a <;> cases b <;> simp at h ⊢
theorem rt_isL_u {e : Nat → Nat → Bool} {h : Nat} {r r' : Int32} (a : rt_isL e h r) (b : rt_isL e h r') : r = r' :=
  b_ext (fun i hi => rt_beq ((a i hi).trans (b i hi).symm))
theorem rt_isQ_u {e : Nat → Nat → Bool} {p : Nat → Int32} {h : Nat} {r r' : Int32} (a : rt_isQ e p h r) (b : rt_isQ e p h r') : r = r' :=
  b_ext (fun i hi => (a i hi).trans (b i hi).symm)
theorem rt_isL_of {e : Nat → Nat → Bool} {h : Nat} {s : Int32} (hh : h < 18) (hz : ∀ i, 18 ≤ i → bt s i = false) (hs : ∀ g, g < 18 → bt s g = true → rt_R e g h) (hc : ∀ k, k ≤ 17 → ∀ g, g < 18 → rt_P e k g h → bt s g = true) : rt_isL e h s := by
  intro i _
  constructor
  · intro b
    rcases Nat.lt_or_ge i 18 with c | c
    · exact ⟨c, hs i c b⟩
    · rw [hz i c] at b; cases b
  · intro ⟨c, w⟩
    obtain ⟨j, hj, w2⟩ := rt_short c hh w
    exact hc j hj i c w2
/-! sums -/
def rt_s (f : Nat → Nat) : Nat → Nat
  | 0 => 0
  | n + 1 => rt_s f n + f n
theorem rt_s_1 (f : Nat → Nat) (n : Nat) : rt_s f (n + 1) = rt_s f n + f n := rfl
theorem rt_s_congr {f g : Nat → Nat} : ∀ n, (∀ i, i < n → f i = g i) → rt_s f n = rt_s g n := by
  intro n
  induction n with
  | zero => exact fun _ => rfl
  | succ n ih =>
    intro H
    rw [rt_s_1, rt_s_1, ih (fun i hi => H i (by omega)), H n (by omega)]
theorem rt_s_zero : ∀ n, rt_s (fun _ => 0) n = 0 := by
  intro n
  induction n with
  | zero => rfl
  | succ n ih => rw [rt_s_1, ih]
theorem rt_s_add (f g : Nat → Nat) : ∀ n, rt_s (fun i => f i + g i) n = rt_s f n + rt_s g n := by
  intro n
  induction n with
  | zero => rfl
  | succ n ih => rw [rt_s_1, rt_s_1, rt_s_1, ih]; omega
theorem rt_s_comm (d : Nat → Nat → Nat) (m : Nat) : ∀ n, rt_s (fun g => rt_s (d g) m) n = rt_s (fun p => rt_s (fun g => d g p) n) m := by
  intro n
  induction n with
  | zero => exact (rt_s_zero m).symm
  | succ n ih =>
    rw [rt_s_1, ih, ← rt_s_add]
    exact rt_s_congr m (fun _ _ => rfl)
/-! bits -/
theorem rt_b1 : ∀ i, i < 32 → bt 1 i = decide (i = 0) := by decide +kernel
theorem rt_sb {p : Nat} (hp : p < 32) {i : Nat} (hi : i < 32) : bt ((1 : Int32) <<< (nI p &&& 31)) i = decide (i = p) := by
  rw [b_shl p hp 1 hi, rt_b1 _ (by omega)]
  by_cases h : p ≤ i
  · rw [decide_eq_true h, Bool.true_and]
    by_cases h2 : i = p
    · rw [decide_eq_true h2, decide_eq_true (by omega)]
    · rw [decide_eq_false h2, decide_eq_false (by omega)]
  · rw [decide_eq_false h, Bool.false_and, decide_eq_false (by omega)]
theorem rt_bit {p : Nat} (hp : p < 32) (x : Int32) : (x >>> (nI p &&& 31)) &&& 1 = nI (bt x p).toNat := by
  apply b_ext
  intro i hi
  rw [b_and, rt_b1 i hi, b_sshr p hp x hi]
  by_cases h : i = 0
  · subst h
    rw [if_pos (by omega), Nat.add_zero]
    cases bt x p
    · exact (by decide +kernel : (false && decide (0 = 0)) = bt (nI false.toNat) 0)
    · exact (by decide +kernel : (true && decide (0 = 0)) = bt (nI true.toNat) 0)
  · rw [decide_eq_false h, Bool.and_false]
    cases bt x p
    · exact (b_0 i).symm
    · show false = bt 1 i
      rw [rt_b1 i hi, decide_eq_false h]
theorem rt_bitT {p : Nat} (hp : p < 32) {x : Int32} (h : bt x p = true) : (x >>> (nI p &&& 31)) &&& 1 = 1 := by
  rw [rt_bit hp, h]; rfl
theorem rt_bitF {p : Nat} (hp : p < 32) {x : Int32} (h : bt x p = false) : (x >>> (nI p &&& 31)) &&& 1 = 0 := by
  rw [rt_bit hp, h]; rfl
theorem rt_bitN {p : Nat} (hp : p < 32) {x : Int32} (h : bt x p = false) : ¬ (x >>> (nI p &&& 31)) &&& 1 = 1 := by
  rw [rt_bitF hp h]; decide
/-- a branch over one bit -/
theorem rt_br {x : Int32} {A B : Prop} (p : Nat) (hp : p < 32) (f : bt x p = true → A) (g : bt x p = false → B) : ((x >>> (nI p &&& 31)) &&& 1 = 1 → A) ∧ (¬ (x >>> (nI p &&& 31)) &&& 1 = 1 → B) := by
  cases h : bt x p with
  | true => exact br_t (rt_bitT hp h) (f h)
  | false => exact br_f (rt_bitN hp h) (g h)
theorem rt_on {p : Nat} (hp : p < 32) (x : Int32) {i : Nat} (hi : i < 32) : bt (x ||| ((1 : Int32) <<< (nI p &&& 31))) i = (bt x i || decide (i = p)) := by
  rw [b_or, rt_sb hp hi]
theorem rt_off {p : Nat} (hp : p < 32) (x : Int32) {i : Nat} (hi : i < 32) : bt (x &&& (((1 : Int32) <<< (nI p &&& 31)) ^^^ (-1))) i = (bt x i && !decide (i = p)) := by
  rw [b_and, b_xor, rt_sb hp hi, b_m1 i hi, Bool.xor_true]
theorem rt_ix18 (t j : Nat) : nI t * 18 + nI j = nI (18 * t + j) := by
  show nI t * nI 18 + nI j = _
  rw [pk_mul, nI_add, Nat.mul_comm]
theorem rt_iy18 (t j : Nat) : 18 * nI t + nI j = nI (18 * t + j) := by
  show nI 18 * nI t + nI j = _
  rw [pk_mul, nI_add]
theorem rt_ix3 (t j : Nat) : nI t * 3 + nI j = nI (3 * t + j) := by
  show nI t * nI 3 + nI j = _
  rw [pk_mul, nI_add, Nat.mul_comm]
theorem rt_iy3 (t j : Nat) : 3 * nI t + nI j = nI (3 * t + j) := by
  show nI 3 * nI t + nI j = _
  rw [pk_mul, nI_add]
theorem rt_and7 {n : Nat} (h : n < 2 ^ 31) : nI n &&& 7 = nI (n % 8) := pk_andN (by omega) 3 (by decide)
theorem rt_rem8 {n : Nat} (h : n < 2 ^ 31) : nI n - nI n / 8 * 8 = nI (n % 8) := pk_rem (d := 8) h (by decide) (by decide)
theorem rt_rem3 {n : Nat} (h : n < 2 ^ 31) : nI n - nI n / 3 * 3 = nI (n % 3) := pk_rem (d := 3) h (by decide) (by decide)
theorem rt_rem18 {n : Nat} (h : n < 2 ^ 31) : nI n - nI n / 18 * 18 = nI (n % 18) := pk_rem (d := 18) h (by decide) (by decide)
theorem rt_div3 {n : Nat} (h : n < 2 ^ 31) : nI n / 3 = nI (n / 3) := pk_div (d := 3) h (by decide) (by decide)
theorem rt_div18 {n : Nat} (h : n < 2 ^ 31) : nI n / 18 = nI (n / 18) := pk_div (d := 18) h (by decide) (by decide)
end
section
/-! the relation; ranges; the next state; enter, nest, rule, latest -/
/-- no bits from w on -/
def rt_Z (w : Nat) (a : Nat → Int32) : Prop := ∀ j i, w ≤ i → bt (a j) i = false
/-- the rules, laid by relation on the one side, in one set on the other -/
def rt_RS (R S : Nat → Int32) : Prop := ∀ t, t < 8 → ∀ r, r < 3 → ∀ s, s < 3 → bt (R (3 * t + s)) r = bt (S t) (3 * r + s)
def i_Rel (k : Nat) (u : SX) (v : SY) : Prop := ∃ (n : Nat) (P G R S M : Nat → Int32), u = (nI n, P, G, R) ∧ v = (nI n, P, G, S, M) ∧ n ≤ k ∧ rt_Z 18 G ∧ rt_Z 3 R ∧ rt_RS R S
theorem i_up {k : Nat} {u : SX} {v : SY} (h : i_Rel k u v) : i_Rel (k + 4) u v := by
  obtain ⟨n, P, G, R, S, M, h1, h2, h3, h4⟩ := h
  exact ⟨n, P, G, R, S, M, h1, h2, by omega, h4⟩
theorem i_vc0 : wpX_init (fun u => wpY_init (fun v => i_Rel 0 u v)) :=
  ⟨0, fun _ => 0, fun _ => 0, fun _ => 0, fun _ => 0, fun _ => 0, rfl, rfl, Nat.le_refl 0, fun _ i _ => b_0 i, fun _ i _ => b_0 i, fun _ _ r _ s _ => (b_0 r).trans (b_0 (3 * r + s)).symm⟩
/-! ranges -/
theorem rt_X0 {p wl : Int32} {w : Nat} {A A' B : Prop} (hw : wl = nI w) (h : p < 0 ∨ nI w ≤ p) (a : A) (a' : A') : (p < 0 → A) ∧ (¬ p < 0 → ((wl ≤ p → A') ∧ (¬ wl ≤ p → B))) := by
  subst hw
  by_cases c : p < 0
  · exact br_t c a
  · exact br_f c (br_t (h.resolve_left c) a')
theorem rt_X1 {wl : Int32} {w j : Nat} {A A' B : Prop} (hw : wl = nI w) (hj : j < w) (h : w < 2 ^ 31) (b : B) : (nI j < 0 → A) ∧ (¬ nI j < 0 → ((wl ≤ nI j → A') ∧ (¬ wl ≤ nI j → B))) := by
  subst hw
  exact br_f (nI_pos (by omega)) (br_f (nI_ge hj h) b)
theorem rt_Y0 {p wl : Int32} {w : Nat} {A A' B : Prop} (hw : wl = nI w) (h2 : w + 1 < 2 ^ 31) (h : p < 0 ∨ nI (w + 1) ≤ p) (a : A) (a' : A') : (p < 0 → A) ∧ (¬ p < 0 → ((wl < p → A') ∧ (¬ wl < p → B))) := by
  subst hw
  by_cases c : p < 0
  · exact br_t c a
  · refine br_f c (br_t ?_ a')
    have d := h.resolve_left c
    rw [Int32.le_iff_toInt_le, nI_toInt h2] at d
    rw [Int32.lt_iff_toInt_lt, nI_toInt (by omega)]
    omega
theorem rt_Y1 {wl : Int32} {w j : Nat} {A A' B : Prop} (hw : wl = nI w) (hj : j < w + 1) (h : w + 1 < 2 ^ 31) (b : B) : (nI j < 0 → A) ∧ (¬ nI j < 0 → ((wl < nI j → A') ∧ (¬ wl < nI j → B))) := by
  subst hw
  exact br_f (nI_pos (by omega)) (br_f (nI_nlt (by omega) (by omega)) b)
theorem rt_xp0 {post : Int32 → Prop} {p : Int32} (h : p < 0 ∨ nI 6 ≤ p) (a : post 0) : wpX_isPerson post p := rt_X0 (w := 6) rfl h a a
theorem rt_xp1 {post : Int32 → Prop} {j : Nat} (h : j < 6) (a : post 1) : wpX_isPerson post (nI j) := rt_X1 (w := 6) rfl h (by decide) a
theorem rt_xg0 {post : Int32 → Prop} {p : Int32} (h : p < 0 ∨ nI 18 ≤ p) (a : post 0) : wpX_isGroup post p := rt_X0 (w := 18) rfl h a a
theorem rt_xg1 {post : Int32 → Prop} {j : Nat} (h : j < 18) (a : post 1) : wpX_isGroup post (nI j) := rt_X1 (w := 18) rfl h (by decide) a
theorem rt_xr0 {post : Int32 → Prop} {p : Int32} (h : p < 0 ∨ nI 3 ≤ p) (a : post 0) : wpX_isRelation post p := rt_X0 (w := 3) rfl h a a
theorem rt_xr1 {post : Int32 → Prop} {j : Nat} (h : j < 3) (a : post 1) : wpX_isRelation post (nI j) := rt_X1 (w := 3) rfl h (by decide) a
theorem rt_yp0 {post : Int32 → Prop} {p : Int32} {fn : Int32} {P G S M : Nat → Int32} (h : p < 0 ∨ nI 6 ≤ p) (a : post 0) : wpY_isPerson post (fn, P, G, S, M) p := rt_Y0 (w := 5) rfl (by decide) h a a
theorem rt_yp1 {post : Int32 → Prop} {j : Nat} {fn : Int32} {P G S M : Nat → Int32} (h : j < 6) (a : post 1) : wpY_isPerson post (fn, P, G, S, M) (nI j) := rt_Y1 (w := 5) rfl h (by decide) a
theorem rt_yg0 {post : Int32 → Prop} {p : Int32} {fn : Int32} {P G S M : Nat → Int32} (h : p < 0 ∨ nI 18 ≤ p) (a : post 0) : wpY_isGroup post (fn, P, G, S, M) p := rt_Y0 (w := 17) rfl (by decide) h a a
theorem rt_yg1 {post : Int32 → Prop} {j : Nat} {fn : Int32} {P G S M : Nat → Int32} (h : j < 18) (a : post 1) : wpY_isGroup post (fn, P, G, S, M) (nI j) := rt_Y1 (w := 17) rfl h (by decide) a
theorem rt_slot {post : Int32 → Prop} {n : Nat} (hn : n < 2 ^ 31) (h : post (nI (n % 8))) : wpX_slotOf post (nI n) := by
  unfold wpX_slotOf
  rw [rt_and7 hn]
  exact h
/-- a range, or out of it -/
theorem rt_rg (p : Int32) (w : Nat) (hw : w < 2 ^ 31) : (p < 0 ∨ nI w ≤ p) ∨ ∃ j : Nat, j < w ∧ p = nI j := by
  rcases pk_ix p hw with h | h | h
  · exact Or.inl (Or.inl h)
  · exact Or.inl (Or.inr h)
  · exact Or.inr h
/-! the next state -/
/-- the cells of slot f, one by one, as those of slot o -/
def rt_cp (o f : Nat) (a : Nat → Int32) : Nat → Nat → Int32
  | 0 => a
  | j + 1 => upd (rt_cp o f a j) (18 * f + j) (rt_cp o f a j (18 * o + j))
theorem rt_updZ {w : Nat} {a : Nat → Int32} {k : Nat} {x : Int32} (h : rt_Z w a) (hx : ∀ i, w ≤ i → bt x i = false) : rt_Z w (upd a k x) := by
  intro j i hi
  by_cases e : j = k
  · subst e; rw [pk_us]; exact hx i hi
  · rw [pk_un e]; exact h j i hi
theorem rt_cpZ {w o f : Nat} {a : Nat → Int32} (h : rt_Z w a) : ∀ m, rt_Z w (rt_cp o f a m) := by
  intro m
  induction m with
  | zero => exact h
  | succ m ih => exact rt_updZ ih (fun i hi => ih _ i hi)
/-- R' is R with the three cells of slot f as those of slot o -/
def rt_C3 (o f m : Nat) (R R' : Nat → Int32) : Prop := ∀ c, R' c = if 3 * f ≤ c ∧ c < 3 * f + m then R (3 * o + (c - 3 * f)) else R c
theorem rt_C3s {o f m : Nat} {R R' : Nat → Int32} (hm : m < 3) (h : rt_C3 o f m R R') : rt_C3 o f (m + 1) R (upd R' (3 * f + m) (R' (3 * o + m))) := by
  intro c
  by_cases e : c = 3 * f + m
  · subst e
    rw [pk_us, h, if_neg (by omega), if_pos (by omega)]
    exact congrArg R (by omega)
  · rw [pk_un e, h]
    by_cases d : 3 * f ≤ c ∧ c < 3 * f + m
    · rw [if_pos d, if_pos (by omega)]
    · rw [if_neg d, if_neg (by omega)]
theorem rt_u18x (a : Nat → Int32) {o f j : Nat} (ho : o < 8) (hf : f < 8) (hj : j < 18) : upd a (nI f * 18 + nI j).toNatClampNeg (a (nI o * 18 + nI j).toNatClampNeg) = upd a (18 * f + j) (a (18 * o + j)) := by
  rw [rt_ix18, rt_ix18, nI_clamp (by omega), nI_clamp (by omega)]
theorem rt_u18y (a : Nat → Int32) {o f j : Nat} (ho : o < 8) (hf : f < 8) (hj : j < 18) : upd a (18 * nI f + nI j).toNatClampNeg (a (18 * nI o + nI j).toNatClampNeg) = upd a (18 * f + j) (a (18 * o + j)) := by
  rw [rt_iy18, rt_iy18, nI_clamp (by omega), nI_clamp (by omega)]
theorem rt_u3x (a : Nat → Int32) {o f j : Nat} (ho : o < 8) (hf : f < 8) (hj : j < 3) : upd a (nI f * 3 + nI j).toNatClampNeg (a (nI o * 3 + nI j).toNatClampNeg) = upd a (3 * f + j) (a (3 * o + j)) := by
  rw [rt_ix3, rt_ix3, nI_clamp (by omega), nI_clamp (by omega)]
theorem rt_x86 {post : SX → Prop} {fn : Int32} {P G R : Nat → Int32} {o f : Nat} (ho : o < 8) (hf : f < 8) (H : ∀ R', rt_C3 o f 3 R R' → post (fn, P, G, R')) : ∃ n, wX_startNextState_86 post (nI o) (nI f) fn n 0 P G R := by
  refine loop_0 (fun n i s => wX_startNextState_86 post (nI o) (nI f) fn n (nI i) P G s) (fun i s => rt_C3 o f i R s) 3 R ?_ ?_ ?_
  · intro c; rw [if_neg (by omega)]
  · intro n s I
    exact br_t (nI_le (a := 3) (b := 3) (by omega) (by decide)) (H s I)
  · intro n i s hi I K
    exact br_f (nI_ge (b := 3) hi (by decide)) ⟨pk_in (3 * o + i) 24 (by omega) (rt_ix3 o i), pk_in (3 * f + i) 24 (by omega) (rt_ix3 f i), nm_r (rt_u3x s ho hf hi) (nm_r (nI_1 i) (K _ (rt_C3s hi I)))⟩
theorem rt_x28 {post : SX → Prop} {fn : Int32} {P G R : Nat → Int32} {o f : Nat} (ho : o < 8) (hf : f < 8) (H : ∀ R', rt_C3 o f 3 R R' → post (fn, rt_cp o f P 18, rt_cp o f G 18, R')) : ∃ n, wX_startNextState_28 post (nI o) (nI f) fn n 0 P G R := by
  refine loop_0 (fun n i (s : (Nat → Int32) × (Nat → Int32)) => wX_startNextState_28 post (nI o) (nI f) fn n (nI i) s.1 s.2 R) (fun i s => s = (rt_cp o f P i, rt_cp o f G i)) 18 (P, G) rfl ?_ ?_
  · intro n s I
    subst I
    exact br_t (nI_le (a := 18) (b := 18) (by omega) (by decide)) (rt_x86 ho hf H)
  · intro n i s hi I K
    subst I
    have a1 : vp_in (nI o * 18 + nI i) 144 := pk_in (18 * o + i) 144 (by omega) (rt_ix18 o i)
    have a2 : vp_in (nI f * 18 + nI i) 144 := pk_in (18 * f + i) 144 (by omega) (rt_ix18 f i)
    exact br_f (nI_ge (b := 18) hi (by decide)) ⟨a1, a2, nm_r (rt_u18x _ ho hf hi) ⟨a1, a2, nm_r (rt_u18x _ ho hf hi) (nm_r (nI_1 i) (K (rt_cp o f P (i + 1), rt_cp o f G (i + 1)) rfl))⟩⟩
theorem rt_xnext {post : SX → Prop} {n : Nat} {P G R : Nat → Int32} (hn : n < 2 ^ 30) (H : ∀ R', rt_C3 (n % 8) ((n + 1) % 8) 3 R R' → post (nI (n + 1), rt_cp (n % 8) ((n + 1) % 8) P 18, rt_cp (n % 8) ((n + 1) % 8) G 18, R')) : wpX_startNextState post (nI n, P, G, R) := by
  unfold wpX_startNextState
  dsimp only
  refine rt_slot (by omega) ?_
  refine nm_r (nI_1 n) ?_
  refine rt_slot (by omega) ?_
  exact rt_x28 (by omega) (by omega) H
theorem rt_y28 {post : Int32 → SY → Prop} {fn : Int32} {P G S M : Nat → Int32} {o f : Nat} (ho : o < 8) (hf : f < 8) (H : post (nI f) (fn, rt_cp o f P 18, rt_cp o f G 18, upd S f (S o), M)) : ∃ n, wY_next_28 post (nI o) (nI f) fn n 0 P G S M := by
  refine loop_0 (fun n i (s : (Nat → Int32) × (Nat → Int32)) => wY_next_28 post (nI o) (nI f) fn n (nI i) s.1 s.2 S M) (fun i s => s = (rt_cp o f P i, rt_cp o f G i)) 18 (P, G) rfl ?_ ?_
  · intro n s I
    subst I
    refine br_t (nI_le (a := 18) (b := 18) (by omega) (by decide)) ⟨pk_in o 8 ho, pk_in f 8 hf, nm_r (e' := upd S f (S o)) ?_ H⟩
    rw [nI_clamp (by omega), nI_clamp (by omega)]
  · intro n i s hi I K
    subst I
    have a1 : vp_in (18 * nI o + nI i) 144 := pk_in (18 * o + i) 144 (by omega) (rt_iy18 o i)
    have a2 : vp_in (18 * nI f + nI i) 144 := pk_in (18 * f + i) 144 (by omega) (rt_iy18 f i)
    exact br_f (nI_ge (b := 18) hi (by decide)) ⟨a1, a2, nm_r (rt_u18y _ ho hf hi) ⟨a1, a2, nm_r (rt_u18y _ ho hf hi) (nm_r (nI_1 i) (K (rt_cp o f P (i + 1), rt_cp o f G (i + 1)) rfl))⟩⟩
theorem rt_ynext {post : Int32 → SY → Prop} {n : Nat} {P G S M : Nat → Int32} (hn : n < 2 ^ 30) (H : post (nI ((n + 1) % 8)) (nI (n + 1), rt_cp (n % 8) ((n + 1) % 8) P 18, rt_cp (n % 8) ((n + 1) % 8) G 18, upd S ((n + 1) % 8) (S (n % 8)), M)) : wpY_next post (nI n, P, G, S, M) := by
  unfold wpY_next
  dsimp only
  refine ⟨by decide, nm_r (rt_rem8 (by omega)) (nm_r (nI_1 n) ⟨by decide, nm_r (rt_rem8 (by omega)) ?_⟩)⟩
  exact rt_y28 (by omega) (by omega) H
/-- the rules' relation over the copy -/
theorem rt_RSc {o f : Nat} {R S R' : Nat → Int32} (ho : o < 8) (hf : f < 8) (h : rt_RS R S) (hc : rt_C3 o f 3 R R') : rt_RS R' (upd S f (S o)) := by
  intro t ht r hr s hs
  by_cases e : t = f
  · subst e
    rw [pk_us, hc, if_pos (by omega), show 3 * o + (3 * t + s - 3 * t) = 3 * o + s by omega]
    exact h o ho r hr s hs
  · rw [pk_un e, hc, if_neg (by omega)]
    exact h t ht r hr s hs
theorem rt_Zc {w o f : Nat} {R R' : Nat → Int32} (h : rt_Z w R) (hc : rt_C3 o f 3 R R') : rt_Z w R' := by
  intro j i hi
  rw [hc]
  by_cases e : 3 * f ≤ j ∧ j < 3 * f + 3
  · rw [if_pos e]; exact h _ i hi
  · rw [if_neg e]; exact h _ i hi
/-- the set with one bit put in, or out -/
def rt_w (x : Int32) (p : Nat) (b : Int32) : Int32 := if b = 0 then x &&& (((1 : Int32) <<< (nI p &&& 31)) ^^^ (-1)) else x ||| ((1 : Int32) <<< (nI p &&& 31))
theorem rt_xw {post : Int32 → Prop} {x b : Int32} {p : Nat} (h : post (rt_w x p b)) : wpX_withBit post x (nI p) b := by
  unfold rt_w at h
  by_cases c : b = 0
  · rw [if_pos c] at h; exact br_t c h
  · rw [if_neg c] at h; exact br_f c h
theorem rt_yw {post : Int32 → Prop} {x b : Int32} {p : Nat} {fn : Int32} {P G S M : Nat → Int32} (h : post (rt_w x p b)) : wpY_with post (fn, P, G, S, M) x (nI p) b := by
  unfold rt_w at h
  by_cases c : b = 0
  · rw [if_pos c] at h; exact br_t c h
  · rw [if_neg c] at h; exact br_f c h
theorem rt_w_bt {x b : Int32} {p : Nat} (hp : p < 32) {i : Nat} (hi : i < 32) : bt (rt_w x p b) i = if i = p then !decide (b = 0) else bt x i := by
  unfold rt_w
  by_cases c : b = 0
  · rw [if_pos c, rt_off hp x hi]
    by_cases d : i = p
    · rw [if_pos d, decide_eq_true d, decide_eq_true c, Bool.not_true, Bool.and_false]
    · rw [if_neg d, decide_eq_false d, Bool.not_false, Bool.and_true]
  · rw [if_neg c, rt_on hp x hi]
    by_cases d : i = p
    · rw [if_pos d, decide_eq_true d, decide_eq_false c, Bool.or_true, Bool.not_false]
    · rw [if_neg d, decide_eq_false d, Bool.or_false]
theorem rt_wZ {w : Nat} {x b : Int32} {p : Nat} (hw : w ≤ 32) (hp : p < w) (h : ∀ i, w ≤ i → bt x i = false) : ∀ i, w ≤ i → bt (rt_w x p b) i = false := by
  intro i hi
  rcases Nat.lt_or_ge i 32 with c | c
  · rw [rt_w_bt (by omega) c, if_neg (by omega)]; exact h i hi
  · exact b_big c
end
section
/-! enter, nest, rule, latest -/
theorem i_vc_enter {k : Nat} {u : SX} {v : SY} (I : i_Rel k u v) (hk : k + 4 ≤ 2048) (v1 : Int32) (v2 : Int32) (v3 : Int32) : wpX_enter (fun r u' => wpY_enter (fun r' v' => r' = r ∧ i_Rel (k + 4) u' v') v v1 v2 (lw_bz v3)) u v1 v2 (lw_bz v3) := by
  have J := i_up I
  obtain ⟨n, P, G, R, S, M, rfl, rfl, hn, hG, hR, hRS⟩ := I
  unfold wpX_enter wpY_enter
  dsimp only
  rcases rt_rg v1 6 (by decide) with hp | ⟨p, hp, rfl⟩
  · exact rt_xp0 hp (br_t rfl (rt_yp0 hp (br_t rfl ⟨rfl, J⟩)))
  rcases rt_rg v2 18 (by decide) with hg | ⟨g, hg, rfl⟩
  · exact rt_xp1 hp (br_f (by decide) (rt_xg0 hg (br_t rfl (rt_yp1 hp (br_f (by decide) (rt_yg0 hg (br_t rfl ⟨rfl, J⟩)))))))
  refine rt_xp1 hp (br_f (by decide) (rt_xg1 hg (br_f (by decide) (rt_xnext (by omega) (fun R' hc => ?_)))))
  have hf : (n + 1) % 8 < 8 := by omega
  have ho : n % 8 < 8 := by omega
  generalize hfe : (n + 1) % 8 = f at *
  generalize hoe : n % 8 = o at *
  refine rt_slot (by omega) ?_
  rw [hfe]
  refine nm_r (rt_ix18 f g) ⟨pk_in (18 * f + g) 144 (by omega), rt_xw ⟨pk_in (18 * f + g) 144 (by omega), nm_e ?_⟩⟩
  refine rt_yp1 hp (br_f (by decide) (rt_yg1 hg (br_f (by decide) (rt_ynext (by omega) ?_))))
  rw [hfe, hoe]
  refine nm_r (rt_iy18 f g) ⟨pk_in (18 * f + g) 144 (by omega), rt_yw ⟨pk_in (18 * f + g) 144 (by omega), nm_e ⟨rfl, ?_⟩⟩⟩
  exact ⟨n + 1, _, _, _, _, _, rfl, rfl, by omega, rt_cpZ hG 18, rt_Zc hR hc, rt_RSc ho hf hRS hc⟩
theorem i_vc_nest {k : Nat} {u : SX} {v : SY} (I : i_Rel k u v) (hk : k + 4 ≤ 2048) (v1 : Int32) (v2 : Int32) (v3 : Int32) : wpX_nest (fun r u' => wpY_nest (fun r' v' => r' = r ∧ i_Rel (k + 4) u' v') v v1 v2 (lw_bz v3)) u v1 v2 (lw_bz v3) := by
  have J := i_up I
  obtain ⟨n, P, G, R, S, M, rfl, rfl, hn, hG, hR, hRS⟩ := I
  unfold wpX_nest wpY_nest
  dsimp only
  rcases rt_rg v1 18 (by decide) with hp | ⟨p, hp, rfl⟩
  · exact rt_xg0 hp (br_t rfl (rt_yg0 hp (br_t rfl ⟨rfl, J⟩)))
  rcases rt_rg v2 18 (by decide) with hg | ⟨g, hg, rfl⟩
  · exact rt_xg1 hp (br_f (by decide) (rt_xg0 hg (br_t rfl (rt_yg1 hp (br_f (by decide) (rt_yg0 hg (br_t rfl ⟨rfl, J⟩)))))))
  refine rt_xg1 hp (br_f (by decide) (rt_xg1 hg (br_f (by decide) (rt_xnext (by omega) (fun R' hc => ?_)))))
  have hf : (n + 1) % 8 < 8 := by omega
  have ho : n % 8 < 8 := by omega
  generalize hfe : (n + 1) % 8 = f at *
  generalize hoe : n % 8 = o at *
  refine rt_slot (by omega) ?_
  rw [hfe]
  refine nm_r (rt_ix18 f g) ⟨pk_in (18 * f + g) 144 (by omega), rt_xw ⟨pk_in (18 * f + g) 144 (by omega), nm_e ?_⟩⟩
  refine rt_yg1 hp (br_f (by decide) (rt_yg1 hg (br_f (by decide) (rt_ynext (by omega) ?_))))
  rw [hfe, hoe]
  refine nm_r (rt_iy18 f g) ⟨pk_in (18 * f + g) 144 (by omega), rt_yw ⟨pk_in (18 * f + g) 144 (by omega), nm_e ⟨rfl, ?_⟩⟩⟩
  exact ⟨n + 1, _, _, _, _, _, rfl, rfl, by omega, rt_updZ (rt_cpZ hG 18) (rt_wZ (by omega) hp (rt_cpZ hG 18 _)), rt_Zc hR hc, rt_RSc ho hf hRS hc⟩
theorem rt_RSw {f r s : Nat} {R S : Nat → Int32} {b : Int32} (hr : r < 3) (hs : s < 3) (h : rt_RS R S) : rt_RS (upd R (3 * f + s) (rt_w (R (3 * f + s)) r b)) (upd S f (rt_w (S f) (3 * r + s) b)) := by
  intro t ht r' hr' s' hs'
  by_cases e : t = f
  · subst e
    rw [pk_us, rt_w_bt (by omega) (by omega)]
    by_cases es : s' = s
    · subst es
      rw [pk_us, rt_w_bt (by omega) (by omega)]
      by_cases er : r' = r
      · rw [if_pos er, if_pos (by omega)]
      · rw [if_neg er, if_neg (by omega)]
        exact h t ht r' hr' s' hs'
    · rw [pk_un (by omega), if_neg (by omega)]
      exact h t ht r' hr' s' hs'
  · rw [pk_un e, pk_un (by omega)]
    exact h t ht r' hr' s' hs'
theorem i_vc_rule {k : Nat} {u : SX} {v : SY} (I : i_Rel k u v) (hk : k + 4 ≤ 2048) (v1 : Int32) (v2 : Int32) (v3 : Int32) : wpX_rule (fun r u' => wpY_rule (fun r' v' => r' = r ∧ i_Rel (k + 4) u' v') v v1 v2 (lw_bz v3)) u v1 v2 (lw_bz v3) := by
  have J := i_up I
  obtain ⟨n, P, G, R, S, M, rfl, rfl, hn, hG, hR, hRS⟩ := I
  unfold wpX_rule wpY_rule
  dsimp only
  rcases rt_rg v1 3 (by decide) with hp | ⟨p, hp, rfl⟩
  · exact rt_xr0 hp (br_t rfl (rt_Y0 (w := 2) rfl (by decide) hp ⟨rfl, J⟩ ⟨rfl, J⟩))
  rcases rt_rg v2 3 (by decide) with hg | ⟨g, hg, rfl⟩
  · exact rt_xr1 hp (br_f (by decide) (rt_xr0 hg (br_t rfl (rt_Y1 (w := 2) rfl hp (by decide) (rt_Y0 (w := 2) rfl (by decide) hg ⟨rfl, J⟩ ⟨rfl, J⟩)))))
  by_cases e : nI p = nI g
  · exact rt_xr1 hp (br_f (by decide) (rt_xr1 hg (br_f (by decide) (br_t e (rt_Y1 (w := 2) rfl hp (by decide) (rt_Y1 (w := 2) rfl hg (by decide) (br_t e ⟨rfl, J⟩)))))))
  refine rt_xr1 hp (br_f (by decide) (rt_xr1 hg (br_f (by decide) (br_f e (rt_xnext (by omega) (fun R' hc => ?_))))))
  have hf : (n + 1) % 8 < 8 := by omega
  have ho : n % 8 < 8 := by omega
  generalize hfe : (n + 1) % 8 = f at *
  generalize hoe : n % 8 = o at *
  refine rt_slot (by omega) ?_
  rw [hfe]
  refine nm_r (rt_ix3 f g) ⟨pk_in (3 * f + g) 24 (by omega), rt_xw ⟨pk_in (3 * f + g) 24 (by omega), nm_e ?_⟩⟩
  refine rt_Y1 (w := 2) rfl hp (by decide) (rt_Y1 (w := 2) rfl hg (by decide) (br_f e (rt_ynext (by omega) ?_)))
  rw [hfe, hoe]
  refine ⟨pk_in f 8 hf, ?_⟩
  rw [rt_iy3]
  refine rt_yw ⟨pk_in f 8 hf, nm_e ⟨rfl, ?_⟩⟩
  rw [nI_clamp (n := f) (by omega), nI_clamp (n := 3 * f + g) (by omega)]
  exact ⟨n + 1, _, _, _, _, _, rfl, rfl, by omega, rt_cpZ hG 18, rt_updZ (rt_Zc hR hc) (rt_wZ (by omega) hp (rt_Zc hR hc _)), rt_RSw hp hg (rt_RSc ho hf hRS hc)⟩
theorem i_vc_latest {k : Nat} {u : SX} {v : SY} (I : i_Rel k u v) (hk : k + 4 ≤ 2048) : wpX_latest (fun r => wpY_latest (fun r' => r' = r ∧ i_Rel (k + 4) u v) v) u := by
  have J := i_up I
  obtain ⟨n, P, G, R, S, M, rfl, rfl, hn, hG, hR, hRS⟩ := I
  unfold wpX_latest wpY_latest
  exact ⟨rfl, J⟩
end
section
/-! the component's walks over one slot, against the pure picture -/
/-- the step from g to h in slot t -/
def rt_e (G S : Nat → Int32) (t g h : Nat) : Bool := bt (G (18 * t + h)) g || (decide (g / 3 = h / 3) && bt (S t) (3 * (g % 3) + h % 3))
theorem rt_step_bits {G R S : Nat → Int32} (hG : rt_Z 18 G) (hR : rt_Z 3 R) (hRS : rt_RS R S) {t h : Nat} (ht : t < 8) (hh : h < 18) {i : Nat} (hi : i < 32) : bt (G (18 * t + h) ||| (R (3 * t + h % 3) <<< (nI (h - h % 3) &&& 31))) i = (decide (i < 18) && rt_e G S t i h) := by
  rw [b_or, b_shl (h - h % 3) (by omega) _ hi]
  unfold rt_e
  by_cases c : i < 18
  · rw [decide_eq_true c, Bool.true_and]
    refine congrArg (fun z => (bt (G (18 * t + h)) i || z)) ?_
    by_cases d : i / 3 = h / 3
    · rw [decide_eq_true d, decide_eq_true (by omega), Bool.true_and, Bool.true_and, show i - (h - h % 3) = i % 3 by omega]
      exact hRS t ht (i % 3) (by omega) (h % 3) (by omega)
    · rw [decide_eq_false d, Bool.false_and]
      by_cases l : h - h % 3 ≤ i
      · rw [hR _ _ (by omega), Bool.and_false]
      · rw [decide_eq_false l, Bool.false_and]
  · rw [decide_eq_false c, Bool.false_and, hG _ _ (by omega), hR _ _ (by omega), Bool.and_false, Bool.or_false]
theorem rt_xstep {post : Int32 → Prop} {fn : Int32} {P G R S : Nat → Int32} (hG : rt_Z 18 G) (hR : rt_Z 3 R) (hRS : rt_RS R S) {t h : Nat} (ht : t < 8) (hh : h < 18) (H : ∀ r, (∀ i, i < 32 → bt r i = (decide (i < 18) && rt_e G S t i h)) → post r) : wpX_groupsOneStepBefore post (fn, P, G, R) (nI t) (nI h) := by
  unfold wpX_groupsOneStepBefore
  dsimp only
  refine ⟨by decide, nm_r (rt_rem3 (by omega)) (nm_r (pk_sub (Nat.mod_le h 3)) ⟨pk_in (3 * t + h % 3) 24 (by omega) (rt_ix3 _ _), nm_e ⟨pk_in (18 * t + h) 144 (by omega) (rt_ix18 _ _), ?_⟩⟩)⟩
  rw [rt_ix18, rt_ix3, nI_clamp (by omega), nI_clamp (by omega)]
  exact H _ (fun i hi => rt_step_bits hG hR hRS ht hh hi)
/-- the inner loop: what is reached so far, of the groups in b those below j are done -/
def rt_In (e : Nat → Nat → Bool) (h0 : Nat) (b : Int32) (j : Nat) (s : Int32) : Prop := (∀ i, 18 ≤ i → bt s i = false) ∧ (∀ g, g < 18 → bt s g = true → rt_R e g h0) ∧ (∀ i, bt b i = true → bt s i = true) ∧ (∀ h, h < j → bt b h = true → ∀ g, g < 18 → e g h = true → bt s g = true)
theorem rt_InT {e : Nat → Nat → Bool} {h0 : Nat} {b : Int32} {j : Nat} {s r : Int32} (hj : j < 18) (I : rt_In e h0 b j s) (hb : bt s j = true) (hr : ∀ i, i < 32 → bt r i = (decide (i < 18) && e i j)) : rt_In e h0 b (j + 1) (s ||| r) := by
  obtain ⟨i1, i2, i3, i4⟩ := I
  refine ⟨?_, ?_, ?_, ?_⟩
  · intro i hi
    rcases Nat.lt_or_ge i 32 with c | c
    · rw [b_or, i1 i hi, hr i c, decide_eq_false (by omega), Bool.false_and, Bool.or_false]
    · exact b_big c
  · intro g hg w
    rw [b_or, hr g (by omega), decide_eq_true hg, Bool.true_and, Bool.or_eq_true] at w
    rcases w with w | w
    · exact i2 g hg w
    · exact rt_Rcons hg w (i2 j hj hb)
  · intro i w
    rw [b_or, i3 i w, Bool.true_or]
  · intro h hh w g hg w2
    rw [b_or]
    by_cases c : h = j
    · subst c
      rw [hr g (by omega), decide_eq_true hg, w2, Bool.true_and, Bool.or_true]
    · rw [i4 h (by omega) w g hg w2, Bool.true_or]
theorem rt_InF {e : Nat → Nat → Bool} {h0 : Nat} {b : Int32} {j : Nat} {s : Int32} (I : rt_In e h0 b j s) (hb : bt s j = false) : rt_In e h0 b (j + 1) s := by
  obtain ⟨i1, i2, i3, i4⟩ := I
  refine ⟨i1, i2, i3, ?_⟩
  intro h hh w g hg w2
  by_cases c : h = j
  · subst c
    rw [i3 h w] at hb; cases hb
  · exact i4 h (by omega) w g hg w2
theorem rt_x20 {post : Int32 → Prop} {J7 : Int32 → Int32 → Prop} {x4 b fn : Int32} {P G R S : Nat → Int32} (hG : rt_Z 18 G) (hR : rt_Z 3 R) (hRS : rt_RS R S) {t h0 : Nat} (ht : t < 8) (I0 : rt_In (rt_e G S t) h0 b 0 b)
    (H : ∀ s, rt_In (rt_e G S t) h0 b 18 s → ((s = b → post s) ∧ (¬ s = b → ∀ y, y = x4 + 1 → J7 s y))) : ∃ n, wX_groupsLeadingTo_20 post J7 (nI t) x4 b fn P G R n b 0 := by
  refine loop_0 (fun n i s => wX_groupsLeadingTo_20 post J7 (nI t) x4 b fn P G R n s (nI i)) (fun i s => rt_In (rt_e G S t) h0 b i s) 18 b I0 ?_ ?_
  · intro n s I
    exact br_t (nI_le (a := 18) (b := 18) (by omega) (by decide)) (H s I)
  · intro n i s hi I K
    refine br_f (nI_ge (b := 18) hi (by decide)) (rt_br i (by omega) (fun hb => ?_) (fun hb => ?_))
    · exact rt_xstep hG hR hRS ht hi (fun r hr => nm_e (nm_r (nI_1 i) (K _ (rt_InT hi I hb hr))))
    · exact nm_r (nI_1 i) (K _ (rt_InF I hb))
/-- after i rounds or more: all that lead to h0 in less than i steps are reached -/
def rt_Out (e : Nat → Nat → Bool) (h0 : Nat) (i : Nat) (s : Int32) : Prop := 1 ≤ i ∧ (∀ i, 18 ≤ i → bt s i = false) ∧ (∀ g, g < 18 → bt s g = true → rt_R e g h0) ∧ (∀ k, k < i → ∀ g, g < 18 → rt_P e k g h0 → bt s g = true)
theorem rt_Out_L {e : Nat → Nat → Bool} {h0 : Nat} {s : Int32} (hh : h0 < 18) (I : rt_Out e h0 18 s) : rt_isL e h0 s :=
  rt_isL_of hh I.2.1 I.2.2.1 (fun k hk => I.2.2.2 k (by omega))
theorem rt_Out_1 (e : Nat → Nat → Bool) {h0 : Nat} (hh : h0 < 18) : rt_Out e h0 1 ((1 : Int32) <<< (nI h0 &&& 31)) := by
  refine ⟨Nat.le_refl 1, ?_, ?_, ?_⟩
  · intro i hi
    rcases Nat.lt_or_ge i 32 with c | c
    · rw [rt_sb (by omega) c, decide_eq_false (by omega)]
    · exact b_big c
  · intro g hg w
    rw [rt_sb (by omega) (by omega)] at w
    have w2 : g = h0 := of_decide_eq_true w
    subst w2
    exact rt_Rrefl e g
  · intro k hk g hg w
    have k0 : k = 0 := by omega
    subst k0
    have w2 : g = h0 := w
    rw [rt_sb (by omega) (by omega), decide_eq_true w2]
theorem rt_Out_s {e : Nat → Nat → Bool} {h0 i : Nat} {b s : Int32} (hh : h0 < 18) (I : rt_Out e h0 i b) (H : rt_In e h0 b 18 s) : rt_Out e h0 (i + 1) s := by
  obtain ⟨i0, i1, i2, i3⟩ := I
  obtain ⟨n1, n2, n3, n4⟩ := H
  refine ⟨by omega, n1, n2, ?_⟩
  intro k hk g hg w
  cases k with
  | zero => exact n3 g (i3 0 (by omega) g hg w)
  | succ k =>
    obtain ⟨m, hm, w1, w2⟩ := rt_front k g h0 hh w
    exact n4 m hm (i3 k (by omega) m hm w2) g hg w1
theorem rt_Out_c {e : Nat → Nat → Bool} {h0 i : Nat} {b : Int32} (hh : h0 < 18) (I : rt_Out e h0 i b) (H : rt_In e h0 b 18 b) : rt_isL e h0 b := by
  obtain ⟨i0, i1, i2, i3⟩ := I
  obtain ⟨n1, n2, n3, n4⟩ := H
  have all : ∀ k g, g < 18 → rt_P e k g h0 → bt b g = true := by
    intro k
    induction k with
    | zero => intro g hg w; exact i3 0 (by omega) g hg w
    | succ k ih =>
      intro g hg w
      obtain ⟨m, hm, w1, w2⟩ := rt_front k g h0 hh w
      exact n4 m hm (ih m hm w2) g hg w1
  exact rt_isL_of hh i1 i2 (fun k _ => all k)
theorem rt_x7 {post : Int32 → Prop} {fn : Int32} {P G R S : Nat → Int32} (hG : rt_Z 18 G) (hR : rt_Z 3 R) (hRS : rt_RS R S) {t h0 : Nat} (ht : t < 8) (hh : h0 < 18) (s : Int32) (I : rt_Out (rt_e G S t) h0 1 s) (H : ∀ r, rt_isL (rt_e G S t) h0 r → post r) : ∃ n, wX_groupsLeadingTo_7 post (nI t) fn P G R n s 1 := by
  refine pk_loop (fun n i s => wX_groupsLeadingTo_7 post (nI t) fn P G R n s (nI i)) (fun i s => rt_Out (rt_e G S t) h0 i s) 18 1 s (by omega) I ?_ ?_
  · intro n s I
    exact br_t (nI_le (a := 18) (b := 18) (by omega) (by decide)) (H s (rt_Out_L hh I))
  · intro n i s hi I K
    refine br_f (nI_ge (b := 18) hi (by decide)) (rt_x20 (h0 := h0) hG hR hRS ht ⟨I.2.1, I.2.2.1, fun _ w => w, fun h z => absurd z (Nat.not_lt_zero h)⟩ (fun s' I' => br_c (fun e => ?_) (fun _ => ?_)))
    · subst e
      exact H _ (rt_Out_c hh I I')
    · exact nm_r (nI_1 i) (K _ (rt_Out_s hh I I'))
theorem rt_xlead {post : Int32 → Prop} {fn : Int32} {P G R S : Nat → Int32} (hG : rt_Z 18 G) (hR : rt_Z 3 R) (hRS : rt_RS R S) {t h0 : Nat} (ht : t < 8) (hh : h0 < 18) (H : ∀ r, rt_isL (rt_e G S t) h0 r → post r) : wpX_groupsLeadingTo post (fn, P, G, R) (nI t) (nI h0) := by
  unfold wpX_groupsLeadingTo
  dsimp only
  exact nm_e (rt_x7 hG hR hRS ht hh _ (rt_Out_1 _ hh) H)
/-- the persons of a slot -/
def rt_p (P : Nat → Int32) (t : Nat) : Nat → Int32 := fun g => P (18 * t + g)
theorem rt_x13 {post : Int32 → Prop} {fn L : Int32} {P G R : Nat → Int32} {e : Nat → Nat → Bool} {t h0 : Nat} (ht : t < 8) (hL : rt_isL e h0 L) (H : ∀ r, rt_isQ e (rt_p P t) h0 r → post r) : ∃ n, wX_personsOf_13 post (nI t) L fn P G R n 0 0 := by
  refine loop_0 (fun n i s => wX_personsOf_13 post (nI t) L fn P G R n s (nI i)) (fun i s => ∀ b, b < 32 → (bt s b = true ↔ ∃ g, g < i ∧ rt_R e g h0 ∧ bt (rt_p P t g) b = true)) 18 0 ?_ ?_ ?_
  · intro b _
    rw [b_0]
    exact ⟨(fun z => nomatch z), fun ⟨g, hg, _⟩ => absurd hg (Nat.not_lt_zero g)⟩
  · intro n s I
    exact br_t (nI_le (a := 18) (b := 18) (by omega) (by decide)) (H s (fun b hb => rt_beq ((I b hb).trans rt_q_iff.symm)))
  · intro n i s hi I K
    refine br_f (nI_ge (b := 18) hi (by decide)) (rt_br i (by omega) (fun hb => ?_) (fun hb => ?_))
    · refine ⟨pk_in (18 * t + i) 144 (by omega) (rt_ix18 t i), nm_e (nm_r (nI_1 i) (K _ ?_))⟩
      rw [rt_ix18, nI_clamp (by omega)]
      intro b hb2
      rw [b_or, Bool.or_eq_true, I b hb2]
      have hr : rt_R e i h0 := ((hL i (by omega)).mp hb).2
      constructor
      · rintro (⟨g, hg, w⟩ | w)
        · exact ⟨g, by omega, w⟩
        · exact ⟨i, by omega, hr, w⟩
      · rintro ⟨g, hg, w, w2⟩
        by_cases c : g = i
        · subst c; exact Or.inr w2
        · exact Or.inl ⟨g, by omega, w, w2⟩
    · refine nm_r (nI_1 i) (K _ ?_)
      intro b hb2
      rw [I b hb2]
      constructor
      · rintro ⟨g, hg, w⟩
        exact ⟨g, by omega, w⟩
      · rintro ⟨g, hg, w, w2⟩
        by_cases c : g = i
        · subst c
          have z := (hL g (by omega)).mpr ⟨hi, w⟩
          rw [hb] at z; cases z
        · exact ⟨g, by omega, w, w2⟩
theorem rt_xper {post : Int32 → Prop} {fn : Int32} {P G R S : Nat → Int32} (hG : rt_Z 18 G) (hR : rt_Z 3 R) (hRS : rt_RS R S) {t h0 : Nat} (ht : t < 8) (hh : h0 < 18) (H : ∀ r, rt_isQ (rt_e G S t) (rt_p P t) h0 r → post r) : wpX_personsOf post (fn, P, G, R) (nI t) (nI h0) := by
  unfold wpX_personsOf
  dsimp only
  exact rt_xlead hG hR hRS ht hh (fun r hr => rt_x13 ht hr H)
end
section
/-! the reference's walks over one slot, against the pure picture -/
theorem rt_yin {post : Int32 → Prop} {fn : Int32} {P G S M : Nat → Int32} {x : Int32} {p : Nat} (hp : p < 32) (h1 : bt x p = true → post 1) (h0 : bt x p = false → post 0) : wpY_in post (fn, P, G, S, M) x (nI p) :=
  rt_br p hp h1 h0
theorem rt_ypass {post : Int32 → Prop} {fn : Int32} {P G S M : Nat → Int32} {t g h : Nat} (ht : t < 8) (hg : g < 18) (hh : h < 18) (h1 : rt_e G S t g h = true → post 1) (h0 : rt_e G S t g h = false → post 0) : wpY_passes post (fn, P, G, S, M) (nI t) (nI g) (nI h) := by
  unfold rt_e at h1 h0
  unfold wpY_passes
  dsimp only
  refine ⟨pk_in (18 * t + h) 144 (by omega) (rt_iy18 t h), ?_⟩
  rw [rt_iy18, nI_clamp (n := 18 * t + h) (by omega)]
  refine rt_yin (by omega) (fun a => ?_) (fun a => ?_)
  · rw [a, Bool.true_or] at h1
    exact br_f (by decide) (h1 rfl)
  · rw [a, Bool.false_or] at h1 h0
    refine br_t rfl ⟨by decide, by decide, pk_eq (g / 3) (h / 3) (fun c => ?_) (fun c => ?_) (rt_div3 (by omega)) (rt_div3 (by omega)) (by omega) (by omega)⟩
    · rw [decide_eq_true c, Bool.true_and] at h1 h0
      refine ⟨pk_in t 8 ht, by decide, by decide, ?_⟩
      rw [rt_rem3 (by omega), rt_rem3 (by omega), rt_iy3, nI_clamp (n := t) (by omega)]
      exact rt_yin (by omega) (fun b => br_f (by decide) (h1 b)) (fun b => br_t rfl (h0 b))
    · rw [decide_eq_false c, Bool.false_and] at h0
      exact h0 rfl
/-! sources -/
def rt_Im (e : Nat → Nat → Bool) (h0 : Nat) (b : Int32) (j : Nat) (s : Int32) : Prop := (∀ i, 18 ≤ i → bt s i = false) ∧ (∀ g, g < 18 → bt s g = true → rt_R e g h0) ∧ (∀ i, bt b i = true → bt s i = true) ∧ (∀ c, c < j → bt b (c % 18) = true → e (c / 18) (c % 18) = true → bt s (c / 18) = true)
theorem rt_ImT {e : Nat → Nat → Bool} {h0 : Nat} {b : Int32} {j : Nat} {s : Int32} (hj : j < 324) (I : rt_Im e h0 b j s) (hb : bt s (j % 18) = true) (he : e (j / 18) (j % 18) = true) : rt_Im e h0 b (j + 1) (s ||| ((1 : Int32) <<< (nI (j / 18) &&& 31))) := by
  obtain ⟨i1, i2, i3, i4⟩ := I
  refine ⟨?_, ?_, ?_, ?_⟩
  · intro i hi
    rcases Nat.lt_or_ge i 32 with c | c
    · rw [rt_on (by omega) s c, i1 i hi, decide_eq_false (by omega), Bool.or_false]
    · exact b_big c
  · intro g hg w
    rw [rt_on (by omega) s (by omega), Bool.or_eq_true] at w
    rcases w with w | w
    · exact i2 g hg w
    · have w2 : g = j / 18 := of_decide_eq_true w
      subst w2
      exact rt_Rcons hg he (i2 (j % 18) (by omega) hb)
  · intro i w
    rw [b_or, i3 i w, Bool.true_or]
  · intro c hc w w2
    by_cases d : c = j
    · subst d
      rw [rt_on (by omega) s (by omega), decide_eq_true rfl, Bool.or_true]
    · rw [b_or, i4 c (by omega) w w2, Bool.true_or]
theorem rt_ImF {e : Nat → Nat → Bool} {h0 : Nat} {b : Int32} {j : Nat} {s : Int32} (I : rt_Im e h0 b j s) (hb : bt s (j % 18) = false ∨ e (j / 18) (j % 18) = false) : rt_Im e h0 b (j + 1) s := by
  obtain ⟨i1, i2, i3, i4⟩ := I
  refine ⟨i1, i2, i3, ?_⟩
  intro c hc w w2
  by_cases d : c = j
  · subst d
    rcases hb with hb | hb
    · rw [i3 _ w] at hb; cases hb
    · rw [w2] at hb; cases hb
  · exact i4 c (by omega) w w2
theorem rt_ImE {e : Nat → Nat → Bool} {h0 : Nat} {b s : Int32} (I : rt_Im e h0 b 324 s) : rt_In e h0 b 18 s := by
  obtain ⟨i1, i2, i3, i4⟩ := I
  refine ⟨i1, i2, i3, ?_⟩
  intro h hh w g hg w2
  have c1 : (18 * g + h) % 18 = h := by omega
  have c2 : (18 * g + h) / 18 = g := by omega
  have z := i4 (18 * g + h) (by omega)
  rw [c1, c2] at z
  exact z w w2
theorem rt_y52 {post : Int32 → Prop} {J42 : Int32 → Int32 → Prop} {x5 fn : Int32} {P G S M : Nat → Int32} {t h0 : Nat} {b : Int32} (ht : t < 8) (I0 : rt_Im (rt_e G S t) h0 b 0 b) (H : ∀ s, rt_Im (rt_e G S t) h0 b 324 s → J42 s (x5 + 1)) : ∃ n, wY_sources_52 post J42 (nI t) x5 fn P G S M n b 0 := by
  refine loop_0 (fun n i s => wY_sources_52 post J42 (nI t) x5 fn P G S M n s (nI i)) (fun i s => rt_Im (rt_e G S t) h0 b i s) 324 b I0 ?_ ?_
  · intro n s I
    exact br_t (nI_le (a := 324) (b := 324) (by omega) (by decide)) (nm_e (H s I))
  · intro n i s hi I K
    refine br_f (nI_ge (b := 324) hi (by decide)) ⟨by decide, ?_⟩
    rw [rt_rem18 (by omega), rt_div18 (by omega)]
    refine rt_yin (by omega) (fun a => ?_) (fun a => ?_)
    · refine br_f (by decide) ⟨by decide, by decide, rt_ypass ht (by omega) (by omega) (fun c => ?_) (fun c => ?_)⟩
      · exact br_f (by decide) ⟨by decide, nm_e (nm_r (nI_1 i) (K _ (rt_ImT hi I a c)))⟩
      · exact br_t rfl (nm_r (nI_1 i) (K _ (rt_ImF I (Or.inr c))))
    · exact br_t rfl (nm_r (nI_1 i) (K _ (rt_ImF I (Or.inl a))))
theorem rt_y42 {post : Int32 → Prop} {fn : Int32} {P G S M : Nat → Int32} {t h0 : Nat} (ht : t < 8) (hh : h0 < 18) (s : Int32) (I : rt_Out (rt_e G S t) h0 1 s) (H : ∀ r, rt_isL (rt_e G S t) h0 r → post r) : ∃ n, wY_sources_42 post (nI t) fn P G S M n s 0 := by
  refine loop_0 (fun n i s => wY_sources_42 post (nI t) fn P G S M n s (nI i)) (fun i s => rt_Out (rt_e G S t) h0 (i + 1) s) 18 s I ?_ ?_
  · intro n s I
    exact br_t (nI_le (a := 18) (b := 18) (by omega) (by decide)) (H s (rt_isL_of hh I.2.1 I.2.2.1 (fun k hk => I.2.2.2 k (by omega))))
  · intro n i s hi I K
    refine br_f (nI_ge (b := 18) hi (by decide)) (rt_y52 (h0 := h0) ht ⟨I.2.1, I.2.2.1, fun _ w => w, fun h z => absurd z (Nat.not_lt_zero h)⟩ (fun s' I' => ?_))
    rw [nI_1]
    exact K _ (rt_Out_s hh I (rt_ImE I'))
/-! addAll -/
def rt_Ia (e : Nat → Nat → Bool) (p B : Nat → Int32) (j : Nat) (m : Nat → Int32) : Prop := (∀ h, h < 18 → ∀ i, bt (m h) i = true → ∃ g, g < 18 ∧ rt_R e g h ∧ bt (p g) i = true) ∧ (∀ h i, bt (B h) i = true → bt (m h) i = true) ∧ (∀ c, c < j → e (c / 18) (c % 18) = true → ∀ i, bt (B (c / 18)) i = true → bt (m (c % 18)) i = true)
theorem rt_IaF {e : Nat → Nat → Bool} {p B m : Nat → Int32} {j : Nat} (I : rt_Ia e p B j m) (he : e (j / 18) (j % 18) = false) : rt_Ia e p B (j + 1) m := by
  obtain ⟨i1, i2, i3⟩ := I
  refine ⟨i1, i2, ?_⟩
  intro c hc w i w2
  by_cases d : c = j
  · subst d; rw [w] at he; cases he
  · exact i3 c (by omega) w i w2
theorem rt_upd_or {m : Nat → Int32} {a b h i : Nat} (w : bt (m h) i = true) : bt (upd m a (m a ||| m b) h) i = true := by
  by_cases d : h = a
  · subst d; rw [pk_us, b_or, w, Bool.true_or]
  · rw [pk_un d]; exact w
theorem rt_IaT {e : Nat → Nat → Bool} {p B m : Nat → Int32} {j : Nat} (hj : j < 324) (I : rt_Ia e p B j m) (he : e (j / 18) (j % 18) = true) : rt_Ia e p B (j + 1) (upd m (j % 18) (m (j % 18) ||| m (j / 18))) := by
  obtain ⟨i1, i2, i3⟩ := I
  refine ⟨?_, ?_, ?_⟩
  · intro h hh i w
    by_cases d : h = j % 18
    · subst d
      rw [pk_us, b_or, Bool.or_eq_true] at w
      rcases w with w | w
      · exact i1 _ hh i w
      · obtain ⟨g, hg, w1, w2⟩ := i1 (j / 18) (by omega) i w
        exact ⟨g, hg, rt_Rsnoc (by omega) w1 he, w2⟩
    · rw [pk_un d] at w
      exact i1 h hh i w
  · intro h i w
    exact rt_upd_or (i2 h i w)
  · intro c hc w i w2
    by_cases d : c = j
    · subst d
      rw [pk_us, b_or, i2 _ i w2, Bool.or_true]
    · exact rt_upd_or (i3 c (by omega) w i w2)
theorem rt_y47 {post : SY → Prop} {J38 : Int32 → (Nat → Int32) → (Nat → Int32) → (Nat → Int32) → (Nat → Int32) → Prop} {x3 fn : Int32} {P G S : Nat → Int32} {p B : Nat → Int32} {t : Nat} (ht : t < 8) (I0 : rt_Ia (rt_e G S t) p B 0 B) (H : ∀ m, rt_Ia (rt_e G S t) p B 324 m → J38 (x3 + 1) P G S m) : ∃ n, wY_addAll_47 post J38 (nI t) x3 fn n 0 P G S B := by
  refine loop_0 (fun n i m => wY_addAll_47 post J38 (nI t) x3 fn n (nI i) P G S m) (fun i m => rt_Ia (rt_e G S t) p B i m) 324 B I0 ?_ ?_
  · intro n m I
    exact br_t (nI_le (a := 324) (b := 324) (by omega) (by decide)) (nm_e (H m I))
  · intro n i m hi I K
    refine br_f (nI_ge (b := 324) hi (by decide)) ⟨by decide, by decide, ?_⟩
    rw [rt_rem18 (by omega), rt_div18 (by omega)]
    refine rt_ypass ht (by omega) (by omega) (fun c => ?_) (fun c => ?_)
    · refine br_f (by decide) ⟨by decide, by decide, pk_in (i % 18) 18 (by omega), by decide, pk_in (i / 18) 18 (by omega), pk_in (i % 18) 18 (by omega), ?_⟩
      rw [nI_clamp (by omega), nI_clamp (by omega)]
      exact nm_e (nm_r (nI_1 i) (K _ (rt_IaT hi I c)))
    · exact br_t rfl (nm_r (nI_1 i) (K _ (rt_IaF I c)))
/-- after i rounds -/
def rt_Oa (e : Nat → Nat → Bool) (p : Nat → Int32) (i : Nat) (m : Nat → Int32) : Prop := (∀ h, h < 18 → ∀ i, bt (m h) i = true → ∃ g, g < 18 ∧ rt_R e g h ∧ bt (p g) i = true) ∧ (∀ k, k ≤ i → ∀ g, g < 18 → ∀ h, h < 18 → rt_P e k g h → ∀ b, bt (p g) b = true → bt (m h) b = true)
theorem rt_Oa_s {e : Nat → Nat → Bool} {p B m : Nat → Int32} {i : Nat} (I : rt_Oa e p i B) (H : rt_Ia e p B 324 m) : rt_Oa e p (i + 1) m := by
  obtain ⟨_, o2⟩ := I
  obtain ⟨i1, i2, i3⟩ := H
  refine ⟨i1, ?_⟩
  intro k hk g hg h hh w b w2
  cases k with
  | zero => exact i2 h b (o2 0 (by omega) g hg h hh w b w2)
  | succ k =>
    obtain ⟨q, hq, w3, w4⟩ := w
    have c1 : (18 * q + h) % 18 = h := by omega
    have c2 : (18 * q + h) / 18 = q := by omega
    have z := i3 (18 * q + h) (by omega)
    rw [c1, c2] at z
    exact z w4 b (o2 k (by omega) g hg q hq w3 b w2)
theorem rt_Oa_Q {e : Nat → Nat → Bool} {p m : Nat → Int32} (I : rt_Oa e p 18 m) : ∀ h, h < 18 → rt_isQ e p h (m h) := by
  intro h hh i _
  refine rt_beq (Iff.trans ?_ rt_q_iff.symm)
  constructor
  · exact I.1 h hh i
  · rintro ⟨g, hg, w, w2⟩
    obtain ⟨k, hk, w3⟩ := rt_short hg hh w
    exact I.2 k (by omega) g hg h hh w3 i w2
theorem rt_y38 {post : SY → Prop} {fn : Int32} {P G S : Nat → Int32} {p : Nat → Int32} {t : Nat} (ht : t < 8) (m : Nat → Int32) (I : rt_Oa (rt_e G S t) p 0 m) (H : ∀ m, (∀ h, h < 18 → rt_isQ (rt_e G S t) p h (m h)) → post (fn, P, G, S, m)) : ∃ n, wY_addAll_38 post (nI t) fn n 0 P G S m := by
  refine loop_0 (fun n i m => wY_addAll_38 post (nI t) fn n (nI i) P G S m) (fun i m => rt_Oa (rt_e G S t) p i m) 18 m I ?_ ?_
  · intro n m I
    exact br_t (nI_le (a := 18) (b := 18) (by omega) (by decide)) (H m (rt_Oa_Q I))
  · intro n i m hi I K
    refine br_f (nI_ge (b := 18) hi (by decide)) (rt_y47 (p := p) ht ⟨I.1, fun _ _ w => w, fun h z => absurd z (Nat.not_lt_zero h)⟩ (fun m' I' => ?_))
    rw [nI_1]
    exact K _ (rt_Oa_s I I')
theorem rt_y7 {post : SY → Prop} {fn : Int32} {P G S M : Nat → Int32} {t : Nat} (ht : t < 8) (H : ∀ m, (∀ h, h < 18 → rt_isQ (rt_e G S t) (rt_p P t) h (m h)) → post (fn, P, G, S, m)) : ∃ n, wY_addAll_7 post (nI t) fn n 0 P G S M := by
  refine loop_0 (fun n i m => wY_addAll_7 post (nI t) fn n (nI i) P G S m) (fun i m => ∀ h, h < i → m h = rt_p P t h) 18 M (fun h z => absurd z (Nat.not_lt_zero h)) ?_ ?_
  · intro n m I
    refine br_t (nI_le (a := 18) (b := 18) (by omega) (by decide)) (rt_y38 (p := rt_p P t) ht m ⟨?_, ?_⟩ H)
    · intro h hh i w
      rw [I h hh] at w
      exact ⟨h, hh, rt_Rrefl _ h, w⟩
    · intro k hk g hg h hh w b w2
      have k0 : k = 0 := by omega
      subst k0
      have w3 : g = h := w
      subst w3
      rw [I g hg]; exact w2
  · intro n i m hi I K
    refine br_f (nI_ge (b := 18) hi (by decide)) ⟨pk_in (18 * t + i) 144 (by omega) (rt_iy18 t i), pk_in i 18 hi, ?_⟩
    rw [rt_iy18, nI_clamp (by omega), nI_clamp (by omega)]
    refine nm_e (nm_r (nI_1 i) (K _ ?_))
    intro h hh
    by_cases d : h = i
    · subst d; rw [pk_us]; rfl
    · rw [pk_un d]; exact I h (by omega)
theorem rt_yadd {post : SY → Prop} {fn : Int32} {P G S M : Nat → Int32} {st : Nat} (hs : st < 2 ^ 31) (H : ∀ m, (∀ h, h < 18 → rt_isQ (rt_e G S (st % 8)) (rt_p P (st % 8)) h (m h)) → post (fn, P, G, S, m)) : wpY_addAll post (fn, P, G, S, M) (nI st) := by
  unfold wpY_addAll
  dsimp only
  exact ⟨by decide, nm_r (rt_rem8 hs) (rt_y7 (by omega) H)⟩
end
section
/-! which states are kept; check, members, sources -/
theorem rt_st (n : Nat) (hn : n < 2 ^ 30) (p : Int32) : (p < 0 ∨ nI n < p) ∨ ∃ t : Nat, t ≤ n ∧ p = nI t := by
  by_cases c : p < 0
  · exact Or.inl (Or.inl c)
  · obtain ⟨j, hj, rfl⟩ := nI_of c
    by_cases d : j ≤ n
    · exact Or.inr ⟨j, d, rfl⟩
    · exact Or.inl (Or.inr (nI_lt (by omega) hj))
theorem rt_xf0 {post : Int32 → Prop} {n : Nat} {p : Int32} {P G R : Nat → Int32} (h : p < 0 ∨ nI n < p) (a : post (-1)) : wpX_faultOf post (nI n, P, G, R) p := by
  by_cases c : p < 0
  · exact br_t c a
  · exact br_f c (br_f (Int32.not_le.mpr (h.resolve_left c)) a)
theorem rt_xf2 {post : Int32 → Prop} {n t : Nat} {P G R : Nat → Int32} (hn : n < 2 ^ 30) (ht : t ≤ n) (h : nI t ≤ nI n - 8) (a : post (-2)) : wpX_faultOf post (nI n, P, G, R) (nI t) :=
  br_f (nI_pos (by omega)) (br_t (nI_le ht (by omega)) (br_f (Int32.not_lt.mpr h) a))
theorem rt_xf1 {post : Int32 → Prop} {n t : Nat} {P G R : Nat → Int32} (hn : n < 2 ^ 30) (ht : t ≤ n) (h : ¬ nI t ≤ nI n - 8) (a : post 0) : wpX_faultOf post (nI n, P, G, R) (nI t) :=
  br_f (nI_pos (by omega)) (br_t (nI_le ht (by omega)) (br_t (Int32.not_le.mp h) a))
theorem rt_xfa {post : Int32 → Prop} {fn : Int32} {p : Int32} {P G R : Nat → Int32} (H : ∀ r, post r) : wpX_faultOf post (fn, P, G, R) p :=
  ⟨fun _ => H _, fun _ => ⟨fun _ => ⟨fun _ => H _, fun _ => H _⟩, fun _ => H _⟩⟩
theorem rt_ye0 {post : Int32 → Prop} {n : Nat} {p : Int32} {P G S M : Nat → Int32} (h : p < 0 ∨ nI n < p) (a : post 0) : wpY_exists post (nI n, P, G, S, M) p := by
  by_cases c : p < 0
  · exact br_t c a
  · exact br_f c (br_t (h.resolve_left c) a)
theorem rt_ye1 {post : Int32 → Prop} {n t : Nat} {P G S M : Nat → Int32} (hn : n < 2 ^ 30) (ht : t ≤ n) (a : post 1) : wpY_exists post (nI n, P, G, S, M) (nI t) :=
  br_f (nI_pos (by omega)) (br_f (nI_nlt ht (by omega)) a)
theorem rt_yk0 {post : Int32 → Prop} {n t : Nat} {P G S M : Nat → Int32} (hn : n < 2 ^ 30) (ht : t ≤ n) (h : nI t ≤ nI n - 8) (a : post 0) : wpY_isKept post (nI n, P, G, S, M) (nI t) := by
  unfold wpY_isKept
  dsimp only
  exact rt_ye1 hn ht (br_f (by decide) (br_t h a))
theorem rt_yk1 {post : Int32 → Prop} {n t : Nat} {P G S M : Nat → Int32} (hn : n < 2 ^ 30) (ht : t ≤ n) (h : ¬ nI t ≤ nI n - 8) (a : post 1) : wpY_isKept post (nI n, P, G, S, M) (nI t) := by
  unfold wpY_isKept
  dsimp only
  exact rt_ye1 hn ht (br_f (by decide) (br_f h a))
/-- person i belongs to group h in state st -/
noncomputable def rt_b (P G S : Nat → Int32) (st h i : Nat) : Bool := rt_q (rt_e G S (st % 8)) (rt_p P (st % 8)) h i
theorem rt_ycheck {post : Int32 → SY → Prop} {n st p g : Nat} {P G S M : Nat → Int32} (hn : n < 2 ^ 30) (ht : st ≤ n) (h : ¬ nI st ≤ nI n - 8) (hp : p < 6) (hg : g < 18) (H : ∀ m, post (nI (rt_b P G S st g p).toNat) (nI n, P, G, S, m)) : wpY_check post (nI n, P, G, S, M) (nI st) (nI p) (nI g) := by
  unfold wpY_check
  dsimp only
  refine rt_yp1 hp (br_f (by decide) (rt_yg1 hg (br_f (by decide) (rt_ye1 hn ht (br_f (by decide) (rt_yk1 hn ht h (br_f (by decide) (rt_yadd (by omega) (fun m hm => ?_)))))))))
  refine ⟨pk_in g 18 hg, ?_⟩
  rw [nI_clamp (n := g) (by omega)]
  have e : bt (m g) p = rt_b P G S st g p := hm g hg p (by omega)
  have H1 := H m
  refine rt_yin (by omega) (fun a => ?_) (fun a => ?_)
  · rw [← e, a] at H1
    exact br_f (by decide) H1
  · rw [← e, a] at H1
    exact br_t rfl H1
theorem rt_xcheck {post : Int32 → Prop} {n st p g : Nat} {P G R S : Nat → Int32} (hG : rt_Z 18 G) (hR : rt_Z 3 R) (hRS : rt_RS R S) (hn : n < 2 ^ 30) (ht : st ≤ n) (h : ¬ nI st ≤ nI n - 8) (hp : p < 6) (hg : g < 18) (H : post (nI (rt_b P G S st g p).toNat)) : wpX_check post (nI n, P, G, R) (nI st) (nI p) (nI g) := by
  unfold wpX_check
  dsimp only
  refine rt_xp1 hp (br_f (by decide) (rt_xg1 hg (br_f (by decide) (rt_xf1 hn ht h (br_t rfl (rt_slot (by omega) (rt_xper hG hR hRS (by omega) hg (fun r hr => ?_))))))))
  rw [rt_bit (by omega), hr p (by omega)]
  exact H
theorem i_vc_check {k : Nat} {u : SX} {v : SY} (I : i_Rel k u v) (hk : k + 4 ≤ 2048) (v1 : Int32) (v2 : Int32) (v3 : Int32) : wpX_check (fun r => wpY_check (fun r' v' => r' = r ∧ i_Rel (k + 4) u v') v v1 v2 v3) u v1 v2 v3 := by
  obtain ⟨n, P, G, R, S, M, rfl, rfl, hk2, hG, hR, hRS⟩ := I
  have J : ∀ m, i_Rel (k + 4) (nI n, P, G, R) (nI n, P, G, S, m) := fun m => ⟨n, P, G, R, S, m, rfl, rfl, by omega, hG, hR, hRS⟩
  have hn : n < 2 ^ 30 := by omega
  rcases rt_rg v2 6 (by decide) with hp | ⟨p, hp, rfl⟩
  · unfold wpX_check wpY_check
    dsimp only
    exact rt_xp0 hp (br_t rfl (rt_yp0 hp (br_t rfl ⟨rfl, J M⟩)))
  rcases rt_rg v3 18 (by decide) with hg | ⟨g, hg, rfl⟩
  · unfold wpX_check wpY_check
    dsimp only
    exact rt_xp1 hp (br_f (by decide) (rt_xg0 hg (br_t rfl (rt_yp1 hp (br_f (by decide) (rt_yg0 hg (br_t rfl ⟨rfl, J M⟩)))))))
  rcases rt_st n hn v1 with hs | ⟨t, ht, rfl⟩
  · unfold wpX_check wpY_check
    dsimp only
    exact rt_xp1 hp (br_f (by decide) (rt_xg1 hg (br_f (by decide) (rt_xf0 hs (br_f (by decide) (rt_yp1 hp (br_f (by decide) (rt_yg1 hg (br_f (by decide) (rt_ye0 hs (br_t rfl ⟨rfl, J M⟩)))))))))))
  by_cases h : nI t ≤ nI n - 8
  · unfold wpX_check wpY_check
    dsimp only
    exact rt_xp1 hp (br_f (by decide) (rt_xg1 hg (br_f (by decide) (rt_xf2 hn ht h (br_f (by decide) (rt_yp1 hp (br_f (by decide) (rt_yg1 hg (br_f (by decide) (rt_ye1 hn ht (br_f (by decide) (rt_yk0 hn ht h (br_t rfl ⟨rfl, J M⟩)))))))))))))
  · exact rt_xcheck hG hR hRS hn ht h hp hg (rt_ycheck hn ht h hp hg (fun m => ⟨rfl, J m⟩))
theorem i_vc_members {k : Nat} {u : SX} {v : SY} (I : i_Rel k u v) (hk : k + 4 ≤ 2048) (v1 : Int32) (v2 : Int32) : wpX_members (fun r => wpY_members (fun r' v' => r' = r ∧ i_Rel (k + 4) u v') v v1 v2) u v1 v2 := by
  obtain ⟨n, P, G, R, S, M, rfl, rfl, hk2, hG, hR, hRS⟩ := I
  have J : ∀ m, i_Rel (k + 4) (nI n, P, G, R) (nI n, P, G, S, m) := fun m => ⟨n, P, G, R, S, m, rfl, rfl, by omega, hG, hR, hRS⟩
  have hn : n < 2 ^ 30 := by omega
  unfold wpX_members wpY_members
  dsimp only
  rcases rt_rg v2 18 (by decide) with hg | ⟨g, hg, rfl⟩
  · exact rt_xg0 hg (br_t rfl (rt_yg0 hg (br_t rfl ⟨rfl, J M⟩)))
  rcases rt_st n hn v1 with hs | ⟨t, ht, rfl⟩
  · exact rt_xg1 hg (br_f (by decide) (rt_xf0 hs (br_f (by decide) (rt_yg1 hg (br_f (by decide) (rt_ye0 hs (br_t rfl ⟨rfl, J M⟩)))))))
  by_cases h : nI t ≤ nI n - 8
  · exact rt_xg1 hg (br_f (by decide) (rt_xf2 hn ht h (br_f (by decide) (rt_yg1 hg (br_f (by decide) (rt_ye1 hn ht (br_f (by decide) (rt_yk0 hn ht h (br_t rfl ⟨rfl, J M⟩)))))))))
  · refine rt_xg1 hg (br_f (by decide) (rt_xf1 hn ht h (br_t rfl (rt_slot (by omega) (rt_xper hG hR hRS (by omega) hg (fun r hr => ?_))))))
    refine rt_yg1 hg (br_f (by decide) (rt_ye1 hn ht (br_f (by decide) (rt_yk1 hn ht h (br_f (by decide) (rt_yadd (by omega) (fun m hm => ?_)))))))
    refine ⟨pk_in g 18 hg, ?_, J m⟩
    rw [nI_clamp (n := g) (by omega)]
    exact rt_isQ_u (hm g hg) hr
theorem i_vc_sources {k : Nat} {u : SX} {v : SY} (I : i_Rel k u v) (hk : k + 4 ≤ 2048) (v1 : Int32) (v2 : Int32) : wpX_sources (fun r => wpY_sources (fun r' => r' = r ∧ i_Rel (k + 4) u v) v v1 v2) u v1 v2 := by
  obtain ⟨n, P, G, R, S, M, rfl, rfl, hk2, hG, hR, hRS⟩ := I
  have J : i_Rel (k + 4) (nI n, P, G, R) (nI n, P, G, S, M) := ⟨n, P, G, R, S, M, rfl, rfl, by omega, hG, hR, hRS⟩
  have hn : n < 2 ^ 30 := by omega
  unfold wpX_sources wpY_sources
  dsimp only
  rcases rt_rg v2 18 (by decide) with hg | ⟨g, hg, rfl⟩
  · exact rt_xg0 hg (br_t rfl (rt_yg0 hg (br_t rfl ⟨rfl, J⟩)))
  rcases rt_st n hn v1 with hs | ⟨t, ht, rfl⟩
  · exact rt_xg1 hg (br_f (by decide) (rt_xf0 hs (br_f (by decide) (rt_yg1 hg (br_f (by decide) (rt_ye0 hs (br_t rfl ⟨rfl, J⟩)))))))
  by_cases h : nI t ≤ nI n - 8
  · exact rt_xg1 hg (br_f (by decide) (rt_xf2 hn ht h (br_f (by decide) (rt_yg1 hg (br_f (by decide) (rt_ye1 hn ht (br_f (by decide) (rt_yk0 hn ht h (br_t rfl ⟨rfl, J⟩)))))))))
  · refine rt_xg1 hg (br_f (by decide) (rt_xf1 hn ht h (br_t rfl (rt_slot (by omega) (rt_xlead hG hR hRS (by omega) hg (fun r hr => ?_))))))
    refine rt_yg1 hg (br_f (by decide) (rt_ye1 hn ht (br_f (by decide) (rt_yk1 hn ht h (br_f (by decide) ⟨by decide, nm_r (rt_rem8 (by omega)) (nm_e ?_)⟩)))))
    exact rt_y42 (by omega) hg _ (rt_Out_1 _ hg) (fun r' hr' => ⟨rt_isL_u hr' hr, J⟩)
end
section
/-! groups -/
/-- r is the set of the groups to which person p belongs in state st -/
def rt_isG (P G S : Nat → Int32) (st p : Nat) (i : Nat) (r : Int32) : Prop := ∀ b, b < 32 → bt r b = (decide (b < i) && rt_b P G S st b p)
theorem rt_qs (q : Bool) {i : Nat} (hi : i < 32) {b : Nat} (hb : b < 32) : bt (nI q.toNat <<< (nI i &&& 31)) b = (q && decide (b = i)) := by
  cases q
  · rw [b_shl i hi _ hb]
    show (decide (i ≤ b) && bt 0 (b - i)) = _
    rw [b_0, Bool.and_false, Bool.false_and]
  · rw [Bool.true_and]
    exact rt_sb hi hb
theorem rt_gs (f : Nat → Bool) (i b : Nat) : ((decide (b < i) && f b) || (f i && decide (b = i))) = (decide (b < i + 1) && f b) := by
  by_cases c : b = i
  · subst c
    rw [decide_eq_false (Nat.lt_irrefl b), decide_eq_true rfl, decide_eq_true (Nat.lt_succ_self b), Bool.false_and, Bool.false_or, Bool.and_true, Bool.true_and]
  · rw [decide_eq_false c, Bool.and_false, Bool.or_false]
    by_cases d : b < i
    · rw [decide_eq_true d, decide_eq_true (by omega)]
    · rw [decide_eq_false d, decide_eq_false (by omega)]
theorem rt_isG0 (P G S : Nat → Int32) (st p : Nat) : rt_isG P G S st p 0 0 := by
  intro b _
  rw [b_0, decide_eq_false (Nat.not_lt_zero b), Bool.false_and]
theorem rt_isGx {P G S : Nat → Int32} {st p i : Nat} {s : Int32} (hi : i < 18) (I : rt_isG P G S st p i s) : rt_isG P G S st p (i + 1) (s ||| (nI (rt_b P G S st i p).toNat <<< (nI i &&& 31))) := by
  intro b hb
  rw [b_or, I b hb, rt_qs _ (by omega) hb]
  exact rt_gs (fun z => rt_b P G S st z p) i b
theorem rt_isGT {P G S : Nat → Int32} {st p i : Nat} {s : Int32} (hi : i < 18) (I : rt_isG P G S st p i s) (h : rt_b P G S st i p = true) : rt_isG P G S st p (i + 1) (s ||| ((1 : Int32) <<< (nI i &&& 31))) := by
  have z := rt_isGx hi I
  rw [h] at z
  exact z
theorem rt_isGF {P G S : Nat → Int32} {st p i : Nat} {s : Int32} (I : rt_isG P G S st p i s) (h : rt_b P G S st i p = false) : rt_isG P G S st p (i + 1) s := by
  intro b hb
  rw [I b hb, ← rt_gs (fun z => rt_b P G S st z p) i b]
  show _ = ((decide (b < i) && rt_b P G S st b p) || (rt_b P G S st i p && decide (b = i)))
  rw [h, Bool.false_and, Bool.or_false]
theorem rt_isG_u {P G S : Nat → Int32} {st p i : Nat} {r r' : Int32} (a : rt_isG P G S st p i r) (b : rt_isG P G S st p i r') : r = r' :=
  b_ext (fun i hi => (a i hi).trans (b i hi).symm)
theorem rt_x33 {post : Int32 → Prop} {fn : Int32} {st p : Nat} {P G R S : Nat → Int32} (hG : rt_Z 18 G) (hR : rt_Z 3 R) (hRS : rt_RS R S) (hp : p < 6) (H : ∀ r, rt_isG P G S st p 18 r → post r) : ∃ n, wX_groups_33 post (nI p) (nI (st % 8)) fn P G R n 0 0 := by
  refine loop_0 (fun n i s => wX_groups_33 post (nI p) (nI (st % 8)) fn P G R n s (nI i)) (fun i s => rt_isG P G S st p i s) 18 0 (rt_isG0 P G S st p) ?_ ?_
  · intro n s I
    exact br_t (nI_le (a := 18) (b := 18) (by omega) (by decide)) (H s I)
  · intro n i s hi I K
    refine br_f (nI_ge (b := 18) hi (by decide)) (rt_xper hG hR hRS (by omega) hi (fun r hr => ?_))
    have e : (r >>> (nI p &&& 31)) &&& 1 = nI (rt_b P G S st i p).toNat := by
      rw [rt_bit (by omega), hr p (by omega)]; rfl
    exact nm_r e (nm_e (nm_r (nI_1 i) (K _ (rt_isGx hi I))))
theorem rt_y39 {post : Int32 → SY → Prop} {fn : Int32} {st p : Nat} {P G S m : Nat → Int32} (hp : p < 6) (hm : ∀ h, h < 18 → rt_isQ (rt_e G S (st % 8)) (rt_p P (st % 8)) h (m h)) (H : ∀ r, rt_isG P G S st p 18 r → post r (fn, P, G, S, m)) : ∃ n, wY_groups_39 post (nI p) fn P G S m n 0 0 := by
  refine loop_0 (fun n i s => wY_groups_39 post (nI p) fn P G S m n s (nI i)) (fun i s => rt_isG P G S st p i s) 18 0 (rt_isG0 P G S st p) ?_ ?_
  · intro n s I
    exact br_t (nI_le (a := 18) (b := 18) (by omega) (by decide)) (H s I)
  · intro n i s hi I K
    refine br_f (nI_ge (b := 18) hi (by decide)) ⟨pk_in i 18 hi, ?_⟩
    rw [nI_clamp (n := i) (by omega)]
    have e : bt (m i) p = rt_b P G S st i p := hm i hi p (by omega)
    refine rt_yin (by omega) (fun a => ?_) (fun a => ?_)
    · exact br_f (by decide) (nm_e (nm_r (nI_1 i) (K _ (rt_isGT hi I (e.symm.trans a)))))
    · exact br_t rfl (nm_r (nI_1 i) (K _ (rt_isGF I (e.symm.trans a))))
theorem rt_ygroups {post : Int32 → SY → Prop} {n st p : Nat} {P G S M : Nat → Int32} (hn : n < 2 ^ 30) (ht : st ≤ n) (h : ¬ nI st ≤ nI n - 8) (hp : p < 6) (H : ∀ m r, rt_isG P G S st p 18 r → post r (nI n, P, G, S, m)) : wpY_groups post (nI n, P, G, S, M) (nI st) (nI p) := by
  unfold wpY_groups
  dsimp only
  exact rt_yp1 hp (br_f (by decide) (rt_ye1 hn ht (br_f (by decide) (rt_yk1 hn ht h (br_f (by decide) (rt_yadd (by omega) (fun m hm => rt_y39 hp hm (H m))))))))
theorem i_vc_groups {k : Nat} {u : SX} {v : SY} (I : i_Rel k u v) (hk : k + 4 ≤ 2048) (v1 : Int32) (v2 : Int32) : wpX_groups (fun r => wpY_groups (fun r' v' => r' = r ∧ i_Rel (k + 4) u v') v v1 v2) u v1 v2 := by
  obtain ⟨n, P, G, R, S, M, rfl, rfl, hk2, hG, hR, hRS⟩ := I
  have J : ∀ m, i_Rel (k + 4) (nI n, P, G, R) (nI n, P, G, S, m) := fun m => ⟨n, P, G, R, S, m, rfl, rfl, by omega, hG, hR, hRS⟩
  have hn : n < 2 ^ 30 := by omega
  unfold wpX_groups
  dsimp only
  rcases rt_rg v2 6 (by decide) with hp | ⟨p, hp, rfl⟩
  · unfold wpY_groups
    dsimp only
    exact rt_xp0 hp (br_t rfl (rt_yp0 hp (br_t rfl ⟨rfl, J M⟩)))
  rcases rt_st n hn v1 with hs | ⟨t, ht, rfl⟩
  · unfold wpY_groups
    dsimp only
    exact rt_xp1 hp (br_f (by decide) (rt_xf0 hs (br_f (by decide) (rt_yp1 hp (br_f (by decide) (rt_ye0 hs (br_t rfl ⟨rfl, J M⟩)))))))
  by_cases h : nI t ≤ nI n - 8
  · unfold wpY_groups
    dsimp only
    exact rt_xp1 hp (br_f (by decide) (rt_xf2 hn ht h (br_f (by decide) (rt_yp1 hp (br_f (by decide) (rt_ye1 hn ht (br_f (by decide) (rt_yk0 hn ht h (br_t rfl ⟨rfl, J M⟩)))))))))
  · exact rt_xp1 hp (br_f (by decide) (rt_xf1 hn ht h (br_t rfl (rt_slot (by omega) (rt_x33 hG hR hRS hp (fun r hr => rt_ygroups hn ht h hp (fun m r' hr' => ⟨rt_isG_u hr' hr, J m⟩)))))))
end
section
/-! changed -/
theorem rt_xcount {post : Int32 → Prop} {x : Int32} (H : post (nI (rt_s (fun p => (bt x p).toNat) 6))) : wpX_countPersons post x := by
  unfold wpX_countPersons
  refine loop_0 (fun n i s => wX_countPersons_4 post x n s (nI i)) (fun i s => s = nI (rt_s (fun p => (bt x p).toNat) i)) 6 0 rfl ?_ ?_
  · intro n s I
    subst I
    exact br_t (nI_le (a := 6) (b := 6) (by omega) (by decide)) H
  · intro n i s hi I K
    subst I
    refine br_f (nI_ge (b := 6) hi (by decide)) (nm_r (e' := nI (rt_s (fun p => (bt x p).toNat) (i + 1))) ?_ (nm_r (nI_1 i) (K _ rfl)))
    rw [rt_bit (by omega), nI_add]
    rfl
/-- one if person p belongs to group g in one of the two states and not in the other -/
noncomputable def rt_d (P G S : Nat → Int32) (s1 s2 g p : Nat) : Nat := (rt_b P G S s1 g p ^^ rt_b P G S s2 g p).toNat
theorem rt_x60 {post : Int32 → Prop} {fn : Int32} {s1 s2 : Nat} {P G R S : Nat → Int32} (hG : rt_Z 18 G) (hR : rt_Z 3 R) (hRS : rt_RS R S) (H : post (nI (rt_s (fun g => rt_s (fun p => rt_d P G S s1 s2 g p) 6) 18))) : ∃ n, wX_changed_60 post (nI (s1 % 8)) (nI (s2 % 8)) fn P G R n 0 0 := by
  refine loop_0 (fun n i s => wX_changed_60 post (nI (s1 % 8)) (nI (s2 % 8)) fn P G R n s (nI i)) (fun i s => s = nI (rt_s (fun g => rt_s (fun p => rt_d P G S s1 s2 g p) 6) i)) 18 0 rfl ?_ ?_
  · intro n s I
    subst I
    exact br_t (nI_le (a := 18) (b := 18) (by omega) (by decide)) H
  · intro n i s hi I K
    subst I
    refine br_f (nI_ge (b := 18) hi (by decide)) (rt_xper hG hR hRS (by omega) hi (fun r hr => rt_xper hG hR hRS (by omega) hi (fun r2 hr2 => nm_e (rt_xcount ?_))))
    have e : rt_s (fun p => (bt (r ^^^ r2) p).toNat) 6 = rt_s (fun p => rt_d P G S s1 s2 i p) 6 := by
      refine rt_s_congr 6 (fun p hp => ?_)
      show (bt (r ^^^ r2) p).toNat = _
      rw [b_xor, hr p (by omega), hr2 p (by omega)]
      rfl
    rw [e]
    refine nm_r (nI_add _ _) (nm_r (nI_1 i) (K _ rfl))
theorem rt_y70 {post : Int32 → SY → Prop} {J42 : Int32 → Int32 → Int32 → (Nat → Int32) → (Nat → Int32) → (Nat → Int32) → (Nat → Int32) → Prop} {x1 x2 x4 r r2 fn : Int32} {P G S m : Nat → Int32} (c : Nat) (H : J42 (nI (c + rt_s (fun g => (bt (r ^^^ r2) g).toNat) 18)) (x4 + 1) fn P G S m) : ∃ n, wY_changed_70 post J42 x1 x2 x4 r r2 fn P G S m n (nI c) 0 := by
  refine loop_0 (fun n i s => wY_changed_70 post J42 x1 x2 x4 r r2 fn P G S m n s (nI i)) (fun i s => s = nI (c + rt_s (fun g => (bt (r ^^^ r2) g).toNat) i)) 18 (nI c) rfl ?_ ?_
  · intro n s I
    subst I
    exact br_t (nI_le (a := 18) (b := 18) (by omega) (by decide)) (nm_e H)
  · intro n i s hi I K
    subst I
    refine br_f (nI_ge (b := 18) hi (by decide)) (rt_yin (by omega) (fun a => ?_) (fun a => ?_))
    · refine br_f (by decide) (nm_r (nI_1 _) (nm_r (nI_1 i) (K _ ?_)))
      show _ = nI (c + (rt_s (fun g => (bt (r ^^^ r2) g).toNat) i + (bt (r ^^^ r2) i).toNat))
      rw [a]; rfl
    · refine br_t rfl (nm_r (nI_1 i) (K _ ?_))
      show _ = nI (c + (rt_s (fun g => (bt (r ^^^ r2) g).toNat) i + (bt (r ^^^ r2) i).toNat))
      rw [a]; rfl
theorem rt_y42c {post : Int32 → SY → Prop} {n s1 s2 : Nat} {P G S M : Nat → Int32} (hn : n < 2 ^ 30) (h1 : s1 ≤ n) (k1 : ¬ nI s1 ≤ nI n - 8) (h2 : s2 ≤ n) (k2 : ¬ nI s2 ≤ nI n - 8) (H : ∀ m, post (nI (rt_s (fun p => rt_s (fun g => rt_d P G S s1 s2 g p) 18) 6)) (nI n, P, G, S, m)) : ∃ f, wY_changed_42 post (nI s1) (nI s2) f 0 0 (nI n) P G S M := by
  refine loop_0 (fun f i (s : Int32 × (Nat → Int32)) => wY_changed_42 post (nI s1) (nI s2) f s.1 (nI i) (nI n) P G S s.2) (fun i s => s.1 = nI (rt_s (fun p => rt_s (fun g => rt_d P G S s1 s2 g p) 18) i)) 6 (0, M) rfl ?_ ?_
  · intro f s I
    obtain ⟨s, m⟩ := s
    have I' : s = _ := I
    subst I'
    exact br_t (nI_le (a := 6) (b := 6) (by omega) (by decide)) (H m)
  · intro f i s hi I K
    obtain ⟨s, m⟩ := s
    have I' : s = _ := I
    subst I'
    refine br_f (nI_ge (b := 6) hi (by decide)) (rt_ygroups hn h1 k1 hi (fun m1 r hr => rt_ygroups hn h2 k2 hi (fun m2 r2 hr2 => rt_y70 _ ?_)))
    have e : rt_s (fun g => (bt (r ^^^ r2) g).toNat) 18 = rt_s (fun g => rt_d P G S s1 s2 g i) 18 := by
      refine rt_s_congr 18 (fun g hg => ?_)
      show (bt (r ^^^ r2) g).toNat = _
      rw [b_xor, hr g (by omega), hr2 g (by omega), decide_eq_true hg, Bool.true_and, Bool.true_and]
      rfl
    rw [e, nI_1]
    exact K (nI (rt_s (fun p => rt_s (fun g => rt_d P G S s1 s2 g p) 18) (i + 1)), m2) rfl
theorem i_vc_changed {k : Nat} {u : SX} {v : SY} (I : i_Rel k u v) (hk : k + 4 ≤ 2048) (v1 : Int32) (v2 : Int32) : wpX_changed (fun r => wpY_changed (fun r' v' => r' = r ∧ i_Rel (k + 4) u v') v v1 v2) u v1 v2 := by
  obtain ⟨n, P, G, R, S, M, rfl, rfl, hk2, hG, hR, hRS⟩ := I
  have J : ∀ m, i_Rel (k + 4) (nI n, P, G, R) (nI n, P, G, S, m) := fun m => ⟨n, P, G, R, S, m, rfl, rfl, by omega, hG, hR, hRS⟩
  have hn : n < 2 ^ 30 := by omega
  unfold wpX_changed wpY_changed
  dsimp only
  rcases rt_st n hn v1 with hs | ⟨s1, h1, rfl⟩
  · exact rt_xf0 hs (rt_xfa (fun r => br_t rfl (rt_ye0 hs (br_t rfl ⟨rfl, J M⟩))))
  rcases rt_st n hn v2 with hs | ⟨s2, h2, rfl⟩
  · by_cases k1 : nI s1 ≤ nI n - 8
    · exact rt_xf2 hn h1 k1 (rt_xf0 hs (br_f (by decide) (br_t rfl (rt_ye1 hn h1 (br_f (by decide) (rt_ye0 hs (br_t rfl ⟨rfl, J M⟩)))))))
    · exact rt_xf1 hn h1 k1 (rt_xf0 hs (br_f (by decide) (br_t rfl (rt_ye1 hn h1 (br_f (by decide) (rt_ye0 hs (br_t rfl ⟨rfl, J M⟩)))))))
  by_cases k1 : nI s1 ≤ nI n - 8
  · by_cases k2 : nI s2 ≤ nI n - 8
    · exact rt_xf2 hn h1 k1 (rt_xf2 hn h2 k2 (br_f (by decide) (br_f (by decide) (br_t rfl (rt_ye1 hn h1 (br_f (by decide) (rt_ye1 hn h2 (br_f (by decide) (rt_yk0 hn h1 k1 (br_t rfl ⟨rfl, J M⟩))))))))))
    · exact rt_xf2 hn h1 k1 (rt_xf1 hn h2 k2 (br_f (by decide) (br_f (by decide) (br_t rfl (rt_ye1 hn h1 (br_f (by decide) (rt_ye1 hn h2 (br_f (by decide) (rt_yk0 hn h1 k1 (br_t rfl ⟨rfl, J M⟩))))))))))
  by_cases k2 : nI s2 ≤ nI n - 8
  · exact rt_xf1 hn h1 k1 (rt_xf2 hn h2 k2 (br_f (by decide) (br_f (by decide) (br_f (by decide) (br_t rfl (rt_ye1 hn h1 (br_f (by decide) (rt_ye1 hn h2 (br_f (by decide) (rt_yk1 hn h1 k1 (br_f (by decide) (rt_yk0 hn h2 k2 (br_t rfl ⟨rfl, J M⟩)))))))))))))
  refine rt_xf1 hn h1 k1 (rt_xf1 hn h2 k2 (br_f (by decide) (br_f (by decide) (br_f (by decide) (br_f (by decide) (rt_slot (by omega) (rt_slot (by omega) (rt_x60 hG hR hRS ?_))))))))
  refine rt_ye1 hn h1 (br_f (by decide) (rt_ye1 hn h2 (br_f (by decide) (rt_yk1 hn h1 k1 (br_f (by decide) (rt_yk1 hn h2 k2 (br_f (by decide) (rt_y42c hn h1 k1 h2 k2 (fun m => ⟨?_, J m⟩)))))))))
  exact congrArg nI (rt_s_comm (fun g p => rt_d P G S s1 s2 g p) 6 18).symm
end
section
/-! since -/
theorem rt_kept {n d : Nat} (hn : n < 2 ^ 30) (hd : d < 8) : ¬ nI (n - d) ≤ nI n - 8 := by
  show ¬ nI (n - d) ≤ nI n - nI 8
  rw [Int32.le_iff_toInt_le, nI_toInt (by omega), pk_sub_toInt hn (by omega)]
  omega
theorem rt_m1 : nI 0 + (-1) < 0 := by decide
theorem rt_since {n p g fr : Nat} {P G R S : Nat → Int32} (hG : rt_Z 18 G) (hR : rt_Z 3 R) (hRS : rt_RS R S) (hn : n < 2 ^ 30) (hp : p < 6) (hg : g < 18) (hf : fr ≤ n) : ∀ d, d ≤ 8 → ∃ r : Int32,
    (∀ post : Int32 → Prop, post r → wX_since_32 post (nI p) (nI g) (nI fr) (nI n) P G R (d + 1) (nI d + (-1))) ∧
    (∀ (post : Int32 → SY → Prop) (M : Nat → Int32), (∀ m, post r (nI n, P, G, S, m)) → wY_since_34 post (nI p) (nI g) (nI fr) (d + 1) (nI d + (-1)) (nI n) P G S M) := by
  intro d
  induction d with
  | zero =>
    intro _
    exact ⟨-3, fun post h => br_t rt_m1 h, fun post M h => br_t rt_m1 (h M)⟩
  | succ d ih =>
    intro hd
    obtain ⟨r, hX, hY⟩ := ih (by omega)
    rw [pk_m1]
    have h0 : ¬ nI d < 0 := nI_pos (by omega)
    by_cases c : nI n - nI d < nI fr
    · exact ⟨r, fun post h => br_f h0 (nm_e (br_t c (nm_e (hX post h)))), fun post M h => br_f h0 (nm_e (br_t c (nm_e (hY post M h))))⟩
    · have hdn : d ≤ n := by
        rcases Nat.lt_or_ge n d with z | z
        · exact absurd (Int32.lt_of_lt_of_le (pk_sneg (by omega) z) (nI_pos' (by omega))) c
        · exact z
      have e := pk_sub hdn
      rw [e] at c
      have hk := rt_kept (d := d) hn (by omega)
      cases q : rt_b P G S (n - d) g p with
      | true =>
        refine ⟨nI (n - d), fun post h => br_f h0 (nm_r e (br_f c (rt_slot (by omega) (rt_xper hG hR hRS (by omega) hg (fun r hr => ?_))))), fun post M h => br_f h0 (nm_r e (br_f c (rt_ycheck hn (by omega) hk hp hg (fun m => ?_))))⟩
        · have w : bt r p = true := (hr p (by omega)).trans q
          exact br_t (rt_bitT (by omega) w) h
        · rw [q]
          exact br_t rfl (h m)
      | false =>
        refine ⟨r, fun post h => br_f h0 (nm_r e (br_f c (rt_slot (by omega) (rt_xper hG hR hRS (by omega) hg (fun r hr => ?_))))), fun post M h => br_f h0 (nm_r e (br_f c (rt_ycheck hn (by omega) hk hp hg (fun m => ?_))))⟩
        · have w : bt r p = false := (hr p (by omega)).trans q
          exact br_f (rt_bitN (by omega) w) (nm_e (hX post h))
        · rw [q]
          exact br_f (by decide) (nm_e (hY post m h))
theorem rt_e7 : nI 8 + (-1) = 7 := by decide
theorem i_vc_since {k : Nat} {u : SX} {v : SY} (I : i_Rel k u v) (hk : k + 4 ≤ 2048) (v1 : Int32) (v2 : Int32) (v3 : Int32) : wpX_since (fun r => wpY_since (fun r' v' => r' = r ∧ i_Rel (k + 4) u v') v v1 v2 v3) u v1 v2 v3 := by
  obtain ⟨n, P, G, R, S, M, rfl, rfl, hk2, hG, hR, hRS⟩ := I
  have J : ∀ m, i_Rel (k + 4) (nI n, P, G, R) (nI n, P, G, S, m) := fun m => ⟨n, P, G, R, S, m, rfl, rfl, by omega, hG, hR, hRS⟩
  have hn : n < 2 ^ 30 := by omega
  unfold wpX_since wpY_since
  dsimp only
  rcases rt_rg v1 6 (by decide) with hp | ⟨p, hp, rfl⟩
  · exact rt_xp0 hp (br_t rfl (rt_yp0 hp (br_t rfl ⟨rfl, J M⟩)))
  rcases rt_rg v2 18 (by decide) with hg | ⟨g, hg, rfl⟩
  · exact rt_xp1 hp (br_f (by decide) (rt_xg0 hg (br_t rfl (rt_yp1 hp (br_f (by decide) (rt_yg0 hg (br_t rfl ⟨rfl, J M⟩)))))))
  rcases rt_st n hn v3 with hs | ⟨fr, hf, rfl⟩
  · by_cases c : v3 < 0
    · exact rt_xp1 hp (br_f (by decide) (rt_xg1 hg (br_f (by decide) (br_t c (rt_yp1 hp (br_f (by decide) (rt_yg1 hg (br_f (by decide) (br_t c ⟨rfl, J M⟩)))))))))
    · have c2 : ¬ v3 ≤ nI n := Int32.not_le.mpr (hs.resolve_left c)
      exact rt_xp1 hp (br_f (by decide) (rt_xg1 hg (br_f (by decide) (br_f c (br_f c2 (rt_yp1 hp (br_f (by decide) (rt_yg1 hg (br_f (by decide) (br_f c (br_f c2 ⟨rfl, J M⟩)))))))))))
  · have c : ¬ nI fr < 0 := nI_pos (by omega)
    have c2 : nI fr ≤ nI n := nI_le hf (by omega)
    obtain ⟨r, hX, hY⟩ := rt_since (P := P) hG hR hRS hn hp hg hf 8 (by omega)
    rw [rt_e7] at hX hY
    exact rt_xp1 hp (br_f (by decide) (rt_xg1 hg (br_f (by decide) (br_f c (br_t c2 ⟨_, hX _ (rt_yp1 hp (br_f (by decide) (rt_yg1 hg (br_f (by decide) (br_f c (br_t c2 ⟨_, hY _ M (fun m => ⟨rfl, J m⟩)⟩))))))⟩)))))
end
