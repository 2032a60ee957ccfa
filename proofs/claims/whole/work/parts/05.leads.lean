/-! the component's walks over one slot, against the pure picture -/
/-- the step from g to h in slot t -/
def rt_e (G S : Nat → Int32) (t g h : Nat) : Bool := bt (G (18 * t + h)) g || (decide (g / 3 = h / 3) && bt (S t) (3 * (g % 3) + h % 3))
theorem rt_step_bits {G R S : Nat → Int32} (hG : rt_Z 18 G) (hR : rt_Z 3 R) (hRS : rt_RS R S) {t h : Nat} (ht : t < 8) (hh : h < 18) {i : Nat} (hi : i < 32) : bt (G (18 * t + h) ||| (R (3 * t + h % 3) <<< (nI (h - h % 3) &&& 31))) i = (decide (i < 18) && rt_e G S t i h) := by
  rw [b_or, b_shl (h - h % 3) (by omega) _ hi]
  unfold rt_e
  by_cases c : i < 18
  · rw [decide_eq_true c, Bool.true_and]
    refine congrArg (fun z => (bt (G (18 * t + h)) i || z)) ?_
    by_cases d : i / 3 = h / 3
    · rw [decide_eq_true d, decide_eq_true (by omega), Bool.true_and, Bool.true_and, show i - (h - h % 3) = i % 3 by omega]
      exact hRS t ht (i % 3) (by omega) (h % 3) (by omega)
    · rw [decide_eq_false d, Bool.false_and]
      by_cases l : h - h % 3 ≤ i
      · rw [hR _ _ (by omega), Bool.and_false]
      · rw [decide_eq_false l, Bool.false_and]
  · rw [decide_eq_false c, Bool.false_and, hG _ _ (by omega), hR _ _ (by omega), Bool.and_false, Bool.or_false]
theorem rt_xstep {post : Int32 → Prop} {fn : Int32} {P G R S : Nat → Int32} (hG : rt_Z 18 G) (hR : rt_Z 3 R) (hRS : rt_RS R S) {t h : Nat} (ht : t < 8) (hh : h < 18) (H : ∀ r, (∀ i, i < 32 → bt r i = (decide (i < 18) && rt_e G S t i h)) → post r) : wpX_groupsOneStepBefore post (fn, P, G, R) (nI t) (nI h) := by
  unfold wpX_groupsOneStepBefore
  dsimp only
  refine ⟨by decide, nm_r (rt_rem3 (by omega)) (nm_r (pk_sub (Nat.mod_le h 3)) ⟨pk_in (3 * t + h % 3) 24 (by omega) (rt_ix3 _ _), nm_e ⟨pk_in (18 * t + h) 144 (by omega) (rt_ix18 _ _), ?_⟩⟩)⟩
  rw [rt_ix18, rt_ix3, nI_clamp (by omega), nI_clamp (by omega)]
  exact H _ (fun i hi => rt_step_bits hG hR hRS ht hh hi)
/-- the inner loop: what is reached so far, of the groups in b those below j are done -/
def rt_In (e : Nat → Nat → Bool) (h0 : Nat) (b : Int32) (j : Nat) (s : Int32) : Prop := (∀ i, 18 ≤ i → bt s i = false) ∧ (∀ g, g < 18 → bt s g = true → rt_R e g h0) ∧ (∀ i, bt b i = true → bt s i = true) ∧ (∀ h, h < j → bt b h = true → ∀ g, g < 18 → e g h = true → bt s g = true)
theorem rt_InT {e : Nat → Nat → Bool} {h0 : Nat} {b : Int32} {j : Nat} {s r : Int32} (hj : j < 18) (I : rt_In e h0 b j s) (hb : bt s j = true) (hr : ∀ i, i < 32 → bt r i = (decide (i < 18) && e i j)) : rt_In e h0 b (j + 1) (s ||| r) := by
  obtain ⟨i1, i2, i3, i4⟩ := I
  refine ⟨?_, ?_, ?_, ?_⟩
  · intro i hi
    rcases Nat.lt_or_ge i 32 with c | c
    · rw [b_or, i1 i hi, hr i c, decide_eq_false (by omega), Bool.false_and, Bool.or_false]
    · exact b_big c
  · intro g hg w
    rw [b_or, hr g (by omega), decide_eq_true hg, Bool.true_and, Bool.or_eq_true] at w
    rcases w with w | w
    · exact i2 g hg w
    · exact rt_Rcons hg w (i2 j hj hb)
  · intro i w
    rw [b_or, i3 i w, Bool.true_or]
  · intro h hh w g hg w2
    rw [b_or]
    by_cases c : h = j
    · subst c
      rw [hr g (by omega), decide_eq_true hg, w2, Bool.true_and, Bool.or_true]
    · rw [i4 h (by omega) w g hg w2, Bool.true_or]
theorem rt_InF {e : Nat → Nat → Bool} {h0 : Nat} {b : Int32} {j : Nat} {s : Int32} (I : rt_In e h0 b j s) (hb : bt s j = false) : rt_In e h0 b (j + 1) s := by
  obtain ⟨i1, i2, i3, i4⟩ := I
  refine ⟨i1, i2, i3, ?_⟩
  intro h hh w g hg w2
  by_cases c : h = j
  · subst c
    rw [i3 h w] at hb; cases hb
  · exact i4 h (by omega) w g hg w2
theorem rt_x20 {post : Int32 → Prop} {J7 : Int32 → Int32 → Prop} {x4 b fn : Int32} {P G R S : Nat → Int32} (hG : rt_Z 18 G) (hR : rt_Z 3 R) (hRS : rt_RS R S) {t h0 : Nat} (ht : t < 8) (I0 : rt_In (rt_e G S t) h0 b 0 b)
    (H : ∀ s, rt_In (rt_e G S t) h0 b 18 s → ((s = b → post s) ∧ (¬ s = b → ∀ y, y = x4 + 1 → J7 s y))) : ∃ n, wX_groupsLeadingTo_20 post J7 (nI t) x4 b fn P G R n b 0 := by
  refine loop_0 (fun n i s => wX_groupsLeadingTo_20 post J7 (nI t) x4 b fn P G R n s (nI i)) (fun i s => rt_In (rt_e G S t) h0 b i s) 18 b I0 ?_ ?_
  · intro n s I
    exact br_t (nI_le (a := 18) (b := 18) (by omega) (by decide)) (H s I)
  · intro n i s hi I K
    refine br_f (nI_ge (b := 18) hi (by decide)) (rt_br i (by omega) (fun hb => ?_) (fun hb => ?_))
    · exact rt_xstep hG hR hRS ht hi (fun r hr => nm_e (nm_r (nI_1 i) (K _ (rt_InT hi I hb hr))))
    · exact nm_r (nI_1 i) (K _ (rt_InF I hb))
/-- after i rounds or more: all that lead to h0 in less than i steps are reached -/
def rt_Out (e : Nat → Nat → Bool) (h0 : Nat) (i : Nat) (s : Int32) : Prop := 1 ≤ i ∧ (∀ i, 18 ≤ i → bt s i = false) ∧ (∀ g, g < 18 → bt s g = true → rt_R e g h0) ∧ (∀ k, k < i → ∀ g, g < 18 → rt_P e k g h0 → bt s g = true)
theorem rt_Out_L {e : Nat → Nat → Bool} {h0 : Nat} {s : Int32} (hh : h0 < 18) (I : rt_Out e h0 18 s) : rt_isL e h0 s :=
  rt_isL_of hh I.2.1 I.2.2.1 (fun k hk => I.2.2.2 k (by omega))
theorem rt_Out_1 (e : Nat → Nat → Bool) {h0 : Nat} (hh : h0 < 18) : rt_Out e h0 1 ((1 : Int32) <<< (nI h0 &&& 31)) := by
  refine ⟨Nat.le_refl 1, ?_, ?_, ?_⟩
  · intro i hi
    rcases Nat.lt_or_ge i 32 with c | c
    · rw [rt_sb (by omega) c, decide_eq_false (by omega)]
    · exact b_big c
  · intro g hg w
    rw [rt_sb (by omega) (by omega)] at w
    have w2 : g = h0 := of_decide_eq_true w
    subst w2
    exact rt_Rrefl e g
  · intro k hk g hg w
    have k0 : k = 0 := by omega
    subst k0
    have w2 : g = h0 := w
    rw [rt_sb (by omega) (by omega), decide_eq_true w2]
theorem rt_Out_s {e : Nat → Nat → Bool} {h0 i : Nat} {b s : Int32} (hh : h0 < 18) (I : rt_Out e h0 i b) (H : rt_In e h0 b 18 s) : rt_Out e h0 (i + 1) s := by
  obtain ⟨i0, i1, i2, i3⟩ := I
  obtain ⟨n1, n2, n3, n4⟩ := H
  refine ⟨by omega, n1, n2, ?_⟩
  intro k hk g hg w
  cases k with
  | zero => exact n3 g (i3 0 (by omega) g hg w)
  | succ k =>
    obtain ⟨m, hm, w1, w2⟩ := rt_front k g h0 hh w
    exact n4 m hm (i3 k (by omega) m hm w2) g hg w1
theorem rt_Out_c {e : Nat → Nat → Bool} {h0 i : Nat} {b : Int32} (hh : h0 < 18) (I : rt_Out e h0 i b) (H : rt_In e h0 b 18 b) : rt_isL e h0 b := by
  obtain ⟨i0, i1, i2, i3⟩ := I
  obtain ⟨n1, n2, n3, n4⟩ := H
  have all : ∀ k g, g < 18 → rt_P e k g h0 → bt b g = true := by
    intro k
    induction k with
    | zero => intro g hg w; exact i3 0 (by omega) g hg w
    | succ k ih =>
      intro g hg w
      obtain ⟨m, hm, w1, w2⟩ := rt_front k g h0 hh w
      exact n4 m hm (ih m hm w2) g hg w1
  exact rt_isL_of hh i1 i2 (fun k _ => all k)
theorem rt_x7 {post : Int32 → Prop} {fn : Int32} {P G R S : Nat → Int32} (hG : rt_Z 18 G) (hR : rt_Z 3 R) (hRS : rt_RS R S) {t h0 : Nat} (ht : t < 8) (hh : h0 < 18) (s : Int32) (I : rt_Out (rt_e G S t) h0 1 s) (H : ∀ r, rt_isL (rt_e G S t) h0 r → post r) : ∃ n, wX_groupsLeadingTo_7 post (nI t) fn P G R n s 1 := by
  refine pk_loop (fun n i s => wX_groupsLeadingTo_7 post (nI t) fn P G R n s (nI i)) (fun i s => rt_Out (rt_e G S t) h0 i s) 18 1 s (by omega) I ?_ ?_
  · intro n s I
    exact br_t (nI_le (a := 18) (b := 18) (by omega) (by decide)) (H s (rt_Out_L hh I))
  · intro n i s hi I K
    refine br_f (nI_ge (b := 18) hi (by decide)) (rt_x20 (h0 := h0) hG hR hRS ht ⟨I.2.1, I.2.2.1, fun _ w => w, fun h z => absurd z (Nat.not_lt_zero h)⟩ (fun s' I' => br_c (fun e => ?_) (fun _ => ?_)))
    · subst e
      exact H _ (rt_Out_c hh I I')
    · exact nm_r (nI_1 i) (K _ (rt_Out_s hh I I'))
theorem rt_xlead {post : Int32 → Prop} {fn : Int32} {P G R S : Nat → Int32} (hG : rt_Z 18 G) (hR : rt_Z 3 R) (hRS : rt_RS R S) {t h0 : Nat} (ht : t < 8) (hh : h0 < 18) (H : ∀ r, rt_isL (rt_e G S t) h0 r → post r) : wpX_groupsLeadingTo post (fn, P, G, R) (nI t) (nI h0) := by
  unfold wpX_groupsLeadingTo
  dsimp only
  exact nm_e (rt_x7 hG hR hRS ht hh _ (rt_Out_1 _ hh) H)
/-- the persons of a slot -/
def rt_p (P : Nat → Int32) (t : Nat) : Nat → Int32 := fun g => P (18 * t + g)
theorem rt_x13 {post : Int32 → Prop} {fn L : Int32} {P G R : Nat → Int32} {e : Nat → Nat → Bool} {t h0 : Nat} (ht : t < 8) (hL : rt_isL e h0 L) (H : ∀ r, rt_isQ e (rt_p P t) h0 r → post r) : ∃ n, wX_personsOf_13 post (nI t) L fn P G R n 0 0 := by
  refine loop_0 (fun n i s => wX_personsOf_13 post (nI t) L fn P G R n s (nI i)) (fun i s => ∀ b, b < 32 → (bt s b = true ↔ ∃ g, g < i ∧ rt_R e g h0 ∧ bt (rt_p P t g) b = true)) 18 0 ?_ ?_ ?_
  · intro b _
    rw [b_0]
    exact ⟨(fun z => nomatch z), fun ⟨g, hg, _⟩ => absurd hg (Nat.not_lt_zero g)⟩
  · intro n s I
    exact br_t (nI_le (a := 18) (b := 18) (by omega) (by decide)) (H s (fun b hb => rt_beq ((I b hb).trans rt_q_iff.symm)))
  · intro n i s hi I K
    refine br_f (nI_ge (b := 18) hi (by decide)) (rt_br i (by omega) (fun hb => ?_) (fun hb => ?_))
    · refine ⟨pk_in (18 * t + i) 144 (by omega) (rt_ix18 t i), nm_e (nm_r (nI_1 i) (K _ ?_))⟩
      rw [rt_ix18, nI_clamp (by omega)]
      intro b hb2
      rw [b_or, Bool.or_eq_true, I b hb2]
      have hr : rt_R e i h0 := ((hL i (by omega)).mp hb).2
      constructor
      · rintro (⟨g, hg, w⟩ | w)
        · exact ⟨g, by omega, w⟩
        · exact ⟨i, by omega, hr, w⟩
      · rintro ⟨g, hg, w, w2⟩
        by_cases c : g = i
        · subst c; exact Or.inr w2
        · exact Or.inl ⟨g, by omega, w, w2⟩
    · refine nm_r (nI_1 i) (K _ ?_)
      intro b hb2
      rw [I b hb2]
      constructor
      · rintro ⟨g, hg, w⟩
        exact ⟨g, by omega, w⟩
      · rintro ⟨g, hg, w, w2⟩
        by_cases c : g = i
        · subst c
          have z := (hL g (by omega)).mpr ⟨hi, w⟩
          rw [hb] at z; cases z
        · exact ⟨g, by omega, w, w2⟩
theorem rt_xper {post : Int32 → Prop} {fn : Int32} {P G R S : Nat → Int32} (hG : rt_Z 18 G) (hR : rt_Z 3 R) (hRS : rt_RS R S) {t h0 : Nat} (ht : t < 8) (hh : h0 < 18) (H : ∀ r, rt_isQ (rt_e G S t) (rt_p P t) h0 r → post r) : wpX_personsOf post (fn, P, G, R) (nI t) (nI h0) := by
  unfold wpX_personsOf
  dsimp only
  exact rt_xlead hG hR hRS ht hh (fun r hr => rt_x13 ht hr H)
