/-! the reference's walks over one slot, against the pure picture -/
theorem rt_yin {post : Int32 → Prop} {fn : Int32} {P G S M : Nat → Int32} {x : Int32} {p : Nat} (hp : p < 32) (h1 : bt x p = true → post 1) (h0 : bt x p = false → post 0) : wpY_in post (fn, P, G, S, M) x (nI p) :=
  rt_br p hp h1 h0
theorem rt_ypass {post : Int32 → Prop} {fn : Int32} {P G S M : Nat → Int32} {t g h : Nat} (ht : t < 8) (hg : g < 18) (hh : h < 18) (h1 : rt_e G S t g h = true → post 1) (h0 : rt_e G S t g h = false → post 0) : wpY_passes post (fn, P, G, S, M) (nI t) (nI g) (nI h) := by
  unfold rt_e at h1 h0
  unfold wpY_passes
  dsimp only
  refine ⟨pk_in (18 * t + h) 144 (by omega) (rt_iy18 t h), ?_⟩
  rw [rt_iy18, nI_clamp (n := 18 * t + h) (by omega)]
  refine rt_yin (by omega) (fun a => ?_) (fun a => ?_)
  · rw [a, Bool.true_or] at h1
    exact br_f (by decide) (h1 rfl)
  · rw [a, Bool.false_or] at h1 h0
    refine br_t rfl ⟨by decide, by decide, pk_eq (g / 3) (h / 3) (fun c => ?_) (fun c => ?_) (rt_div3 (by omega)) (rt_div3 (by omega)) (by omega) (by omega)⟩
    · rw [decide_eq_true c, Bool.true_and] at h1 h0
      refine ⟨pk_in t 8 ht, by decide, by decide, ?_⟩
      rw [rt_rem3 (by omega), rt_rem3 (by omega), rt_iy3, nI_clamp (n := t) (by omega)]
      exact rt_yin (by omega) (fun b => br_f (by decide) (h1 b)) (fun b => br_t rfl (h0 b))
    · rw [decide_eq_false c, Bool.false_and] at h0
      exact h0 rfl
/-! sources -/
def rt_Im (e : Nat → Nat → Bool) (h0 : Nat) (b : Int32) (j : Nat) (s : Int32) : Prop := (∀ i, 18 ≤ i → bt s i = false) ∧ (∀ g, g < 18 → bt s g = true → rt_R e g h0) ∧ (∀ i, bt b i = true → bt s i = true) ∧ (∀ c, c < j → bt b (c % 18) = true → e (c / 18) (c % 18) = true → bt s (c / 18) = true)
theorem rt_ImT {e : Nat → Nat → Bool} {h0 : Nat} {b : Int32} {j : Nat} {s : Int32} (hj : j < 324) (I : rt_Im e h0 b j s) (hb : bt s (j % 18) = true) (he : e (j / 18) (j % 18) = true) : rt_Im e h0 b (j + 1) (s ||| ((1 : Int32) <<< (nI (j / 18) &&& 31))) := by
  obtain ⟨i1, i2, i3, i4⟩ := I
  refine ⟨?_, ?_, ?_, ?_⟩
  · intro i hi
    rcases Nat.lt_or_ge i 32 with c | c
    · rw [rt_on (by omega) s c, i1 i hi, decide_eq_false (by omega), Bool.or_false]
    · exact b_big c
  · intro g hg w
    rw [rt_on (by omega) s (by omega), Bool.or_eq_true] at w
    rcases w with w | w
    · exact i2 g hg w
    · have w2 : g = j / 18 := of_decide_eq_true w
      subst w2
      exact rt_Rcons hg he (i2 (j % 18) (by omega) hb)
  · intro i w
    rw [b_or, i3 i w, Bool.true_or]
  · intro c hc w w2
    by_cases d : c = j
    · subst d
      rw [rt_on (by omega) s (by omega), decide_eq_true rfl, Bool.or_true]
    · rw [b_or, i4 c (by omega) w w2, Bool.true_or]
theorem rt_ImF {e : Nat → Nat → Bool} {h0 : Nat} {b : Int32} {j : Nat} {s : Int32} (I : rt_Im e h0 b j s) (hb : bt s (j % 18) = false ∨ e (j / 18) (j % 18) = false) : rt_Im e h0 b (j + 1) s := by
  obtain ⟨i1, i2, i3, i4⟩ := I
  refine ⟨i1, i2, i3, ?_⟩
  intro c hc w w2
  by_cases d : c = j
  · subst d
    rcases hb with hb | hb
    · rw [i3 _ w] at hb; cases hb
    · rw [w2] at hb; cases hb
  · exact i4 c (by omega) w w2
theorem rt_ImE {e : Nat → Nat → Bool} {h0 : Nat} {b s : Int32} (I : rt_Im e h0 b 324 s) : rt_In e h0 b 18 s := by
  obtain ⟨i1, i2, i3, i4⟩ := I
  refine ⟨i1, i2, i3, ?_⟩
  intro h hh w g hg w2
  have c1 : (18 * g + h) % 18 = h := by omega
  have c2 : (18 * g + h) / 18 = g := by omega
  have z := i4 (18 * g + h) (by omega)
  rw [c1, c2] at z
  exact z w w2
theorem rt_y52 {post : Int32 → Prop} {J42 : Int32 → Int32 → Prop} {x5 fn : Int32} {P G S M : Nat → Int32} {t h0 : Nat} {b : Int32} (ht : t < 8) (I0 : rt_Im (rt_e G S t) h0 b 0 b) (H : ∀ s, rt_Im (rt_e G S t) h0 b 324 s → J42 s (x5 + 1)) : ∃ n, wY_sources_52 post J42 (nI t) x5 fn P G S M n b 0 := by
  refine loop_0 (fun n i s => wY_sources_52 post J42 (nI t) x5 fn P G S M n s (nI i)) (fun i s => rt_Im (rt_e G S t) h0 b i s) 324 b I0 ?_ ?_
  · intro n s I
    exact br_t (nI_le (a := 324) (b := 324) (by omega) (by decide)) (nm_e (H s I))
  · intro n i s hi I K
    refine br_f (nI_ge (b := 324) hi (by decide)) ⟨by decide, ?_⟩
    rw [rt_rem18 (by omega), rt_div18 (by omega)]
    refine rt_yin (by omega) (fun a => ?_) (fun a => ?_)
    · refine br_f (by decide) ⟨by decide, by decide, rt_ypass ht (by omega) (by omega) (fun c => ?_) (fun c => ?_)⟩
      · exact br_f (by decide) ⟨by decide, nm_e (nm_r (nI_1 i) (K _ (rt_ImT hi I a c)))⟩
      · exact br_t rfl (nm_r (nI_1 i) (K _ (rt_ImF I (Or.inr c))))
    · exact br_t rfl (nm_r (nI_1 i) (K _ (rt_ImF I (Or.inl a))))
theorem rt_y42 {post : Int32 → Prop} {fn : Int32} {P G S M : Nat → Int32} {t h0 : Nat} (ht : t < 8) (hh : h0 < 18) (s : Int32) (I : rt_Out (rt_e G S t) h0 1 s) (H : ∀ r, rt_isL (rt_e G S t) h0 r → post r) : ∃ n, wY_sources_42 post (nI t) fn P G S M n s 0 := by
  refine loop_0 (fun n i s => wY_sources_42 post (nI t) fn P G S M n s (nI i)) (fun i s => rt_Out (rt_e G S t) h0 (i + 1) s) 18 s I ?_ ?_
  · intro n s I
    exact br_t (nI_le (a := 18) (b := 18) (by omega) (by decide)) (H s (rt_isL_of hh I.2.1 I.2.2.1 (fun k hk => I.2.2.2 k (by omega))))
  · intro n i s hi I K
    refine br_f (nI_ge (b := 18) hi (by decide)) (rt_y52 (h0 := h0) ht ⟨I.2.1, I.2.2.1, fun _ w => w, fun h z => absurd z (Nat.not_lt_zero h)⟩ (fun s' I' => ?_))
    rw [nI_1]
    exact K _ (rt_Out_s hh I (rt_ImE I'))
/-! addAll -/
def rt_Ia (e : Nat → Nat → Bool) (p B : Nat → Int32) (j : Nat) (m : Nat → Int32) : Prop := (∀ h, h < 18 → ∀ i, bt (m h) i = true → ∃ g, g < 18 ∧ rt_R e g h ∧ bt (p g) i = true) ∧ (∀ h i, bt (B h) i = true → bt (m h) i = true) ∧ (∀ c, c < j → e (c / 18) (c % 18) = true → ∀ i, bt (B (c / 18)) i = true → bt (m (c % 18)) i = true)
theorem rt_IaF {e : Nat → Nat → Bool} {p B m : Nat → Int32} {j : Nat} (I : rt_Ia e p B j m) (he : e (j / 18) (j % 18) = false) : rt_Ia e p B (j + 1) m := by
  obtain ⟨i1, i2, i3⟩ := I
  refine ⟨i1, i2, ?_⟩
  intro c hc w i w2
  by_cases d : c = j
  · subst d; rw [w] at he; cases he
  · exact i3 c (by omega) w i w2
theorem rt_upd_or {m : Nat → Int32} {a b h i : Nat} (w : bt (m h) i = true) : bt (upd m a (m a ||| m b) h) i = true := by
  by_cases d : h = a
  · subst d; rw [pk_us, b_or, w, Bool.true_or]
  · rw [pk_un d]; exact w
theorem rt_IaT {e : Nat → Nat → Bool} {p B m : Nat → Int32} {j : Nat} (hj : j < 324) (I : rt_Ia e p B j m) (he : e (j / 18) (j % 18) = true) : rt_Ia e p B (j + 1) (upd m (j % 18) (m (j % 18) ||| m (j / 18))) := by
  obtain ⟨i1, i2, i3⟩ := I
  refine ⟨?_, ?_, ?_⟩
  · intro h hh i w
    by_cases d : h = j % 18
    · subst d
      rw [pk_us, b_or, Bool.or_eq_true] at w
      rcases w with w | w
      · exact i1 _ hh i w
      · obtain ⟨g, hg, w1, w2⟩ := i1 (j / 18) (by omega) i w
        exact ⟨g, hg, rt_Rsnoc (by omega) w1 he, w2⟩
    · rw [pk_un d] at w
      exact i1 h hh i w
  · intro h i w
    exact rt_upd_or (i2 h i w)
  · intro c hc w i w2
    by_cases d : c = j
    · subst d
      rw [pk_us, b_or, i2 _ i w2, Bool.or_true]
    · exact rt_upd_or (i3 c (by omega) w i w2)
theorem rt_y47 {post : SY → Prop} {J38 : Int32 → (Nat → Int32) → (Nat → Int32) → (Nat → Int32) → (Nat → Int32) → Prop} {x3 fn : Int32} {P G S : Nat → Int32} {p B : Nat → Int32} {t : Nat} (ht : t < 8) (I0 : rt_Ia (rt_e G S t) p B 0 B) (H : ∀ m, rt_Ia (rt_e G S t) p B 324 m → J38 (x3 + 1) P G S m) : ∃ n, wY_addAll_47 post J38 (nI t) x3 fn n 0 P G S B := by
  refine loop_0 (fun n i m => wY_addAll_47 post J38 (nI t) x3 fn n (nI i) P G S m) (fun i m => rt_Ia (rt_e G S t) p B i m) 324 B I0 ?_ ?_
  · intro n m I
    exact br_t (nI_le (a := 324) (b := 324) (by omega) (by decide)) (nm_e (H m I))
  · intro n i m hi I K
    refine br_f (nI_ge (b := 324) hi (by decide)) ⟨by decide, by decide, ?_⟩
    rw [rt_rem18 (by omega), rt_div18 (by omega)]
    refine rt_ypass ht (by omega) (by omega) (fun c => ?_) (fun c => ?_)
    · refine br_f (by decide) ⟨by decide, by decide, pk_in (i % 18) 18 (by omega), by decide, pk_in (i / 18) 18 (by omega), pk_in (i % 18) 18 (by omega), ?_⟩
      rw [nI_clamp (by omega), nI_clamp (by omega)]
      exact nm_e (nm_r (nI_1 i) (K _ (rt_IaT hi I c)))
    · exact br_t rfl (nm_r (nI_1 i) (K _ (rt_IaF I c)))
/-- after i rounds -/
def rt_Oa (e : Nat → Nat → Bool) (p : Nat → Int32) (i : Nat) (m : Nat → Int32) : Prop := (∀ h, h < 18 → ∀ i, bt (m h) i = true → ∃ g, g < 18 ∧ rt_R e g h ∧ bt (p g) i = true) ∧ (∀ k, k ≤ i → ∀ g, g < 18 → ∀ h, h < 18 → rt_P e k g h → ∀ b, bt (p g) b = true → bt (m h) b = true)
theorem rt_Oa_s {e : Nat → Nat → Bool} {p B m : Nat → Int32} {i : Nat} (I : rt_Oa e p i B) (H : rt_Ia e p B 324 m) : rt_Oa e p (i + 1) m := by
  obtain ⟨_, o2⟩ := I
  obtain ⟨i1, i2, i3⟩ := H
  refine ⟨i1, ?_⟩
  intro k hk g hg h hh w b w2
  cases k with
  | zero => exact i2 h b (o2 0 (by omega) g hg h hh w b w2)
  | succ k =>
    obtain ⟨q, hq, w3, w4⟩ := w
    have c1 : (18 * q + h) % 18 = h := by omega
    have c2 : (18 * q + h) / 18 = q := by omega
    have z := i3 (18 * q + h) (by omega)
    rw [c1, c2] at z
    exact z w4 b (o2 k (by omega) g hg q hq w3 b w2)
theorem rt_Oa_Q {e : Nat → Nat → Bool} {p m : Nat → Int32} (I : rt_Oa e p 18 m) : ∀ h, h < 18 → rt_isQ e p h (m h) := by
  intro h hh i _
  refine rt_beq (Iff.trans ?_ rt_q_iff.symm)
  constructor
  · exact I.1 h hh i
  · rintro ⟨g, hg, w, w2⟩
    obtain ⟨k, hk, w3⟩ := rt_short hg hh w
    exact I.2 k (by omega) g hg h hh w3 i w2
theorem rt_y38 {post : SY → Prop} {fn : Int32} {P G S : Nat → Int32} {p : Nat → Int32} {t : Nat} (ht : t < 8) (m : Nat → Int32) (I : rt_Oa (rt_e G S t) p 0 m) (H : ∀ m, (∀ h, h < 18 → rt_isQ (rt_e G S t) p h (m h)) → post (fn, P, G, S, m)) : ∃ n, wY_addAll_38 post (nI t) fn n 0 P G S m := by
  refine loop_0 (fun n i m => wY_addAll_38 post (nI t) fn n (nI i) P G S m) (fun i m => rt_Oa (rt_e G S t) p i m) 18 m I ?_ ?_
  · intro n m I
    exact br_t (nI_le (a := 18) (b := 18) (by omega) (by decide)) (H m (rt_Oa_Q I))
  · intro n i m hi I K
    refine br_f (nI_ge (b := 18) hi (by decide)) (rt_y47 (p := p) ht ⟨I.1, fun _ _ w => w, fun h z => absurd z (Nat.not_lt_zero h)⟩ (fun m' I' => ?_))
    rw [nI_1]
    exact K _ (rt_Oa_s I I')
theorem rt_y7 {post : SY → Prop} {fn : Int32} {P G S M : Nat → Int32} {t : Nat} (ht : t < 8) (H : ∀ m, (∀ h, h < 18 → rt_isQ (rt_e G S t) (rt_p P t) h (m h)) → post (fn, P, G, S, m)) : ∃ n, wY_addAll_7 post (nI t) fn n 0 P G S M := by
  refine loop_0 (fun n i m => wY_addAll_7 post (nI t) fn n (nI i) P G S m) (fun i m => ∀ h, h < i → m h = rt_p P t h) 18 M (fun h z => absurd z (Nat.not_lt_zero h)) ?_ ?_
  · intro n m I
    refine br_t (nI_le (a := 18) (b := 18) (by omega) (by decide)) (rt_y38 (p := rt_p P t) ht m ⟨?_, ?_⟩ H)
    · intro h hh i w
      rw [I h hh] at w
      exact ⟨h, hh, rt_Rrefl _ h, w⟩
    · intro k hk g hg h hh w b w2
      have k0 : k = 0 := by omega
      subst k0
      have w3 : g = h := w
      subst w3
      rw [I g hg]; exact w2
  · intro n i m hi I K
    refine br_f (nI_ge (b := 18) hi (by decide)) ⟨pk_in (18 * t + i) 144 (by omega) (rt_iy18 t i), pk_in i 18 hi, ?_⟩
    rw [rt_iy18, nI_clamp (by omega), nI_clamp (by omega)]
    refine nm_e (nm_r (nI_1 i) (K _ ?_))
    intro h hh
    by_cases d : h = i
    · subst d; rw [pk_us]; rfl
    · rw [pk_un d]; exact I h (by omega)
theorem rt_yadd {post : SY → Prop} {fn : Int32} {P G S M : Nat → Int32} {st : Nat} (hs : st < 2 ^ 31) (H : ∀ m, (∀ h, h < 18 → rt_isQ (rt_e G S (st % 8)) (rt_p P (st % 8)) h (m h)) → post (fn, P, G, S, m)) : wpY_addAll post (fn, P, G, S, M) (nI st) := by
  unfold wpY_addAll
  dsimp only
  exact ⟨by decide, nm_r (rt_rem8 hs) (rt_y7 (by omega) H)⟩
