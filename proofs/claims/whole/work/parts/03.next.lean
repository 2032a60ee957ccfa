/-! the relation; ranges; the next state; enter, nest, rule, latest -/
/-- no bits from w on -/
def rt_Z (w : Nat) (a : Nat → Int32) : Prop := ∀ j i, w ≤ i → bt (a j) i = false
/-- the rules, laid by relation on the one side, in one set on the other -/
def rt_RS (R S : Nat → Int32) : Prop := ∀ t, t < 8 → ∀ r, r < 3 → ∀ s, s < 3 → bt (R (3 * t + s)) r = bt (S t) (3 * r + s)
def i_Rel (k : Nat) (u : SX) (v : SY) : Prop := ∃ (n : Nat) (P G R S M : Nat → Int32), u = (nI n, P, G, R) ∧ v = (nI n, P, G, S, M) ∧ n ≤ k ∧ rt_Z 18 G ∧ rt_Z 3 R ∧ rt_RS R S
theorem i_up {k : Nat} {u : SX} {v : SY} (h : i_Rel k u v) : i_Rel (k + 4) u v := by
  obtain ⟨n, P, G, R, S, M, h1, h2, h3, h4⟩ := h
  exact ⟨n, P, G, R, S, M, h1, h2, by omega, h4⟩
theorem i_vc0 : wpX_init (fun u => wpY_init (fun v => i_Rel 0 u v)) :=
  ⟨0, fun _ => 0, fun _ => 0, fun _ => 0, fun _ => 0, fun _ => 0, rfl, rfl, Nat.le_refl 0, fun _ i _ => b_0 i, fun _ i _ => b_0 i, fun _ _ r _ s _ => (b_0 r).trans (b_0 (3 * r + s)).symm⟩
/-! ranges -/
theorem rt_X0 {p wl : Int32} {w : Nat} {A A' B : Prop} (hw : wl = nI w) (h : p < 0 ∨ nI w ≤ p) (a : A) (a' : A') : (p < 0 → A) ∧ (¬ p < 0 → ((wl ≤ p → A') ∧ (¬ wl ≤ p → B))) := by
  subst hw
  by_cases c : p < 0
  · exact br_t c a
  · exact br_f c (br_t (h.resolve_left c) a')
theorem rt_X1 {wl : Int32} {w j : Nat} {A A' B : Prop} (hw : wl = nI w) (hj : j < w) (h : w < 2 ^ 31) (b : B) : (nI j < 0 → A) ∧ (¬ nI j < 0 → ((wl ≤ nI j → A') ∧ (¬ wl ≤ nI j → B))) := by
  subst hw
  exact br_f (nI_pos (by omega)) (br_f (nI_ge hj h) b)
theorem rt_Y0 {p wl : Int32} {w : Nat} {A A' B : Prop} (hw : wl = nI w) (h2 : w + 1 < 2 ^ 31) (h : p < 0 ∨ nI (w + 1) ≤ p) (a : A) (a' : A') : (p < 0 → A) ∧ (¬ p < 0 → ((wl < p → A') ∧ (¬ wl < p → B))) := by
  subst hw
  by_cases c : p < 0
  · exact br_t c a
  · refine br_f c (br_t ?_ a')
    have d := h.resolve_left c
    rw [Int32.le_iff_toInt_le, nI_toInt h2] at d
    rw [Int32.lt_iff_toInt_lt, nI_toInt (by omega)]
    omega
theorem rt_Y1 {wl : Int32} {w j : Nat} {A A' B : Prop} (hw : wl = nI w) (hj : j < w + 1) (h : w + 1 < 2 ^ 31) (b : B) : (nI j < 0 → A) ∧ (¬ nI j < 0 → ((wl < nI j → A') ∧ (¬ wl < nI j → B))) := by
  subst hw
  exact br_f (nI_pos (by omega)) (br_f (nI_nlt (by omega) (by omega)) b)
theorem rt_xp0 {post : Int32 → Prop} {p : Int32} (h : p < 0 ∨ nI 6 ≤ p) (a : post 0) : wpX_isPerson post p := rt_X0 (w := 6) rfl h a a
theorem rt_xp1 {post : Int32 → Prop} {j : Nat} (h : j < 6) (a : post 1) : wpX_isPerson post (nI j) := rt_X1 (w := 6) rfl h (by decide) a
theorem rt_xg0 {post : Int32 → Prop} {p : Int32} (h : p < 0 ∨ nI 18 ≤ p) (a : post 0) : wpX_isGroup post p := rt_X0 (w := 18) rfl h a a
theorem rt_xg1 {post : Int32 → Prop} {j : Nat} (h : j < 18) (a : post 1) : wpX_isGroup post (nI j) := rt_X1 (w := 18) rfl h (by decide) a
theorem rt_xr0 {post : Int32 → Prop} {p : Int32} (h : p < 0 ∨ nI 3 ≤ p) (a : post 0) : wpX_isRelation post p := rt_X0 (w := 3) rfl h a a
theorem rt_xr1 {post : Int32 → Prop} {j : Nat} (h : j < 3) (a : post 1) : wpX_isRelation post (nI j) := rt_X1 (w := 3) rfl h (by decide) a
theorem rt_yp0 {post : Int32 → Prop} {p : Int32} {fn : Int32} {P G S M : Nat → Int32} (h : p < 0 ∨ nI 6 ≤ p) (a : post 0) : wpY_isPerson post (fn, P, G, S, M) p := rt_Y0 (w := 5) rfl (by decide) h a a
theorem rt_yp1 {post : Int32 → Prop} {j : Nat} {fn : Int32} {P G S M : Nat → Int32} (h : j < 6) (a : post 1) : wpY_isPerson post (fn, P, G, S, M) (nI j) := rt_Y1 (w := 5) rfl h (by decide) a
theorem rt_yg0 {post : Int32 → Prop} {p : Int32} {fn : Int32} {P G S M : Nat → Int32} (h : p < 0 ∨ nI 18 ≤ p) (a : post 0) : wpY_isGroup post (fn, P, G, S, M) p := rt_Y0 (w := 17) rfl (by decide) h a a
theorem rt_yg1 {post : Int32 → Prop} {j : Nat} {fn : Int32} {P G S M : Nat → Int32} (h : j < 18) (a : post 1) : wpY_isGroup post (fn, P, G, S, M) (nI j) := rt_Y1 (w := 17) rfl h (by decide) a
theorem rt_slot {post : Int32 → Prop} {n : Nat} (hn : n < 2 ^ 31) (h : post (nI (n % 8))) : wpX_slotOf post (nI n) := by
  unfold wpX_slotOf
  rw [rt_and7 hn]
  exact h
/-- a range, or out of it -/
theorem rt_rg (p : Int32) (w : Nat) (hw : w < 2 ^ 31) : (p < 0 ∨ nI w ≤ p) ∨ ∃ j : Nat, j < w ∧ p = nI j := by
  rcases pk_ix p hw with h | h | h
  · exact Or.inl (Or.inl h)
  · exact Or.inl (Or.inr h)
  · exact Or.inr h
/-! the next state -/
/-- the cells of slot f, one by one, as those of slot o -/
def rt_cp (o f : Nat) (a : Nat → Int32) : Nat → Nat → Int32
  | 0 => a
  | j + 1 => upd (rt_cp o f a j) (18 * f + j) (rt_cp o f a j (18 * o + j))
theorem rt_updZ {w : Nat} {a : Nat → Int32} {k : Nat} {x : Int32} (h : rt_Z w a) (hx : ∀ i, w ≤ i → bt x i = false) : rt_Z w (upd a k x) := by
  intro j i hi
  by_cases e : j = k
  · subst e; rw [pk_us]; exact hx i hi
  · rw [pk_un e]; exact h j i hi
theorem rt_cpZ {w o f : Nat} {a : Nat → Int32} (h : rt_Z w a) : ∀ m, rt_Z w (rt_cp o f a m) := by
  intro m
  induction m with
  | zero => exact h
  | succ m ih => exact rt_updZ ih (fun i hi => ih _ i hi)
/-- R' is R with the three cells of slot f as those of slot o -/
def rt_C3 (o f m : Nat) (R R' : Nat → Int32) : Prop := ∀ c, R' c = if 3 * f ≤ c ∧ c < 3 * f + m then R (3 * o + (c - 3 * f)) else R c
theorem rt_C3s {o f m : Nat} {R R' : Nat → Int32} (hm : m < 3) (h : rt_C3 o f m R R') : rt_C3 o f (m + 1) R (upd R' (3 * f + m) (R' (3 * o + m))) := by
  intro c
  by_cases e : c = 3 * f + m
  · subst e
    rw [pk_us, h, if_neg (by omega), if_pos (by omega)]
    exact congrArg R (by omega)
  · rw [pk_un e, h]
    by_cases d : 3 * f ≤ c ∧ c < 3 * f + m
    · rw [if_pos d, if_pos (by omega)]
    · rw [if_neg d, if_neg (by omega)]
theorem rt_u18x (a : Nat → Int32) {o f j : Nat} (ho : o < 8) (hf : f < 8) (hj : j < 18) : upd a (nI f * 18 + nI j).toNatClampNeg (a (nI o * 18 + nI j).toNatClampNeg) = upd a (18 * f + j) (a (18 * o + j)) := by
  rw [rt_ix18, rt_ix18, nI_clamp (by omega), nI_clamp (by omega)]
theorem rt_u18y (a : Nat → Int32) {o f j : Nat} (ho : o < 8) (hf : f < 8) (hj : j < 18) : upd a (18 * nI f + nI j).toNatClampNeg (a (18 * nI o + nI j).toNatClampNeg) = upd a (18 * f + j) (a (18 * o + j)) := by
  rw [rt_iy18, rt_iy18, nI_clamp (by omega), nI_clamp (by omega)]
theorem rt_u3x (a : Nat → Int32) {o f j : Nat} (ho : o < 8) (hf : f < 8) (hj : j < 3) : upd a (nI f * 3 + nI j).toNatClampNeg (a (nI o * 3 + nI j).toNatClampNeg) = upd a (3 * f + j) (a (3 * o + j)) := by
  rw [rt_ix3, rt_ix3, nI_clamp (by omega), nI_clamp (by omega)]
theorem rt_x86 {post : SX → Prop} {fn : Int32} {P G R : Nat → Int32} {o f : Nat} (ho : o < 8) (hf : f < 8) (H : ∀ R', rt_C3 o f 3 R R' → post (fn, P, G, R')) : ∃ n, wX_startNextState_86 post (nI o) (nI f) fn n 0 P G R := by
  refine loop_0 (fun n i s => wX_startNextState_86 post (nI o) (nI f) fn n (nI i) P G s) (fun i s => rt_C3 o f i R s) 3 R ?_ ?_ ?_
  · intro c; rw [if_neg (by omega)]
  · intro n s I
    exact br_t (nI_le (a := 3) (b := 3) (by omega) (by decide)) (H s I)
  · intro n i s hi I K
    exact br_f (nI_ge (b := 3) hi (by decide)) ⟨pk_in (3 * o + i) 24 (by omega) (rt_ix3 o i), pk_in (3 * f + i) 24 (by omega) (rt_ix3 f i), nm_r (rt_u3x s ho hf hi) (nm_r (nI_1 i) (K _ (rt_C3s hi I)))⟩
theorem rt_x28 {post : SX → Prop} {fn : Int32} {P G R : Nat → Int32} {o f : Nat} (ho : o < 8) (hf : f < 8) (H : ∀ R', rt_C3 o f 3 R R' → post (fn, rt_cp o f P 18, rt_cp o f G 18, R')) : ∃ n, wX_startNextState_28 post (nI o) (nI f) fn n 0 P G R := by
  refine loop_0 (fun n i (s : (Nat → Int32) × (Nat → Int32)) => wX_startNextState_28 post (nI o) (nI f) fn n (nI i) s.1 s.2 R) (fun i s => s = (rt_cp o f P i, rt_cp o f G i)) 18 (P, G) rfl ?_ ?_
  · intro n s I
    subst I
    exact br_t (nI_le (a := 18) (b := 18) (by omega) (by decide)) (rt_x86 ho hf H)
  · intro n i s hi I K
    subst I
    have a1 : vp_in (nI o * 18 + nI i) 144 := pk_in (18 * o + i) 144 (by omega) (rt_ix18 o i)
    have a2 : vp_in (nI f * 18 + nI i) 144 := pk_in (18 * f + i) 144 (by omega) (rt_ix18 f i)
    exact br_f (nI_ge (b := 18) hi (by decide)) ⟨a1, a2, nm_r (rt_u18x _ ho hf hi) ⟨a1, a2, nm_r (rt_u18x _ ho hf hi) (nm_r (nI_1 i) (K (rt_cp o f P (i + 1), rt_cp o f G (i + 1)) rfl))⟩⟩
theorem rt_xnext {post : SX → Prop} {n : Nat} {P G R : Nat → Int32} (hn : n < 2 ^ 30) (H : ∀ R', rt_C3 (n % 8) ((n + 1) % 8) 3 R R' → post (nI (n + 1), rt_cp (n % 8) ((n + 1) % 8) P 18, rt_cp (n % 8) ((n + 1) % 8) G 18, R')) : wpX_startNextState post (nI n, P, G, R) := by
  unfold wpX_startNextState
  dsimp only
  refine rt_slot (by omega) ?_
  refine nm_r (nI_1 n) ?_
  refine rt_slot (by omega) ?_
  exact rt_x28 (by omega) (by omega) H
theorem rt_y28 {post : Int32 → SY → Prop} {fn : Int32} {P G S M : Nat → Int32} {o f : Nat} (ho : o < 8) (hf : f < 8) (H : post (nI f) (fn, rt_cp o f P 18, rt_cp o f G 18, upd S f (S o), M)) : ∃ n, wY_next_28 post (nI o) (nI f) fn n 0 P G S M := by
  refine loop_0 (fun n i (s : (Nat → Int32) × (Nat → Int32)) => wY_next_28 post (nI o) (nI f) fn n (nI i) s.1 s.2 S M) (fun i s => s = (rt_cp o f P i, rt_cp o f G i)) 18 (P, G) rfl ?_ ?_
  · intro n s I
    subst I
    refine br_t (nI_le (a := 18) (b := 18) (by omega) (by decide)) ⟨pk_in o 8 ho, pk_in f 8 hf, nm_r (e' := upd S f (S o)) ?_ H⟩
    rw [nI_clamp (by omega), nI_clamp (by omega)]
  · intro n i s hi I K
    subst I
    have a1 : vp_in (18 * nI o + nI i) 144 := pk_in (18 * o + i) 144 (by omega) (rt_iy18 o i)
    have a2 : vp_in (18 * nI f + nI i) 144 := pk_in (18 * f + i) 144 (by omega) (rt_iy18 f i)
    exact br_f (nI_ge (b := 18) hi (by decide)) ⟨a1, a2, nm_r (rt_u18y _ ho hf hi) ⟨a1, a2, nm_r (rt_u18y _ ho hf hi) (nm_r (nI_1 i) (K (rt_cp o f P (i + 1), rt_cp o f G (i + 1)) rfl))⟩⟩
theorem rt_ynext {post : Int32 → SY → Prop} {n : Nat} {P G S M : Nat → Int32} (hn : n < 2 ^ 30) (H : post (nI ((n + 1) % 8)) (nI (n + 1), rt_cp (n % 8) ((n + 1) % 8) P 18, rt_cp (n % 8) ((n + 1) % 8) G 18, upd S ((n + 1) % 8) (S (n % 8)), M)) : wpY_next post (nI n, P, G, S, M) := by
  unfold wpY_next
  dsimp only
  refine ⟨by decide, nm_r (rt_rem8 (by omega)) (nm_r (nI_1 n) ⟨by decide, nm_r (rt_rem8 (by omega)) ?_⟩)⟩
  exact rt_y28 (by omega) (by omega) H
/-- the rules' relation over the copy -/
theorem rt_RSc {o f : Nat} {R S R' : Nat → Int32} (ho : o < 8) (hf : f < 8) (h : rt_RS R S) (hc : rt_C3 o f 3 R R') : rt_RS R' (upd S f (S o)) := by
  intro t ht r hr s hs
  by_cases e : t = f
  · subst e
    rw [pk_us, hc, if_pos (by omega), show 3 * o + (3 * t + s - 3 * t) = 3 * o + s by omega]
    exact h o ho r hr s hs
  · rw [pk_un e, hc, if_neg (by omega)]
    exact h t ht r hr s hs
theorem rt_Zc {w o f : Nat} {R R' : Nat → Int32} (h : rt_Z w R) (hc : rt_C3 o f 3 R R') : rt_Z w R' := by
  intro j i hi
  rw [hc]
  by_cases e : 3 * f ≤ j ∧ j < 3 * f + 3
  · rw [if_pos e]; exact h _ i hi
  · rw [if_neg e]; exact h _ i hi
/-- the set with one bit put in, or out -/
def rt_w (x : Int32) (p : Nat) (b : Int32) : Int32 := if b = 0 then x &&& (((1 : Int32) <<< (nI p &&& 31)) ^^^ (-1)) else x ||| ((1 : Int32) <<< (nI p &&& 31))
theorem rt_xw {post : Int32 → Prop} {x b : Int32} {p : Nat} (h : post (rt_w x p b)) : wpX_withBit post x (nI p) b := by
  unfold rt_w at h
  by_cases c : b = 0
  · rw [if_pos c] at h; exact br_t c h
  · rw [if_neg c] at h; exact br_f c h
theorem rt_yw {post : Int32 → Prop} {x b : Int32} {p : Nat} {fn : Int32} {P G S M : Nat → Int32} (h : post (rt_w x p b)) : wpY_with post (fn, P, G, S, M) x (nI p) b := by
  unfold rt_w at h
  by_cases c : b = 0
  · rw [if_pos c] at h; exact br_t c h
  · rw [if_neg c] at h; exact br_f c h
theorem rt_w_bt {x b : Int32} {p : Nat} (hp : p < 32) {i : Nat} (hi : i < 32) : bt (rt_w x p b) i = if i = p then !decide (b = 0) else bt x i := by
  unfold rt_w
  by_cases c : b = 0
  · rw [if_pos c, rt_off hp x hi]
    by_cases d : i = p
    · rw [if_pos d, decide_eq_true d, decide_eq_true c, Bool.not_true, Bool.and_false]
    · rw [if_neg d, decide_eq_false d, Bool.not_false, Bool.and_true]
  · rw [if_neg c, rt_on hp x hi]
    by_cases d : i = p
    · rw [if_pos d, decide_eq_true d, decide_eq_false c, Bool.or_true, Bool.not_false]
    · rw [if_neg d, decide_eq_false d, Bool.or_false]
theorem rt_wZ {w : Nat} {x b : Int32} {p : Nat} (hw : w ≤ 32) (hp : p < w) (h : ∀ i, w ≤ i → bt x i = false) : ∀ i, w ≤ i → bt (rt_w x p b) i = false := by
  intro i hi
  rcases Nat.lt_or_ge i 32 with c | c
  · rw [rt_w_bt (by omega) c, if_neg (by omega)]; exact h i hi
  · exact b_big c
