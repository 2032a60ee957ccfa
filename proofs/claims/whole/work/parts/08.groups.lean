/-! groups -/
/-- r is the set of the groups to which person p belongs in state st -/
def rt_isG (P G S : Nat → Int32) (st p : Nat) (i : Nat) (r : Int32) : Prop := ∀ b, b < 32 → bt r b = (decide (b < i) && rt_b P G S st b p)
theorem rt_qs (q : Bool) {i : Nat} (hi : i < 32) {b : Nat} (hb : b < 32) : bt (nI q.toNat <<< (nI i &&& 31)) b = (q && decide (b = i)) := by
  cases q
  · rw [b_shl i hi _ hb]
    show (decide (i ≤ b) && bt 0 (b - i)) = _
    rw [b_0, Bool.and_false, Bool.false_and]
  · rw [Bool.true_and]
    exact rt_sb hi hb
theorem rt_gs (f : Nat → Bool) (i b : Nat) : ((decide (b < i) && f b) || (f i && decide (b = i))) = (decide (b < i + 1) && f b) := by
  by_cases c : b = i
  · subst c
    rw [decide_eq_false (Nat.lt_irrefl b), decide_eq_true rfl, decide_eq_true (Nat.lt_succ_self b), Bool.false_and, Bool.false_or, Bool.and_true, Bool.true_and]
  · rw [decide_eq_false c, Bool.and_false, Bool.or_false]
    by_cases d : b < i
    · rw [decide_eq_true d, decide_eq_true (by omega)]
    · rw [decide_eq_false d, decide_eq_false (by omega)]
theorem rt_isG0 (P G S : Nat → Int32) (st p : Nat) : rt_isG P G S st p 0 0 := by
  intro b _
  rw [b_0, decide_eq_false (Nat.not_lt_zero b), Bool.false_and]
theorem rt_isGx {P G S : Nat → Int32} {st p i : Nat} {s : Int32} (hi : i < 18) (I : rt_isG P G S st p i s) : rt_isG P G S st p (i + 1) (s ||| (nI (rt_b P G S st i p).toNat <<< (nI i &&& 31))) := by
  intro b hb
  rw [b_or, I b hb, rt_qs _ (by omega) hb]
  exact rt_gs (fun z => rt_b P G S st z p) i b
theorem rt_isGT {P G S : Nat → Int32} {st p i : Nat} {s : Int32} (hi : i < 18) (I : rt_isG P G S st p i s) (h : rt_b P G S st i p = true) : rt_isG P G S st p (i + 1) (s ||| ((1 : Int32) <<< (nI i &&& 31))) := by
  have z := rt_isGx hi I
  rw [h] at z
  exact z
theorem rt_isGF {P G S : Nat → Int32} {st p i : Nat} {s : Int32} (I : rt_isG P G S st p i s) (h : rt_b P G S st i p = false) : rt_isG P G S st p (i + 1) s := by
  intro b hb
  rw [I b hb, ← rt_gs (fun z => rt_b P G S st z p) i b]
  show _ = ((decide (b < i) && rt_b P G S st b p) || (rt_b P G S st i p && decide (b = i)))
  rw [h, Bool.false_and, Bool.or_false]
theorem rt_isG_u {P G S : Nat → Int32} {st p i : Nat} {r r' : Int32} (a : rt_isG P G S st p i r) (b : rt_isG P G S st p i r') : r = r' :=
  b_ext (fun i hi => (a i hi).trans (b i hi).symm)
theorem rt_x33 {post : Int32 → Prop} {fn : Int32} {st p : Nat} {P G R S : Nat → Int32} (hG : rt_Z 18 G) (hR : rt_Z 3 R) (hRS : rt_RS R S) (hp : p < 6) (H : ∀ r, rt_isG P G S st p 18 r → post r) : ∃ n, wX_groups_33 post (nI p) (nI (st % 8)) fn P G R n 0 0 := by
  refine loop_0 (fun n i s => wX_groups_33 post (nI p) (nI (st % 8)) fn P G R n s (nI i)) (fun i s => rt_isG P G S st p i s) 18 0 (rt_isG0 P G S st p) ?_ ?_
  · intro n s I
    exact br_t (nI_le (a := 18) (b := 18) (by omega) (by decide)) (H s I)
  · intro n i s hi I K
    refine br_f (nI_ge (b := 18) hi (by decide)) (rt_xper hG hR hRS (by omega) hi (fun r hr => ?_))
    have e : (r >>> (nI p &&& 31)) &&& 1 = nI (rt_b P G S st i p).toNat := by
      rw [rt_bit (by omega), hr p (by omega)]; rfl
    exact nm_r e (nm_e (nm_r (nI_1 i) (K _ (rt_isGx hi I))))
theorem rt_y39 {post : Int32 → SY → Prop} {fn : Int32} {st p : Nat} {P G S m : Nat → Int32} (hp : p < 6) (hm : ∀ h, h < 18 → rt_isQ (rt_e G S (st % 8)) (rt_p P (st % 8)) h (m h)) (H : ∀ r, rt_isG P G S st p 18 r → post r (fn, P, G, S, m)) : ∃ n, wY_groups_39 post (nI p) fn P G S m n 0 0 := by
  refine loop_0 (fun n i s => wY_groups_39 post (nI p) fn P G S m n s (nI i)) (fun i s => rt_isG P G S st p i s) 18 0 (rt_isG0 P G S st p) ?_ ?_
  · intro n s I
    exact br_t (nI_le (a := 18) (b := 18) (by omega) (by decide)) (H s I)
  · intro n i s hi I K
    refine br_f (nI_ge (b := 18) hi (by decide)) ⟨pk_in i 18 hi, ?_⟩
    rw [nI_clamp (n := i) (by omega)]
    have e : bt (m i) p = rt_b P G S st i p := hm i hi p (by omega)
    refine rt_yin (by omega) (fun a => ?_) (fun a => ?_)
    · exact br_f (by decide) (nm_e (nm_r (nI_1 i) (K _ (rt_isGT hi I (e.symm.trans a)))))
    · exact br_t rfl (nm_r (nI_1 i) (K _ (rt_isGF I (e.symm.trans a))))
theorem rt_ygroups {post : Int32 → SY → Prop} {n st p : Nat} {P G S M : Nat → Int32} (hn : n < 2 ^ 30) (ht : st ≤ n) (h : ¬ nI st ≤ nI n - 8) (hp : p < 6) (H : ∀ m r, rt_isG P G S st p 18 r → post r (nI n, P, G, S, m)) : wpY_groups post (nI n, P, G, S, M) (nI st) (nI p) := by
  unfold wpY_groups
  dsimp only
  exact rt_yp1 hp (br_f (by decide) (rt_ye1 hn ht (br_f (by decide) (rt_yk1 hn ht h (br_f (by decide) (rt_yadd (by omega) (fun m hm => rt_y39 hp hm (H m))))))))
theorem i_vc_groups {k : Nat} {u : SX} {v : SY} (I : i_Rel k u v) (hk : k + 4 ≤ 2048) (v1 : Int32) (v2 : Int32) : wpX_groups (fun r => wpY_groups (fun r' v' => r' = r ∧ i_Rel (k + 4) u v') v v1 v2) u v1 v2 := by
  obtain ⟨n, P, G, R, S, M, rfl, rfl, hk2, hG, hR, hRS⟩ := I
  have J : ∀ m, i_Rel (k + 4) (nI n, P, G, R) (nI n, P, G, S, m) := fun m => ⟨n, P, G, R, S, m, rfl, rfl, by omega, hG, hR, hRS⟩
  have hn : n < 2 ^ 30 := by omega
  unfold wpX_groups
  dsimp only
  rcases rt_rg v2 6 (by decide) with hp | ⟨p, hp, rfl⟩
  · unfold wpY_groups
    dsimp only
    exact rt_xp0 hp (br_t rfl (rt_yp0 hp (br_t rfl ⟨rfl, J M⟩)))
  rcases rt_st n hn v1 with hs | ⟨t, ht, rfl⟩
  · unfold wpY_groups
    dsimp only
    exact rt_xp1 hp (br_f (by decide) (rt_xf0 hs (br_f (by decide) (rt_yp1 hp (br_f (by decide) (rt_ye0 hs (br_t rfl ⟨rfl, J M⟩)))))))
  by_cases h : nI t ≤ nI n - 8
  · unfold wpY_groups
    dsimp only
    exact rt_xp1 hp (br_f (by decide) (rt_xf2 hn ht h (br_f (by decide) (rt_yp1 hp (br_f (by decide) (rt_ye1 hn ht (br_f (by decide) (rt_yk0 hn ht h (br_t rfl ⟨rfl, J M⟩)))))))))
  · exact rt_xp1 hp (br_f (by decide) (rt_xf1 hn ht h (br_t rfl (rt_slot (by omega) (rt_x33 hG hR hRS hp (fun r hr => rt_ygroups hn ht h hp (fun m r' hr' => ⟨rt_isG_u hr' hr, J m⟩)))))))
