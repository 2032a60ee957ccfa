/-! changed -/
theorem rt_xcount {post : Int32 → Prop} {x : Int32} (H : post (nI (rt_s (fun p => (bt x p).toNat) 6))) : wpX_countPersons post x := by
  unfold wpX_countPersons
  refine loop_0 (fun n i s => wX_countPersons_4 post x n s (nI i)) (fun i s => s = nI (rt_s (fun p => (bt x p).toNat) i)) 6 0 rfl ?_ ?_
  · intro n s I
    subst I
    exact br_t (nI_le (a := 6) (b := 6) (by omega) (by decide)) H
  · intro n i s hi I K
    subst I
    refine br_f (nI_ge (b := 6) hi (by decide)) (nm_r (e' := nI (rt_s (fun p => (bt x p).toNat) (i + 1))) ?_ (nm_r (nI_1 i) (K _ rfl)))
    rw [rt_bit (by omega), nI_add]
    rfl
/-- one if person p belongs to group g in one of the two states and not in the other -/
noncomputable def rt_d (P G S : Nat → Int32) (s1 s2 g p : Nat) : Nat := (rt_b P G S s1 g p ^^ rt_b P G S s2 g p).toNat
theorem rt_x60 {post : Int32 → Prop} {fn : Int32} {s1 s2 : Nat} {P G R S : Nat → Int32} (hG : rt_Z 18 G) (hR : rt_Z 3 R) (hRS : rt_RS R S) (H : post (nI (rt_s (fun g => rt_s (fun p => rt_d P G S s1 s2 g p) 6) 18))) : ∃ n, wX_changed_60 post (nI (s1 % 8)) (nI (s2 % 8)) fn P G R n 0 0 := by
  refine loop_0 (fun n i s => wX_changed_60 post (nI (s1 % 8)) (nI (s2 % 8)) fn P G R n s (nI i)) (fun i s => s = nI (rt_s (fun g => rt_s (fun p => rt_d P G S s1 s2 g p) 6) i)) 18 0 rfl ?_ ?_
  · intro n s I
    subst I
    exact br_t (nI_le (a := 18) (b := 18) (by omega) (by decide)) H
  · intro n i s hi I K
    subst I
    refine br_f (nI_ge (b := 18) hi (by decide)) (rt_xper hG hR hRS (by omega) hi (fun r hr => rt_xper hG hR hRS (by omega) hi (fun r2 hr2 => nm_e (rt_xcount ?_))))
    have e : rt_s (fun p => (bt (r ^^^ r2) p).toNat) 6 = rt_s (fun p => rt_d P G S s1 s2 i p) 6 := by
      refine rt_s_congr 6 (fun p hp => ?_)
      show (bt (r ^^^ r2) p).toNat = _
      rw [b_xor, hr p (by omega), hr2 p (by omega)]
      rfl
    rw [e]
    refine nm_r (nI_add _ _) (nm_r (nI_1 i) (K _ rfl))
theorem rt_y70 {post : Int32 → SY → Prop} {J42 : Int32 → Int32 → Int32 → (Nat → Int32) → (Nat → Int32) → (Nat → Int32) → (Nat → Int32) → Prop} {x1 x2 x4 r r2 fn : Int32} {P G S m : Nat → Int32} (c : Nat) (H : J42 (nI (c + rt_s (fun g => (bt (r ^^^ r2) g).toNat) 18)) (x4 + 1) fn P G S m) : ∃ n, wY_changed_70 post J42 x1 x2 x4 r r2 fn P G S m n (nI c) 0 := by
  refine loop_0 (fun n i s => wY_changed_70 post J42 x1 x2 x4 r r2 fn P G S m n s (nI i)) (fun i s => s = nI (c + rt_s (fun g => (bt (r ^^^ r2) g).toNat) i)) 18 (nI c) rfl ?_ ?_
  · intro n s I
    subst I
    exact br_t (nI_le (a := 18) (b := 18) (by omega) (by decide)) (nm_e H)
  · intro n i s hi I K
    subst I
    refine br_f (nI_ge (b := 18) hi (by decide)) (rt_yin (by omega) (fun a => ?_) (fun a => ?_))
    · refine br_f (by decide) (nm_r (nI_1 _) (nm_r (nI_1 i) (K _ ?_)))
      show _ = nI (c + (rt_s (fun g => (bt (r ^^^ r2) g).toNat) i + (bt (r ^^^ r2) i).toNat))
      rw [a]; rfl
    · refine br_t rfl (nm_r (nI_1 i) (K _ ?_))
      show _ = nI (c + (rt_s (fun g => (bt (r ^^^ r2) g).toNat) i + (bt (r ^^^ r2) i).toNat))
      rw [a]; rfl
theorem rt_y42c {post : Int32 → SY → Prop} {n s1 s2 : Nat} {P G S M : Nat → Int32} (hn : n < 2 ^ 30) (h1 : s1 ≤ n) (k1 : ¬ nI s1 ≤ nI n - 8) (h2 : s2 ≤ n) (k2 : ¬ nI s2 ≤ nI n - 8) (H : ∀ m, post (nI (rt_s (fun p => rt_s (fun g => rt_d P G S s1 s2 g p) 18) 6)) (nI n, P, G, S, m)) : ∃ f, wY_changed_42 post (nI s1) (nI s2) f 0 0 (nI n) P G S M := by
  refine loop_0 (fun f i (s : Int32 × (Nat → Int32)) => wY_changed_42 post (nI s1) (nI s2) f s.1 (nI i) (nI n) P G S s.2) (fun i s => s.1 = nI (rt_s (fun p => rt_s (fun g => rt_d P G S s1 s2 g p) 18) i)) 6 (0, M) rfl ?_ ?_
  · intro f s I
    obtain ⟨s, m⟩ := s
    have I' : s = _ := I
    subst I'
    exact br_t (nI_le (a := 6) (b := 6) (by omega) (by decide)) (H m)
  · intro f i s hi I K
    obtain ⟨s, m⟩ := s
    have I' : s = _ := I
    subst I'
    refine br_f (nI_ge (b := 6) hi (by decide)) (rt_ygroups hn h1 k1 hi (fun m1 r hr => rt_ygroups hn h2 k2 hi (fun m2 r2 hr2 => rt_y70 _ ?_)))
    have e : rt_s (fun g => (bt (r ^^^ r2) g).toNat) 18 = rt_s (fun g => rt_d P G S s1 s2 g i) 18 := by
      refine rt_s_congr 18 (fun g hg => ?_)
      show (bt (r ^^^ r2) g).toNat = _
      rw [b_xor, hr g (by omega), hr2 g (by omega), decide_eq_true hg, Bool.true_and, Bool.true_and]
      rfl
    rw [e, nI_1]
    exact K (nI (rt_s (fun p => rt_s (fun g => rt_d P G S s1 s2 g p) 18) (i + 1)), m2) rfl
theorem i_vc_changed {k : Nat} {u : SX} {v : SY} (I : i_Rel k u v) (hk : k + 4 ≤ 2048) (v1 : Int32) (v2 : Int32) : wpX_changed (fun r => wpY_changed (fun r' v' => r' = r ∧ i_Rel (k + 4) u v') v v1 v2) u v1 v2 := by
  obtain ⟨n, P, G, R, S, M, rfl, rfl, hk2, hG, hR, hRS⟩ := I
  have J : ∀ m, i_Rel (k + 4) (nI n, P, G, R) (nI n, P, G, S, m) := fun m => ⟨n, P, G, R, S, m, rfl, rfl, by omega, hG, hR, hRS⟩
  have hn : n < 2 ^ 30 := by omega
  unfold wpX_changed wpY_changed
  dsimp only
  rcases rt_st n hn v1 with hs | ⟨s1, h1, rfl⟩
  · exact rt_xf0 hs (rt_xfa (fun r => br_t rfl (rt_ye0 hs (br_t rfl ⟨rfl, J M⟩))))
  rcases rt_st n hn v2 with hs | ⟨s2, h2, rfl⟩
  · by_cases k1 : nI s1 ≤ nI n - 8
    · exact rt_xf2 hn h1 k1 (rt_xf0 hs (br_f (by decide) (br_t rfl (rt_ye1 hn h1 (br_f (by decide) (rt_ye0 hs (br_t rfl ⟨rfl, J M⟩)))))))
    · exact rt_xf1 hn h1 k1 (rt_xf0 hs (br_f (by decide) (br_t rfl (rt_ye1 hn h1 (br_f (by decide) (rt_ye0 hs (br_t rfl ⟨rfl, J M⟩)))))))
  by_cases k1 : nI s1 ≤ nI n - 8
  · by_cases k2 : nI s2 ≤ nI n - 8
    · exact rt_xf2 hn h1 k1 (rt_xf2 hn h2 k2 (br_f (by decide) (br_f (by decide) (br_t rfl (rt_ye1 hn h1 (br_f (by decide) (rt_ye1 hn h2 (br_f (by decide) (rt_yk0 hn h1 k1 (br_t rfl ⟨rfl, J M⟩))))))))))
    · exact rt_xf2 hn h1 k1 (rt_xf1 hn h2 k2 (br_f (by decide) (br_f (by decide) (br_t rfl (rt_ye1 hn h1 (br_f (by decide) (rt_ye1 hn h2 (br_f (by decide) (rt_yk0 hn h1 k1 (br_t rfl ⟨rfl, J M⟩))))))))))
  by_cases k2 : nI s2 ≤ nI n - 8
  · exact rt_xf1 hn h1 k1 (rt_xf2 hn h2 k2 (br_f (by decide) (br_f (by decide) (br_f (by decide) (br_t rfl (rt_ye1 hn h1 (br_f (by decide) (rt_ye1 hn h2 (br_f (by decide) (rt_yk1 hn h1 k1 (br_f (by decide) (rt_yk0 hn h2 k2 (br_t rfl ⟨rfl, J M⟩)))))))))))))
  refine rt_xf1 hn h1 k1 (rt_xf1 hn h2 k2 (br_f (by decide) (br_f (by decide) (br_f (by decide) (br_f (by decide) (rt_slot (by omega) (rt_slot (by omega) (rt_x60 hG hR hRS ?_))))))))
  refine rt_ye1 hn h1 (br_f (by decide) (rt_ye1 hn h2 (br_f (by decide) (rt_yk1 hn h1 k1 (br_f (by decide) (rt_yk1 hn h2 k2 (br_f (by decide) (rt_y42c hn h1 k1 h2 k2 (fun m => ⟨?_, J m⟩)))))))))
  exact congrArg nI (rt_s_comm (fun g p => rt_d P G S s1 s2 g p) 6 18).symm
