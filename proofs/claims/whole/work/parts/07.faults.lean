/-! which states are kept; check, members, sources -/
theorem rt_st (n : Nat) (hn : n < 2 ^ 30) (p : Int32) : (p < 0 ∨ nI n < p) ∨ ∃ t : Nat, t ≤ n ∧ p = nI t := by
  by_cases c : p < 0
  · exact Or.inl (Or.inl c)
  · obtain ⟨j, hj, rfl⟩ := nI_of c
    by_cases d : j ≤ n
    · exact Or.inr ⟨j, d, rfl⟩
    · exact Or.inl (Or.inr (nI_lt (by omega) hj))
theorem rt_xf0 {post : Int32 → Prop} {n : Nat} {p : Int32} {P G R : Nat → Int32} (h : p < 0 ∨ nI n < p) (a : post (-1)) : wpX_faultOf post (nI n, P, G, R) p := by
  by_cases c : p < 0
  · exact br_t c a
  · exact br_f c (br_f (Int32.not_le.mpr (h.resolve_left c)) a)
theorem rt_xf2 {post : Int32 → Prop} {n t : Nat} {P G R : Nat → Int32} (hn : n < 2 ^ 30) (ht : t ≤ n) (h : nI t ≤ nI n - 8) (a : post (-2)) : wpX_faultOf post (nI n, P, G, R) (nI t) :=
  br_f (nI_pos (by omega)) (br_t (nI_le ht (by omega)) (br_f (Int32.not_lt.mpr h) a))
theorem rt_xf1 {post : Int32 → Prop} {n t : Nat} {P G R : Nat → Int32} (hn : n < 2 ^ 30) (ht : t ≤ n) (h : ¬ nI t ≤ nI n - 8) (a : post 0) : wpX_faultOf post (nI n, P, G, R) (nI t) :=
  br_f (nI_pos (by omega)) (br_t (nI_le ht (by omega)) (br_t (Int32.not_le.mp h) a))
theorem rt_xfa {post : Int32 → Prop} {fn : Int32} {p : Int32} {P G R : Nat → Int32} (H : ∀ r, post r) : wpX_faultOf post (fn, P, G, R) p :=
  ⟨fun _ => H _, fun _ => ⟨fun _ => ⟨fun _ => H _, fun _ => H _⟩, fun _ => H _⟩⟩
theorem rt_ye0 {post : Int32 → Prop} {n : Nat} {p : Int32} {P G S M : Nat → Int32} (h : p < 0 ∨ nI n < p) (a : post 0) : wpY_exists post (nI n, P, G, S, M) p := by
  by_cases c : p < 0
  · exact br_t c a
  · exact br_f c (br_t (h.resolve_left c) a)
theorem rt_ye1 {post : Int32 → Prop} {n t : Nat} {P G S M : Nat → Int32} (hn : n < 2 ^ 30) (ht : t ≤ n) (a : post 1) : wpY_exists post (nI n, P, G, S, M) (nI t) :=
  br_f (nI_pos (by omega)) (br_f (nI_nlt ht (by omega)) a)
theorem rt_yk0 {post : Int32 → Prop} {n t : Nat} {P G S M : Nat → Int32} (hn : n < 2 ^ 30) (ht : t ≤ n) (h : nI t ≤ nI n - 8) (a : post 0) : wpY_isKept post (nI n, P, G, S, M) (nI t) := by
  unfold wpY_isKept
  dsimp only
  exact rt_ye1 hn ht (br_f (by decide) (br_t h a))
theorem rt_yk1 {post : Int32 → Prop} {n t : Nat} {P G S M : Nat → Int32} (hn : n < 2 ^ 30) (ht : t ≤ n) (h : ¬ nI t ≤ nI n - 8) (a : post 1) : wpY_isKept post (nI n, P, G, S, M) (nI t) := by
  unfold wpY_isKept
  dsimp only
  exact rt_ye1 hn ht (br_f (by decide) (br_f h a))
/-- person i belongs to group h in state st -/
noncomputable def rt_b (P G S : Nat → Int32) (st h i : Nat) : Bool := rt_q (rt_e G S (st % 8)) (rt_p P (st % 8)) h i
theorem rt_ycheck {post : Int32 → SY → Prop} {n st p g : Nat} {P G S M : Nat → Int32} (hn : n < 2 ^ 30) (ht : st ≤ n) (h : ¬ nI st ≤ nI n - 8) (hp : p < 6) (hg : g < 18) (H : ∀ m, post (nI (rt_b P G S st g p).toNat) (nI n, P, G, S, m)) : wpY_check post (nI n, P, G, S, M) (nI st) (nI p) (nI g) := by
  unfold wpY_check
  dsimp only
  refine rt_yp1 hp (br_f (by decide) (rt_yg1 hg (br_f (by decide) (rt_ye1 hn ht (br_f (by decide) (rt_yk1 hn ht h (br_f (by decide) (rt_yadd (by omega) (fun m hm => ?_)))))))))
  refine ⟨pk_in g 18 hg, ?_⟩
  rw [nI_clamp (n := g) (by omega)]
  have e : bt (m g) p = rt_b P G S st g p := hm g hg p (by omega)
  have H1 := H m
  refine rt_yin (by omega) (fun a => ?_) (fun a => ?_)
  · rw [← e, a] at H1
    exact br_f (by decide) H1
  · rw [← e, a] at H1
    exact br_t rfl H1
theorem rt_xcheck {post : Int32 → Prop} {n st p g : Nat} {P G R S : Nat → Int32} (hG : rt_Z 18 G) (hR : rt_Z 3 R) (hRS : rt_RS R S) (hn : n < 2 ^ 30) (ht : st ≤ n) (h : ¬ nI st ≤ nI n - 8) (hp : p < 6) (hg : g < 18) (H : post (nI (rt_b P G S st g p).toNat)) : wpX_check post (nI n, P, G, R) (nI st) (nI p) (nI g) := by
  unfold wpX_check
  dsimp only
  refine rt_xp1 hp (br_f (by decide) (rt_xg1 hg (br_f (by decide) (rt_xf1 hn ht h (br_t rfl (rt_slot (by omega) (rt_xper hG hR hRS (by omega) hg (fun r hr => ?_))))))))
  rw [rt_bit (by omega), hr p (by omega)]
  exact H
theorem i_vc_check {k : Nat} {u : SX} {v : SY} (I : i_Rel k u v) (hk : k + 4 ≤ 2048) (v1 : Int32) (v2 : Int32) (v3 : Int32) : wpX_check (fun r => wpY_check (fun r' v' => r' = r ∧ i_Rel (k + 4) u v') v v1 v2 v3) u v1 v2 v3 := by
  obtain ⟨n, P, G, R, S, M, rfl, rfl, hk2, hG, hR, hRS⟩ := I
  have J : ∀ m, i_Rel (k + 4) (nI n, P, G, R) (nI n, P, G, S, m) := fun m => ⟨n, P, G, R, S, m, rfl, rfl, by omega, hG, hR, hRS⟩
  have hn : n < 2 ^ 30 := by omega
  rcases rt_rg v2 6 (by decide) with hp | ⟨p, hp, rfl⟩
  · unfold wpX_check wpY_check
    dsimp only
    exact rt_xp0 hp (br_t rfl (rt_yp0 hp (br_t rfl ⟨rfl, J M⟩)))
  rcases rt_rg v3 18 (by decide) with hg | ⟨g, hg, rfl⟩
  · unfold wpX_check wpY_check
    dsimp only
    exact rt_xp1 hp (br_f (by decide) (rt_xg0 hg (br_t rfl (rt_yp1 hp (br_f (by decide) (rt_yg0 hg (br_t rfl ⟨rfl, J M⟩)))))))
  rcases rt_st n hn v1 with hs | ⟨t, ht, rfl⟩
  · unfold wpX_check wpY_check
    dsimp only
    exact rt_xp1 hp (br_f (by decide) (rt_xg1 hg (br_f (by decide) (rt_xf0 hs (br_f (by decide) (rt_yp1 hp (br_f (by decide) (rt_yg1 hg (br_f (by decide) (rt_ye0 hs (br_t rfl ⟨rfl, J M⟩)))))))))))
  by_cases h : nI t ≤ nI n - 8
  · unfold wpX_check wpY_check
    dsimp only
    exact rt_xp1 hp (br_f (by decide) (rt_xg1 hg (br_f (by decide) (rt_xf2 hn ht h (br_f (by decide) (rt_yp1 hp (br_f (by decide) (rt_yg1 hg (br_f (by decide) (rt_ye1 hn ht (br_f (by decide) (rt_yk0 hn ht h (br_t rfl ⟨rfl, J M⟩)))))))))))))
  · exact rt_xcheck hG hR hRS hn ht h hp hg (rt_ycheck hn ht h hp hg (fun m => ⟨rfl, J m⟩))
theorem i_vc_members {k : Nat} {u : SX} {v : SY} (I : i_Rel k u v) (hk : k + 4 ≤ 2048) (v1 : Int32) (v2 : Int32) : wpX_members (fun r => wpY_members (fun r' v' => r' = r ∧ i_Rel (k + 4) u v') v v1 v2) u v1 v2 := by
  obtain ⟨n, P, G, R, S, M, rfl, rfl, hk2, hG, hR, hRS⟩ := I
  have J : ∀ m, i_Rel (k + 4) (nI n, P, G, R) (nI n, P, G, S, m) := fun m => ⟨n, P, G, R, S, m, rfl, rfl, by omega, hG, hR, hRS⟩
  have hn : n < 2 ^ 30 := by omega
  unfold wpX_members wpY_members
  dsimp only
  rcases rt_rg v2 18 (by decide) with hg | ⟨g, hg, rfl⟩
  · exact rt_xg0 hg (br_t rfl (rt_yg0 hg (br_t rfl ⟨rfl, J M⟩)))
  rcases rt_st n hn v1 with hs | ⟨t, ht, rfl⟩
  · exact rt_xg1 hg (br_f (by decide) (rt_xf0 hs (br_f (by decide) (rt_yg1 hg (br_f (by decide) (rt_ye0 hs (br_t rfl ⟨rfl, J M⟩)))))))
  by_cases h : nI t ≤ nI n - 8
  · exact rt_xg1 hg (br_f (by decide) (rt_xf2 hn ht h (br_f (by decide) (rt_yg1 hg (br_f (by decide) (rt_ye1 hn ht (br_f (by decide) (rt_yk0 hn ht h (br_t rfl ⟨rfl, J M⟩)))))))))
  · refine rt_xg1 hg (br_f (by decide) (rt_xf1 hn ht h (br_t rfl (rt_slot (by omega) (rt_xper hG hR hRS (by omega) hg (fun r hr => ?_))))))
    refine rt_yg1 hg (br_f (by decide) (rt_ye1 hn ht (br_f (by decide) (rt_yk1 hn ht h (br_f (by decide) (rt_yadd (by omega) (fun m hm => ?_)))))))
    refine ⟨pk_in g 18 hg, ?_, J m⟩
    rw [nI_clamp (n := g) (by omega)]
    exact rt_isQ_u (hm g hg) hr
theorem i_vc_sources {k : Nat} {u : SX} {v : SY} (I : i_Rel k u v) (hk : k + 4 ≤ 2048) (v1 : Int32) (v2 : Int32) : wpX_sources (fun r => wpY_sources (fun r' => r' = r ∧ i_Rel (k + 4) u v) v v1 v2) u v1 v2 := by
  obtain ⟨n, P, G, R, S, M, rfl, rfl, hk2, hG, hR, hRS⟩ := I
  have J : i_Rel (k + 4) (nI n, P, G, R) (nI n, P, G, S, M) := ⟨n, P, G, R, S, M, rfl, rfl, by omega, hG, hR, hRS⟩
  have hn : n < 2 ^ 30 := by omega
  unfold wpX_sources wpY_sources
  dsimp only
  rcases rt_rg v2 18 (by decide) with hg | ⟨g, hg, rfl⟩
  · exact rt_xg0 hg (br_t rfl (rt_yg0 hg (br_t rfl ⟨rfl, J⟩)))
  rcases rt_st n hn v1 with hs | ⟨t, ht, rfl⟩
  · exact rt_xg1 hg (br_f (by decide) (rt_xf0 hs (br_f (by decide) (rt_yg1 hg (br_f (by decide) (rt_ye0 hs (br_t rfl ⟨rfl, J⟩)))))))
  by_cases h : nI t ≤ nI n - 8
  · exact rt_xg1 hg (br_f (by decide) (rt_xf2 hn ht h (br_f (by decide) (rt_yg1 hg (br_f (by decide) (rt_ye1 hn ht (br_f (by decide) (rt_yk0 hn ht h (br_t rfl ⟨rfl, J⟩)))))))))
  · refine rt_xg1 hg (br_f (by decide) (rt_xf1 hn ht h (br_t rfl (rt_slot (by omega) (rt_xlead hG hR hRS (by omega) hg (fun r hr => ?_))))))
    refine rt_yg1 hg (br_f (by decide) (rt_ye1 hn ht (br_f (by decide) (rt_yk1 hn ht h (br_f (by decide) ⟨by decide, nm_r (rt_rem8 (by omega)) (nm_e ?_)⟩)))))
    exact rt_y42 (by omega) hg _ (rt_Out_1 _ hg) (fun r' hr' => ⟨rt_isL_u hr' hr, J⟩)
