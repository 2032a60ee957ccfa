/-! since -/
theorem rt_kept {n d : Nat} (hn : n < 2 ^ 30) (hd : d < 8) : ¬ nI (n - d) ≤ nI n - 8 := by
  show ¬ nI (n - d) ≤ nI n - nI 8
  rw [Int32.le_iff_toInt_le, nI_toInt (by omega), pk_sub_toInt hn (by omega)]
  omega
theorem rt_m1 : nI 0 + (-1) < 0 := by decide
theorem rt_since {n p g fr : Nat} {P G R S : Nat → Int32} (hG : rt_Z 18 G) (hR : rt_Z 3 R) (hRS : rt_RS R S) (hn : n < 2 ^ 30) (hp : p < 6) (hg : g < 18) (hf : fr ≤ n) : ∀ d, d ≤ 8 → ∃ r : Int32,
    (∀ post : Int32 → Prop, post r → wX_since_32 post (nI p) (nI g) (nI fr) (nI n) P G R (d + 1) (nI d + (-1))) ∧
    (∀ (post : Int32 → SY → Prop) (M : Nat → Int32), (∀ m, post r (nI n, P, G, S, m)) → wY_since_34 post (nI p) (nI g) (nI fr) (d + 1) (nI d + (-1)) (nI n) P G S M) := by
  intro d
  induction d with
  | zero =>
    intro _
    exact ⟨-3, fun post h => br_t rt_m1 h, fun post M h => br_t rt_m1 (h M)⟩
  | succ d ih =>
    intro hd
    obtain ⟨r, hX, hY⟩ := ih (by omega)
    rw [pk_m1]
    have h0 : ¬ nI d < 0 := nI_pos (by omega)
    by_cases c : nI n - nI d < nI fr
    · exact ⟨r, fun post h => br_f h0 (nm_e (br_t c (nm_e (hX post h)))), fun post M h => br_f h0 (nm_e (br_t c (nm_e (hY post M h))))⟩
    · have hdn : d ≤ n := by
        rcases Nat.lt_or_ge n d with z | z
        · exact absurd (Int32.lt_of_lt_of_le (pk_sneg (by omega) z) (nI_pos' (by omega))) c
        · exact z
      have e := pk_sub hdn
      rw [e] at c
      have hk := rt_kept (d := d) hn (by omega)
      cases q : rt_b P G S (n - d) g p with
      | true =>
        refine ⟨nI (n - d), fun post h => br_f h0 (nm_r e (br_f c (rt_slot (by omega) (rt_xper hG hR hRS (by omega) hg (fun r hr => ?_))))), fun post M h => br_f h0 (nm_r e (br_f c (rt_ycheck hn (by omega) hk hp hg (fun m => ?_))))⟩
        · have w : bt r p = true := (hr p (by omega)).trans q
          exact br_t (rt_bitT (by omega) w) h
        · rw [q]
          exact br_t rfl (h m)
      | false =>
        refine ⟨r, fun post h => br_f h0 (nm_r e (br_f c (rt_slot (by omega) (rt_xper hG hR hRS (by omega) hg (fun r hr => ?_))))), fun post M h => br_f h0 (nm_r e (br_f c (rt_ycheck hn (by omega) hk hp hg (fun m => ?_))))⟩
        · have w : bt r p = false := (hr p (by omega)).trans q
          exact br_f (rt_bitN (by omega) w) (nm_e (hX post h))
        · rw [q]
          exact br_f (by decide) (nm_e (hY post m h))
theorem rt_e7 : nI 8 + (-1) = 7 := by decide
theorem i_vc_since {k : Nat} {u : SX} {v : SY} (I : i_Rel k u v) (hk : k + 4 ≤ 2048) (v1 : Int32) (v2 : Int32) (v3 : Int32) : wpX_since (fun r => wpY_since (fun r' v' => r' = r ∧ i_Rel (k + 4) u v') v v1 v2 v3) u v1 v2 v3 := by
  obtain ⟨n, P, G, R, S, M, rfl, rfl, hk2, hG, hR, hRS⟩ := I
  have J : ∀ m, i_Rel (k + 4) (nI n, P, G, R) (nI n, P, G, S, m) := fun m => ⟨n, P, G, R, S, m, rfl, rfl, by omega, hG, hR, hRS⟩
  have hn : n < 2 ^ 30 := by omega
  unfold wpX_since wpY_since
  dsimp only
  rcases rt_rg v1 6 (by decide) with hp | ⟨p, hp, rfl⟩
  · exact rt_xp0 hp (br_t rfl (rt_yp0 hp (br_t rfl ⟨rfl, J M⟩)))
  rcases rt_rg v2 18 (by decide) with hg | ⟨g, hg, rfl⟩
  · exact rt_xp1 hp (br_f (by decide) (rt_xg0 hg (br_t rfl (rt_yp1 hp (br_f (by decide) (rt_yg0 hg (br_t rfl ⟨rfl, J M⟩)))))))
  rcases rt_st n hn v3 with hs | ⟨fr, hf, rfl⟩
  · by_cases c : v3 < 0
    · exact rt_xp1 hp (br_f (by decide) (rt_xg1 hg (br_f (by decide) (br_t c (rt_yp1 hp (br_f (by decide) (rt_yg1 hg (br_f (by decide) (br_t c ⟨rfl, J M⟩)))))))))
    · have c2 : ¬ v3 ≤ nI n := Int32.not_le.mpr (hs.resolve_left c)
      exact rt_xp1 hp (br_f (by decide) (rt_xg1 hg (br_f (by decide) (br_f c (br_f c2 (rt_yp1 hp (br_f (by decide) (rt_yg1 hg (br_f (by decide) (br_f c (br_f c2 ⟨rfl, J M⟩)))))))))))
  · have c : ¬ nI fr < 0 := nI_pos (by omega)
    have c2 : nI fr ≤ nI n := nI_le hf (by omega)
    obtain ⟨r, hX, hY⟩ := rt_since (P := P) hG hR hRS hn hp hg hf 8 (by omega)
    rw [rt_e7] at hX hY
    exact rt_xp1 hp (br_f (by decide) (rt_xg1 hg (br_f (by decide) (br_f c (br_t c2 ⟨_, hX _ (rt_yp1 hp (br_f (by decide) (rt_yg1 hg (br_f (by decide) (br_f c (br_t c2 ⟨_, hY _ M (fun m => ⟨rfl, J m⟩)⟩))))))⟩)))))
