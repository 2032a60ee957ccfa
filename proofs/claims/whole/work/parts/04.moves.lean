/-! enter, nest, rule, latest -/
theorem i_vc_enter {k : Nat} {u : SX} {v : SY} (I : i_Rel k u v) (hk : k + 4 ≤ 2048) (v1 : Int32) (v2 : Int32) (v3 : Int32) : wpX_enter (fun r u' => wpY_enter (fun r' v' => r' = r ∧ i_Rel (k + 4) u' v') v v1 v2 (lw_bz v3)) u v1 v2 (lw_bz v3) := by
  have J := i_up I
  obtain ⟨n, P, G, R, S, M, rfl, rfl, hn, hG, hR, hRS⟩ := I
  unfold wpX_enter wpY_enter
  dsimp only
  rcases rt_rg v1 6 (by decide) with hp | ⟨p, hp, rfl⟩
  · exact rt_xp0 hp (br_t rfl (rt_yp0 hp (br_t rfl ⟨rfl, J⟩)))
  rcases rt_rg v2 18 (by decide) with hg | ⟨g, hg, rfl⟩
  · exact rt_xp1 hp (br_f (by decide) (rt_xg0 hg (br_t rfl (rt_yp1 hp (br_f (by decide) (rt_yg0 hg (br_t rfl ⟨rfl, J⟩)))))))
  refine rt_xp1 hp (br_f (by decide) (rt_xg1 hg (br_f (by decide) (rt_xnext (by omega) (fun R' hc => ?_)))))
  have hf : (n + 1) % 8 < 8 := by omega
  have ho : n % 8 < 8 := by omega
  generalize hfe : (n + 1) % 8 = f at *
  generalize hoe : n % 8 = o at *
  refine rt_slot (by omega) ?_
  rw [hfe]
  refine nm_r (rt_ix18 f g) ⟨pk_in (18 * f + g) 144 (by omega), rt_xw ⟨pk_in (18 * f + g) 144 (by omega), nm_e ?_⟩⟩
  refine rt_yp1 hp (br_f (by decide) (rt_yg1 hg (br_f (by decide) (rt_ynext (by omega) ?_))))
  rw [hfe, hoe]
  refine nm_r (rt_iy18 f g) ⟨pk_in (18 * f + g) 144 (by omega), rt_yw ⟨pk_in (18 * f + g) 144 (by omega), nm_e ⟨rfl, ?_⟩⟩⟩
  exact ⟨n + 1, _, _, _, _, _, rfl, rfl, by omega, rt_cpZ hG 18, rt_Zc hR hc, rt_RSc ho hf hRS hc⟩
theorem i_vc_nest {k : Nat} {u : SX} {v : SY} (I : i_Rel k u v) (hk : k + 4 ≤ 2048) (v1 : Int32) (v2 : Int32) (v3 : Int32) : wpX_nest (fun r u' => wpY_nest (fun r' v' => r' = r ∧ i_Rel (k + 4) u' v') v v1 v2 (lw_bz v3)) u v1 v2 (lw_bz v3) := by
  have J := i_up I
  obtain ⟨n, P, G, R, S, M, rfl, rfl, hn, hG, hR, hRS⟩ := I
  unfold wpX_nest wpY_nest
  dsimp only
  rcases rt_rg v1 18 (by decide) with hp | ⟨p, hp, rfl⟩
  · exact rt_xg0 hp (br_t rfl (rt_yg0 hp (br_t rfl ⟨rfl, J⟩)))
  rcases rt_rg v2 18 (by decide) with hg | ⟨g, hg, rfl⟩
  · exact rt_xg1 hp (br_f (by decide) (rt_xg0 hg (br_t rfl (rt_yg1 hp (br_f (by decide) (rt_yg0 hg (br_t rfl ⟨rfl, J⟩)))))))
  refine rt_xg1 hp (br_f (by decide) (rt_xg1 hg (br_f (by decide) (rt_xnext (by omega) (fun R' hc => ?_)))))
  have hf : (n + 1) % 8 < 8 := by omega
  have ho : n % 8 < 8 := by omega
  generalize hfe : (n + 1) % 8 = f at *
  generalize hoe : n % 8 = o at *
  refine rt_slot (by omega) ?_
  rw [hfe]
  refine nm_r (rt_ix18 f g) ⟨pk_in (18 * f + g) 144 (by omega), rt_xw ⟨pk_in (18 * f + g) 144 (by omega), nm_e ?_⟩⟩
  refine rt_yg1 hp (br_f (by decide) (rt_yg1 hg (br_f (by decide) (rt_ynext (by omega) ?_))))
  rw [hfe, hoe]
  refine nm_r (rt_iy18 f g) ⟨pk_in (18 * f + g) 144 (by omega), rt_yw ⟨pk_in (18 * f + g) 144 (by omega), nm_e ⟨rfl, ?_⟩⟩⟩
  exact ⟨n + 1, _, _, _, _, _, rfl, rfl, by omega, rt_updZ (rt_cpZ hG 18) (rt_wZ (by omega) hp (rt_cpZ hG 18 _)), rt_Zc hR hc, rt_RSc ho hf hRS hc⟩
theorem rt_RSw {f r s : Nat} {R S : Nat → Int32} {b : Int32} (hr : r < 3) (hs : s < 3) (h : rt_RS R S) : rt_RS (upd R (3 * f + s) (rt_w (R (3 * f + s)) r b)) (upd S f (rt_w (S f) (3 * r + s) b)) := by
  intro t ht r' hr' s' hs'
  by_cases e : t = f
  · subst e
    rw [pk_us, rt_w_bt (by omega) (by omega)]
    by_cases es : s' = s
    · subst es
      rw [pk_us, rt_w_bt (by omega) (by omega)]
      by_cases er : r' = r
      · rw [if_pos er, if_pos (by omega)]
      · rw [if_neg er, if_neg (by omega)]
        exact h t ht r' hr' s' hs'
    · rw [pk_un (by omega), if_neg (by omega)]
      exact h t ht r' hr' s' hs'
  · rw [pk_un e, pk_un (by omega)]
    exact h t ht r' hr' s' hs'
theorem i_vc_rule {k : Nat} {u : SX} {v : SY} (I : i_Rel k u v) (hk : k + 4 ≤ 2048) (v1 : Int32) (v2 : Int32) (v3 : Int32) : wpX_rule (fun r u' => wpY_rule (fun r' v' => r' = r ∧ i_Rel (k + 4) u' v') v v1 v2 (lw_bz v3)) u v1 v2 (lw_bz v3) := by
  have J := i_up I
  obtain ⟨n, P, G, R, S, M, rfl, rfl, hn, hG, hR, hRS⟩ := I
  unfold wpX_rule wpY_rule
  dsimp only
  rcases rt_rg v1 3 (by decide) with hp | ⟨p, hp, rfl⟩
  · exact rt_xr0 hp (br_t rfl (rt_Y0 (w := 2) rfl (by decide) hp ⟨rfl, J⟩ ⟨rfl, J⟩))
  rcases rt_rg v2 3 (by decide) with hg | ⟨g, hg, rfl⟩
  · exact rt_xr1 hp (br_f (by decide) (rt_xr0 hg (br_t rfl (rt_Y1 (w := 2) rfl hp (by decide) (rt_Y0 (w := 2) rfl (by decide) hg ⟨rfl, J⟩ ⟨rfl, J⟩)))))
  by_cases e : nI p = nI g
  · exact rt_xr1 hp (br_f (by decide) (rt_xr1 hg (br_f (by decide) (br_t e (rt_Y1 (w := 2) rfl hp (by decide) (rt_Y1 (w := 2) rfl hg (by decide) (br_t e ⟨rfl, J⟩)))))))
  refine rt_xr1 hp (br_f (by decide) (rt_xr1 hg (br_f (by decide) (br_f e (rt_xnext (by omega) (fun R' hc => ?_))))))
  have hf : (n + 1) % 8 < 8 := by omega
  have ho : n % 8 < 8 := by omega
  generalize hfe : (n + 1) % 8 = f at *
  generalize hoe : n % 8 = o at *
  refine rt_slot (by omega) ?_
  rw [hfe]
  refine nm_r (rt_ix3 f g) ⟨pk_in (3 * f + g) 24 (by omega), rt_xw ⟨pk_in (3 * f + g) 24 (by omega), nm_e ?_⟩⟩
  refine rt_Y1 (w := 2) rfl hp (by decide) (rt_Y1 (w := 2) rfl hg (by decide) (br_f e (rt_ynext (by omega) ?_)))
  rw [hfe, hoe]
  refine ⟨pk_in f 8 hf, ?_⟩
  rw [rt_iy3]
  refine rt_yw ⟨pk_in f 8 hf, nm_e ⟨rfl, ?_⟩⟩
  rw [nI_clamp (n := f) (by omega), nI_clamp (n := 3 * f + g) (by omega)]
  exact ⟨n + 1, _, _, _, _, _, rfl, rfl, by omega, rt_cpZ hG 18, rt_updZ (rt_Zc hR hc) (rt_wZ (by omega) hp (rt_Zc hR hc _)), rt_RSw hp hg (rt_RSc ho hf hRS hc)⟩
theorem i_vc_latest {k : Nat} {u : SX} {v : SY} (I : i_Rel k u v) (hk : k + 4 ≤ 2048) : wpX_latest (fun r => wpY_latest (fun r' => r' = r ∧ i_Rel (k + 4) u v) v) u := by
  have J := i_up I
  obtain ⟨n, P, G, R, S, M, rfl, rfl, hn, hG, hR, hRS⟩ := I
  unfold wpX_latest wpY_latest
  exact ⟨rfl, J⟩
