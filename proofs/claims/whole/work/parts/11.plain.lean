/-! generators, product, inverse, order, has -/
theorem i_vc_generators {k : Nat} {u : SX} {v : SY} (I : i_Rel k u v) (hk : k + 3 ≤ 1536) : wpX_generators (fun r => wpY_generators (fun r' => r' = r ∧ i_Rel (k + 3) u v) v) u := by
  have I' := I
  obtain ⟨G, m, ag, ae, ai, bg, bl, bm, bp, ba, rfl, rfl, hR⟩ := I'
  exact ⟨rfl, I⟩
theorem i_vc_order {k : Nat} {u : SX} {v : SY} (I : i_Rel k u v) (hk : k + 3 ≤ 1536) : wpX_order (fun r => wpY_order (fun r' => r' = r ∧ i_Rel (k + 3) u v) v) u := by
  have I' := I
  obtain ⟨G, m, ag, ae, ai, bg, bl, bm, bp, ba, rfl, rfl, hR⟩ := I'
  exact ⟨rfl, I⟩
theorem i_vc_product {k : Nat} {u : SX} {v : SY} (I : i_Rel k u v) (hk : k + 3 ≤ 1536) (v1 : Int32) (v2 : Int32) : wpX_product (fun r => wpY_product (fun r' => r' = r ∧ i_Rel (k + 3) u v) v v1 v2) u v1 v2 := by
  have I' := I
  obtain ⟨G, m, ag, ae, ai, bg, bl, bm, bp, ba, rfl, rfl, hm, hG, hag, hbg, hX, hY, hP, hA⟩ := I'
  unfold wpX_product
  by_cases h1 : pg_iv v1
  · obtain ⟨c, rfl, hc⟩ := h1
    refine pg_xip_t hc (br_f pg_10 ?_)
    by_cases h2 : pg_iv v2
    · obtain ⟨d, rfl, hd⟩ := h2
      refine pg_xip_t hd (br_f pg_10 (pg_xcm (pg_31 hc.1) (pg_31 hd.1) rfl rfl ?_))
      unfold wpY_product
      exact pg_yip_t hP hc (br_f pg_10 (pg_yip_t hP hd (br_f pg_10 (pg_yti hP (pg_31 hc.1) (pg_31 hd.1) rfl rfl ⟨rfl, I⟩))))
    · refine pg_xip_f h2 (br_t rfl ?_)
      unfold wpY_product
      exact pg_yip_t hP hc (br_f pg_10 (pg_yip_f hP h2 (br_t rfl ⟨rfl, I⟩)))
  · refine pg_xip_f h1 (br_t rfl ?_)
    unfold wpY_product
    exact pg_yip_f hP h1 (br_t rfl ⟨rfl, I⟩)
theorem i_vc_inverse {k : Nat} {u : SX} {v : SY} (I : i_Rel k u v) (hk : k + 3 ≤ 1536) (v1 : Int32) : wpX_inverse (fun r => wpY_inverse (fun r' => r' = r ∧ i_Rel (k + 3) u v) v v1) u v1 := by
  have I' := I
  obtain ⟨G, m, ag, ae, ai, bg, bl, bm, bp, ba, rfl, rfl, hm, hG, hag, hbg, hX, hY, hP, hA⟩ := I'
  unfold wpX_inverse
  by_cases h1 : pg_iv v1
  · obtain ⟨c, rfl, hc⟩ := h1
    refine pg_xip_t hc (br_f pg_10 (pg_xiv (pg_31 hc.1) rfl ?_))
    unfold wpY_inverse
    exact pg_yip_t hP hc (br_f pg_10 (pg_yiv hP (pg_31 hc.1) rfl ⟨rfl, I⟩))
  · refine pg_xip_f h1 (br_t rfl ?_)
    unfold wpY_inverse
    exact pg_yip_f hP h1 (br_t rfl ⟨rfl, I⟩)
theorem i_vc_has {k : Nat} {u : SX} {v : SY} (I : i_Rel k u v) (hk : k + 3 ≤ 1536) (v1 : Int32) : wpX_has (fun r => wpY_has (fun r' => r' = r ∧ i_Rel (k + 3) u v) v v1) u v1 := by
  have I' := I
  obtain ⟨G, m, ag, ae, ai, bg, bl, bm, bp, ba, rfl, rfl, hm, hG, hag, hbg, hX, hY, hP, hA⟩ := I'
  unfold wpX_has
  by_cases h1 : pg_iv v1
  · obtain ⟨c, rfl, hc⟩ := h1
    refine pg_xip_t hc (br_f pg_10 ⟨vp_in_nI hc.1 (by decide), ?_⟩)
    rw [nI_clamp (pg_31 hc.1)]
    by_cases hm : c ∈ pg_gr G m
    · refine br_f (fun z => (hX.2 c hc.1).mp z hm) ?_
      unfold wpY_has
      exact pg_yip_t hP hc (br_f pg_10 (pg_yim hY hc.1 rfl (fun _ => br_f pg_10 ⟨rfl, I⟩) (fun z => absurd hm z)))
    · refine br_t ((hX.2 c hc.1).mpr hm) ?_
      unfold wpY_has
      exact pg_yip_t hP hc (br_f pg_10 (pg_yim hY hc.1 rfl (fun z => absurd z hm) (fun _ => br_t rfl ⟨rfl, I⟩)))
  · refine pg_xip_f h1 (br_t rfl ?_)
    unfold wpY_has
    exact pg_yip_f hP h1 (br_t rfl ⟨rfl, I⟩)
