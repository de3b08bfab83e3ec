/-! commuting, alike, centre, commutative, carrier -/
theorem i_vc_commuting {k : Nat} {u : SX} {v : SY} (I : i_Rel k u v) (hk : k + 3 ≤ 1536) (v1 : Int32) : wpX_commuting (fun r => wpY_commuting (fun r' => r' = r ∧ i_Rel (k + 3) u v) v v1) u v1 := by
  have I' := I
  obtain ⟨G, m, ag, ae, ai, bg, bl, bm, bp, ba, rfl, rfl, hm, hG, hag, hbg, hX, hY, hP, hA⟩ := I'
  have hW := pg_gr_W hG
  have hl := hW.2.2.1
  have hlt := pg_W_lt hW
  unfold wpX_commuting
  by_cases h1 : pg_iv v1
  · obtain ⟨c, rfl, hc⟩ := h1
    refine pg_xip_t hc (br_f pg_10 ?_)
    refine pg_cnl (fun n i s => wX_commuting_13 _ (nI c) (nI m) (nI (pg_gr G m).length) ag ae ai 46656 n (nI s) (nI i)) (fun i => decide (pg_mul c ((pg_gr G m).getD i 0) = pg_mul ((pg_gr G m).getD i 0) c)) (pg_gr G m).length (fun n i s hi hp w => ?_) (fun n i s hi hp w => ?_) (fun n => br_t (nI_le (Nat.le_refl _) (by omega)) ?_)
    · refine br_f (nI_ge hi (by omega)) ⟨vp_in_nI (by omega) (by decide), pg_xco hc.1 (hlt _ (pg_get_mem hi)) rfl (by rw [pg_cl720 (by omega)]; exact hX.1 i hi) ?_⟩
      rw [hp]
      exact br_f pg_10 (nm_r (nI_1 s) (nm_r (nI_1 i) w))
    · refine br_f (nI_ge hi (by omega)) ⟨vp_in_nI (by omega) (by decide), pg_xco hc.1 (hlt _ (pg_get_mem hi)) rfl (by rw [pg_cl720 (by omega)]; exact hX.1 i hi) ?_⟩
      rw [hp]
      exact br_t rfl (nm_r (nI_1 i) w)
    · unfold wpY_commuting
      refine pg_yip_t hP hc (br_f pg_10 ?_)
      refine pg_cnl (fun n i s => wY_commuting_14 _ (nI c) (nI m) (nI (pg_gr G m).length) bg bl bm bp ba n (nI s) (nI i)) (fun i => decide (pg_mul c ((pg_gr G m).getD i 0) = pg_mul ((pg_gr G m).getD i 0) c)) (pg_gr G m).length (fun n i s hi hp w => ?_) (fun n i s hi hp w => ?_) (fun n => br_t (nI_le (Nat.le_refl _) (by omega)) ⟨rfl, I⟩)
      · have hin : vp_in (nI i) 720 := vp_in_nI (by omega) (by decide)
        have e : bl (nI i).toNatClampNeg = nI ((pg_gr G m).getD i 0) := by rw [pg_cl720 (by omega)]; exact hY.1 i hi
        have ha := pg_31 (hlt _ (pg_get_mem hi))
        exact br_f (nI_ge hi (by omega)) ⟨hin, pg_yti hP (pg_31 hc.1) ha rfl e ⟨hin, pg_yti hP ha (pg_31 hc.1) e rfl (br_t (congrArg nI (of_decide_eq_true hp)) (nm_r (nI_1 s) (nm_r (nI_1 i) w)))⟩⟩
      · have hin : vp_in (nI i) 720 := vp_in_nI (by omega) (by decide)
        have e : bl (nI i).toNatClampNeg = nI ((pg_gr G m).getD i 0) := by rw [pg_cl720 (by omega)]; exact hY.1 i hi
        have ha := pg_31 (hlt _ (pg_get_mem hi))
        exact br_f (nI_ge hi (by omega)) ⟨hin, pg_yti hP (pg_31 hc.1) ha rfl e ⟨hin, pg_yti hP ha (pg_31 hc.1) e rfl (br_f (fun z => of_decide_eq_false hp ((nI_eq (pg_31 (pg_mul_lt _ _)) (pg_31 (pg_mul_lt _ _))).mp z)) (nm_r (nI_1 i) w))⟩⟩
  · refine pg_xip_f h1 (br_t rfl ?_)
    unfold wpY_commuting
    exact pg_yip_f hP h1 (br_t rfl ⟨rfl, I⟩)
theorem i_vc_alike {k : Nat} {u : SX} {v : SY} (I : i_Rel k u v) (hk : k + 3 ≤ 1536) (v1 : Int32) (v2 : Int32) : wpX_alike (fun r => wpY_alike (fun r' => r' = r ∧ i_Rel (k + 3) u v) v v1 v2) u v1 v2 := by
  have I' := I
  obtain ⟨G, m, ag, ae, ai, bg, bl, bm, bp, ba, rfl, rfl, hm, hG, hag, hbg, hX, hY, hP, hA⟩ := I'
  have hW := pg_gr_W hG
  have hl := hW.2.2.1
  have hlt := pg_W_lt hW
  unfold wpX_alike
  by_cases h1 : pg_iv v1
  · obtain ⟨c, rfl, hc⟩ := h1
    refine pg_xip_t hc (br_f pg_10 ?_)
    by_cases h2 : pg_iv v2
    · obtain ⟨d, rfl, hd⟩ := h2
      have hY2 : ∀ (post : Int32 → Prop), ((∀ i, i < (pg_gr G m).length → ¬ pg_mul c ((pg_gr G m).getD i 0) = pg_mul ((pg_gr G m).getD i 0) d) → post 0) → ((¬ ∀ i, i < (pg_gr G m).length → ¬ pg_mul c ((pg_gr G m).getD i 0) = pg_mul ((pg_gr G m).getD i 0) d) → post 1) → wpY_alike post (nI m, nI (pg_gr G m).length, bg, bl, bm, bp, ba) (nI c) (nI d) := by
        intro post hA1 hB1
        unfold wpY_alike
        refine pg_yip_t hP hc (br_f pg_10 (pg_yip_t hP hd (br_f pg_10 ?_)))
        refine pg_al2 (fun n i => wY_alike_20 post (nI c) (nI d) (nI m) (nI (pg_gr G m).length) bg bl bm bp ba n (nI i)) (fun i => ¬ pg_mul c ((pg_gr G m).getD i 0) = pg_mul ((pg_gr G m).getD i 0) d) (pg_gr G m).length (post 0) (post 1) (fun n h => br_t (nI_le (Nat.le_refl _) (by omega)) h) (fun n i hi hp w => ?_) (fun n i hi hp h => ?_) hA1 hB1
        · have hin : vp_in (nI i) 720 := vp_in_nI (by omega) (by decide)
          have e : bl (nI i).toNatClampNeg = nI ((pg_gr G m).getD i 0) := by rw [pg_cl720 (by omega)]; exact hY.1 i hi
          have ha := pg_31 (hlt _ (pg_get_mem hi))
          exact br_f (nI_ge hi (by omega)) ⟨hin, pg_yti hP (pg_31 hc.1) ha rfl e ⟨hin, pg_yti hP ha (pg_31 hd.1) e rfl (br_f (fun z => hp ((nI_eq (pg_31 (pg_mul_lt _ _)) (pg_31 (pg_mul_lt _ _))).mp z)) (nm_r (nI_1 i) w))⟩⟩
        · have hin : vp_in (nI i) 720 := vp_in_nI (by omega) (by decide)
          have e : bl (nI i).toNatClampNeg = nI ((pg_gr G m).getD i 0) := by rw [pg_cl720 (by omega)]; exact hY.1 i hi
          have ha := pg_31 (hlt _ (pg_get_mem hi))
          exact br_f (nI_ge hi (by omega)) ⟨hin, pg_yti hP (pg_31 hc.1) ha rfl e ⟨hin, pg_yti hP ha (pg_31 hd.1) e rfl (br_t (congrArg nI (Classical.not_not.mp hp)) h)⟩⟩
      have hX2 : ∀ (post : Int32 → Prop), ((∀ i, i < (pg_gr G m).length → ¬ pg_mul c ((pg_gr G m).getD i 0) = pg_mul ((pg_gr G m).getD i 0) d) → post 0) → ((¬ ∀ i, i < (pg_gr G m).length → ¬ pg_mul c ((pg_gr G m).getD i 0) = pg_mul ((pg_gr G m).getD i 0) d) → post 1) → ∃ n, wX_alike_18 post (nI c) (nI d) (nI m) (nI (pg_gr G m).length) ag ae ai 46656 n 0 := by
        intro post hA1 hB1
        refine pg_al2 (fun n i => wX_alike_18 post (nI c) (nI d) (nI m) (nI (pg_gr G m).length) ag ae ai 46656 n (nI i)) (fun i => ¬ pg_mul c ((pg_gr G m).getD i 0) = pg_mul ((pg_gr G m).getD i 0) d) (pg_gr G m).length (post 0) (post 1) (fun n h => br_t (nI_le (Nat.le_refl _) (by omega)) h) (fun n i hi hp w => ?_) (fun n i hi hp h => ?_) hA1 hB1
        · have ha := hW.2.1 _ (pg_get_mem hi)
          exact br_f (nI_ge hi (by omega)) ⟨vp_in_nI (by omega) (by decide), pg_xcj hc.1 ha rfl (by rw [pg_cl720 (by omega)]; exact hX.1 i hi) (br_f (fun z => hp ((pg_cj_eq hc.1 ha hd.1).mp ((nI_eq (pg_31 (pg_mul_lt _ _)) (pg_31 hd.1)).mp z))) (nm_r (nI_1 i) w))⟩
        · have ha := hW.2.1 _ (pg_get_mem hi)
          exact br_f (nI_ge hi (by omega)) ⟨vp_in_nI (by omega) (by decide), pg_xcj hc.1 ha rfl (by rw [pg_cl720 (by omega)]; exact hX.1 i hi) (br_t (congrArg nI ((pg_cj_eq hc.1 ha hd.1).mpr (Classical.not_not.mp hp))) h)⟩
      exact pg_xip_t hd (br_f pg_10 (hX2 _ (fun hall => hY2 _ (fun _ => ⟨rfl, I⟩) (fun z => absurd hall z)) (fun hno => hY2 _ (fun z => absurd z hno) (fun _ => ⟨rfl, I⟩))))
    · refine pg_xip_f h2 (br_t rfl ?_)
      unfold wpY_alike
      exact pg_yip_t hP hc (br_f pg_10 (pg_yip_f hP h2 (br_t rfl ⟨rfl, I⟩)))
  · refine pg_xip_f h1 (br_t rfl ?_)
    unfold wpY_alike
    exact pg_yip_f hP h1 (br_t rfl ⟨rfl, I⟩)
/-- g commutes with all generators -/
def pg_ce (G : Nat → Nat) (m g : Nat) : Prop := ∀ j, j < m → pg_mul g (G j) = pg_mul (G j) g
theorem pg_xcg {post : Int32 → Prop} {G : Nat → Nat} {m g : Nat} {ec : Int32} {ag ae ai : Nat → Int32} {ni : Nat} (hm : m ≤ 5) (hG : ∀ j, j < m → pg_ip (G j)) (hag : ∀ j, j < m → ag j = nI (G j)) (hg : g < 46656) {A : Int32} (eA : A = nI g) (ht : pg_ce G m g → post 1) (hf : ¬ pg_ce G m g → post 0) : wpX_commutesWithGenerators post (nI m, ec, ag, ae, ai, ni) A := by
  subst eA
  unfold wpX_commutesWithGenerators
  refine pg_al2 (fun n i => wX_commutesWithGenerators_2 post (nI g) (nI m) ec ag ae ai ni n (nI i)) (fun j => pg_mul g (G j) = pg_mul (G j) g) m (post 1) (post 0) (fun n h => br_t (nI_le (Nat.le_refl _) (by omega)) h) (fun n i hi hp w => ?_) (fun n i hi hp h => ?_) ht hf
  · refine br_f (nI_ge hi (by omega)) ⟨vp_in_nI (by omega) (by decide), pg_xco hg (hG i hi).1 rfl (by rw [pg_cl5 (by omega)]; exact hag i hi) ?_⟩
    rw [decide_eq_true hp]
    exact br_f pg_10 (nm_r (nI_1 i) w)
  · refine br_f (nI_ge hi (by omega)) ⟨vp_in_nI (by omega) (by decide), pg_xco hg (hG i hi).1 rfl (by rw [pg_cl5 (by omega)]; exact hag i hi) ?_⟩
    rw [decide_eq_false hp]
    exact br_t rfl h
theorem pg_ycg {post : Int32 → Prop} {G : Nat → Nat} {m g : Nat} {fo : Int32} {bg bl bm bp ba : Nat → Int32} (hP : pg_YP bp) (hm : m ≤ 5) (hG : ∀ j, j < m → pg_ip (G j)) (hbg : ∀ j, j < m → bg j = nI (G j)) (hg : g < 46656) {A : Int32} (eA : A = nI g) (ht : pg_ce G m g → post 1) (hf : ¬ pg_ce G m g → post 0) : wpY_isCentral post (nI m, fo, bg, bl, bm, bp, ba) A := by
  subst eA
  unfold wpY_isCentral
  refine pg_al2 (fun n i => wY_isCentral_2 post (nI g) (nI m) fo bg bl bm bp ba n (nI i)) (fun j => pg_mul g (G j) = pg_mul (G j) g) m (post 1) (post 0) (fun n h => br_t (nI_le (Nat.le_refl _) (by omega)) h) (fun n i hi hp w => ?_) (fun n i hi hp h => ?_) ht hf
  · have hin : vp_in (nI i) 5 := vp_in_nI (by omega) (by decide)
    have e : bg (nI i).toNatClampNeg = nI (G i) := by rw [pg_cl5 (by omega)]; exact hbg i hi
    exact br_f (nI_ge hi (by omega)) ⟨hin, pg_yti hP (pg_31 hg) (pg_31 (hG i hi).1) rfl e ⟨hin, pg_yti hP (pg_31 (hG i hi).1) (pg_31 hg) e rfl (br_t (congrArg nI hp) (nm_r (nI_1 i) w))⟩⟩
  · have hin : vp_in (nI i) 5 := vp_in_nI (by omega) (by decide)
    have e : bg (nI i).toNatClampNeg = nI (G i) := by rw [pg_cl5 (by omega)]; exact hbg i hi
    exact br_f (nI_ge hi (by omega)) ⟨hin, pg_yti hP (pg_31 hg) (pg_31 (hG i hi).1) rfl e ⟨hin, pg_yti hP (pg_31 (hG i hi).1) (pg_31 hg) e rfl (br_f (fun z => hp ((nI_eq (pg_31 (pg_mul_lt _ _)) (pg_31 (pg_mul_lt _ _))).mp z)) h)⟩⟩
noncomputable def pg_cc (G : Nat → Nat) (m : Nat) : Nat := pg_cn (fun i => pg_cd (pg_ce G m ((pg_gr G m).getD i 0))) (pg_gr G m).length
theorem pg_yce {post : Int32 → Prop} {G : Nat → Nat} {m : Nat} {bg bl bm bp ba : Nat → Int32} (hP : pg_YP bp) (hm : m ≤ 5) (hG : ∀ j, j < m → pg_ip (G j)) (hbg : ∀ j, j < m → bg j = nI (G j)) (hY : pg_YL (pg_gr G m) bl bm) (h : post (nI (pg_cc G m))) : wpY_centre post (nI m, nI (pg_gr G m).length, bg, bl, bm, bp, ba) := by
  have hW := pg_gr_W hG
  have hl := hW.2.2.1
  have hlt := pg_W_lt hW
  unfold wpY_centre
  refine pg_cnl (fun n i s => wY_centre_4 post (nI m) (nI (pg_gr G m).length) bg bl bm bp ba n (nI s) (nI i)) (fun i => pg_cd (pg_ce G m ((pg_gr G m).getD i 0))) (pg_gr G m).length (fun n i s hi hp w => ?_) (fun n i s hi hp w => ?_) (fun n => br_t (nI_le (Nat.le_refl _) (by omega)) h)
  · exact br_f (nI_ge hi (by omega)) ⟨vp_in_nI (by omega) (by decide), pg_ycg hP hm hG hbg (hlt _ (pg_get_mem hi)) (by rw [pg_cl720 (by omega)]; exact hY.1 i hi) (fun _ => br_f pg_10 (nm_r (nI_1 s) (nm_r (nI_1 i) w))) (fun z => absurd (pg_cd_t hp) z)⟩
  · exact br_f (nI_ge hi (by omega)) ⟨vp_in_nI (by omega) (by decide), pg_ycg hP hm hG hbg (hlt _ (pg_get_mem hi)) (by rw [pg_cl720 (by omega)]; exact hY.1 i hi) (fun z => absurd z (pg_cd_f hp)) (fun _ => br_t rfl (nm_r (nI_1 i) w))⟩
theorem i_vc_centre {k : Nat} {u : SX} {v : SY} (I : i_Rel k u v) (hk : k + 3 ≤ 1536) : wpX_centre (fun r => wpY_centre (fun r' => r' = r ∧ i_Rel (k + 3) u v) v) u := by
  have I' := I
  obtain ⟨G, m, ag, ae, ai, bg, bl, bm, bp, ba, rfl, rfl, hm, hG, hag, hbg, hX, hY, hP, hA⟩ := I'
  have hW := pg_gr_W hG
  have hl := hW.2.2.1
  have hlt := pg_W_lt hW
  unfold wpX_centre
  refine pg_cnl (fun n i s => wX_centre_4 _ (nI m) (nI (pg_gr G m).length) ag ae ai 46656 n (nI s) (nI i)) (fun i => pg_cd (pg_ce G m ((pg_gr G m).getD i 0))) (pg_gr G m).length (fun n i s hi hp w => ?_) (fun n i s hi hp w => ?_) (fun n => br_t (nI_le (Nat.le_refl _) (by omega)) (pg_yce hP hm hG hbg hY ⟨rfl, I⟩))
  · exact br_f (nI_ge hi (by omega)) ⟨vp_in_nI (by omega) (by decide), pg_xcg hm hG hag (hlt _ (pg_get_mem hi)) (by rw [pg_cl720 (by omega)]; exact hX.1 i hi) (fun _ => br_f pg_10 (nm_r (nI_1 s) (nm_r (nI_1 i) w))) (fun z => absurd (pg_cd_t hp) z)⟩
  · exact br_f (nI_ge hi (by omega)) ⟨vp_in_nI (by omega) (by decide), pg_xcg hm hG hag (hlt _ (pg_get_mem hi)) (by rw [pg_cl720 (by omega)]; exact hX.1 i hi) (fun z => absurd z (pg_cd_f hp)) (fun _ => br_t rfl (nm_r (nI_1 i) w))⟩
theorem pg_cc_all {G : Nat → Nat} {m : Nat} : pg_cc G m = (pg_gr G m).length ↔ ∀ a, a ∈ pg_gr G m → pg_ce G m a := by
  have e : pg_cc G m = (pg_gr G m).countP (fun a => pg_cd (pg_ce G m a)) := pg_cn_list (fun a => pg_cd (pg_ce G m a)) (pg_gr G m)
  rw [e, List.countP_eq_length]
  exact ⟨fun h a ha => pg_cd_t (h a ha), fun h a ha => pg_cd_i.mpr (h a ha)⟩
theorem pg_yct {post : Int32 → Prop} {G : Nat → Nat} {m : Nat} {bg bl bm bp ba : Nat → Int32} (hP : pg_YP bp) (hm : m ≤ 5) (hG : ∀ j, j < m → pg_ip (G j)) (hbg : ∀ j, j < m → bg j = nI (G j)) (hY : pg_YL (pg_gr G m) bl bm) (ht : (∀ i, i < m → pg_ce G m (G i)) → post 1) (hf : (¬ ∀ i, i < m → pg_ce G m (G i)) → post 0) : wpY_commutative post (nI m, nI (pg_gr G m).length, bg, bl, bm, bp, ba) := by
  have hl := (pg_gr_W hG).2.2.1
  have hc : pg_cc G m ≤ (pg_gr G m).length := pg_cn_le _ _
  have key : nI (pg_cc G m) = nI (pg_gr G m).length ↔ ∀ i, i < m → pg_ce G m (G i) := by
    rw [nI_eq (by omega) (by omega), pg_cc_all]
    exact (pg_comm hG).symm
  unfold wpY_commutative
  exact pg_yce hP hm hG hbg hY (br_c (fun z => ht (key.mp z)) (fun z => hf fun y => z (key.mpr y)))
theorem pg_xct {post : Int32 → Prop} {G : Nat → Nat} {m : Nat} {ec : Int32} {ag ae ai : Nat → Int32} {ni : Nat} (hm : m ≤ 5) (hG : ∀ j, j < m → pg_ip (G j)) (hag : ∀ j, j < m → ag j = nI (G j)) (ht : (∀ i, i < m → pg_ce G m (G i)) → post 1) (hf : (¬ ∀ i, i < m → pg_ce G m (G i)) → post 0) : wpX_commutative post (nI m, ec, ag, ae, ai, ni) := by
  unfold wpX_commutative
  refine pg_al2 (fun n i => wX_commutative_2 post (nI m) ec ag ae ai ni n (nI i)) (fun i => pg_ce G m (G i)) m (post 1) (post 0) (fun n h => br_t (nI_le (Nat.le_refl _) (by omega)) h) (fun n i hi hp w => ?_) (fun n i hi hp h => ?_) ht hf
  · exact br_f (nI_ge hi (by omega)) ⟨vp_in_nI (by omega) (by decide), pg_xcg hm hG hag (hG i hi).1 (by rw [pg_cl5 (by omega)]; exact hag i hi) (fun _ => br_f pg_10 (nm_r (nI_1 i) w)) (fun z => absurd hp z)⟩
  · exact br_f (nI_ge hi (by omega)) ⟨vp_in_nI (by omega) (by decide), pg_xcg hm hG hag (hG i hi).1 (by rw [pg_cl5 (by omega)]; exact hag i hi) (fun z => absurd z hp) (fun _ => br_t rfl h)⟩
theorem i_vc_commutative {k : Nat} {u : SX} {v : SY} (I : i_Rel k u v) (hk : k + 3 ≤ 1536) : wpX_commutative (fun r => wpY_commutative (fun r' => r' = r ∧ i_Rel (k + 3) u v) v) u := by
  have I' := I
  obtain ⟨G, m, ag, ae, ai, bg, bl, bm, bp, ba, rfl, rfl, hm, hG, hag, hbg, hX, hY, hP, hA⟩ := I'
  refine pg_xct hm hG hag (fun hall => ?_) (fun hno => ?_)
  · exact pg_yct hP hm hG hbg hY (fun _ => ⟨rfl, I⟩) (fun z => absurd hall z)
  · exact pg_yct hP hm hG hbg hY (fun z => absurd z hno) (fun _ => ⟨rfl, I⟩)
/-- the least element met so far that carries x into y, or -4 -/
def pg_ca (L : List Nat) (x y i : Nat) (s : Int32) : Int32 := if pg_dg (L.getD i 0) x = y then (if s = -4 then nI (L.getD i 0) else if s ≤ nI (L.getD i 0) then s else nI (L.getD i 0)) else s
theorem i_vc_carrier {k : Nat} {u : SX} {v : SY} (I : i_Rel k u v) (hk : k + 3 ≤ 1536) (v1 : Int32) (v2 : Int32) : wpX_carrier (fun r => wpY_carrier (fun r' => r' = r ∧ i_Rel (k + 3) u v) v v1 v2) u v1 v2 := by
  have I' := I
  obtain ⟨G, m, ag, ae, ai, bg, bl, bm, bp, ba, rfl, rfl, hm, hG, hag, hbg, hX, hY, hP, hA⟩ := I'
  have hW := pg_gr_W hG
  have hl := hW.2.2.1
  have hlt := pg_W_lt hW
  unfold wpX_carrier
  rcases pg_pt v1 with h | ⟨h0, h6, _, h5⟩ | ⟨x, hx, rfl⟩
  · refine br_t h (br_t rfl ?_)
    unfold wpY_carrier
    exact br_t h ⟨rfl, I⟩
  · refine br_f h0 (br_t h6 (br_t rfl ?_))
    unfold wpY_carrier
    exact br_f h0 (br_t h5 ⟨rfl, I⟩)
  · refine pg_xpt hx (br_f pg_10 ?_)
    have hx0 : ¬ nI x < 0 := nI_pos (by omega)
    have hx5 : ¬ (5 : Int32) < nI x := nI_nlt (a := 5) (by omega) (by decide)
    rcases pg_pt v2 with h | ⟨h0, h6, h5, _⟩ | ⟨y, hy, rfl⟩
    · refine br_t h (br_t rfl ?_)
      unfold wpY_carrier
      exact br_f hx0 (br_f hx5 (br_t h ⟨rfl, I⟩))
    · refine br_f h0 (br_t h6 (br_t rfl ?_))
      unfold wpY_carrier
      exact br_f hx0 (br_f hx5 (br_f h0 (br_f h5 ⟨rfl, I⟩)))
    · refine pg_xpt hy (br_f pg_10 ?_)
      refine pg_fl (fun n i s => wX_carrier_22 _ (nI x) (nI y) (nI m) (nI (pg_gr G m).length) ag ae ai 46656 n s (nI i)) (pg_ca (pg_gr G m) x y) (pg_gr G m).length (-4) (fun n i s hi w => ?_) (fun n => br_t (nI_le (Nat.le_refl _) (by omega)) ?_)
      · have e : ae (nI i).toNatClampNeg = nI ((pg_gr G m).getD i 0) := by rw [pg_cl720 (by omega)]; exact hX.1 i hi
        refine br_f (nI_ge hi (by omega)) ⟨vp_in_nI (by omega) (by decide), nm_r e (pg_xim (pg_31 (hlt _ (pg_get_mem hi))) hx rfl rfl ?_)⟩
        unfold pg_ca at w
        by_cases hd : pg_dg ((pg_gr G m).getD i 0) x = y
        · rw [if_pos hd] at w
          refine br_t (congrArg nI hd) ?_
          by_cases h4 : s = -4
          · rw [if_pos h4] at w
            exact br_t h4 (nm_r (nI_1 i) w)
          · rw [if_neg h4] at w
            refine br_f h4 ?_
            by_cases hs : s ≤ nI ((pg_gr G m).getD i 0)
            · rw [if_pos hs] at w
              exact br_t hs (nm_r (nI_1 i) w)
            · rw [if_neg hs] at w
              exact br_f hs (nm_r (nI_1 i) w)
        · rw [if_neg hd] at w
          exact br_f (fun z => hd ((nI_eq (Nat.lt_trans (pg_dg_lt _ x) (by decide)) (by omega)).mp z)) (nm_r (nI_1 i) w)
      · unfold wpY_carrier
        refine br_f hx0 (br_f hx5 (br_f (nI_pos (by omega)) (br_t (nI_le (b := 5) (by omega) (by decide)) ?_)))
        refine pg_fl (fun n i s => wY_carrier_26 _ (nI x) (nI y) (nI m) (nI (pg_gr G m).length) bg bl bm bp ba n s (nI i)) (pg_ca (pg_gr G m) x y) (pg_gr G m).length (-4) (fun n i s hi w => ?_) (fun n => br_t (nI_le (Nat.le_refl _) (by omega)) ⟨rfl, I⟩)
        have e : bl (nI i).toNatClampNeg = nI ((pg_gr G m).getD i 0) := by rw [pg_cl720 (by omega)]; exact hY.1 i hi
        have hin : vp_in (nI i) 720 := vp_in_nI (by omega) (by decide)
        refine br_f (nI_ge hi (by omega)) ⟨hin, pg_yca hP (pg_31 (hlt _ (pg_get_mem hi))) hx e rfl ?_⟩
        rw [e]
        unfold pg_ca at w
        by_cases hd : pg_dg ((pg_gr G m).getD i 0) x = y
        · rw [if_pos hd] at w
          refine br_t (congrArg nI hd) ?_
          by_cases h4 : s = -4
          · rw [if_pos h4] at w
            exact br_t h4 ⟨hin, nm_e (nm_r (nI_1 i) w)⟩
          · rw [if_neg h4] at w
            refine br_f h4 ⟨hin, ?_⟩
            by_cases hs : s ≤ nI ((pg_gr G m).getD i 0)
            · rw [if_pos hs] at w
              exact br_t hs (nm_r (nI_1 i) w)
            · rw [if_neg hs] at w
              exact br_f hs ⟨hin, nm_e (nm_r (nI_1 i) w)⟩
        · rw [if_neg hd] at w
          exact br_f (fun z => hd ((nI_eq (Nat.lt_trans (pg_dg_lt _ x) (by decide)) (by omega)).mp z)) (nm_r (nI_1 i) w)
