/-! fixing, keeping, images -/
theorem pg_st (v : Int32) : v < 0 ∨ (¬ v < 0 ∧ (64 : Int32) ≤ v ∧ 63 < v) ∨ (¬ v < 0 ∧ ¬ (64 : Int32) ≤ v ∧ ¬ 63 < v) := by
  by_cases h0 : v < 0
  · exact Or.inl h0
  · obtain ⟨x, hx, rfl⟩ := nI_of h0
    by_cases h : x < 64
    · exact Or.inr (Or.inr ⟨h0, nI_ge (b := 64) h (by decide), nI_nlt (a := 63) (by omega) (by decide)⟩)
    · exact Or.inr (Or.inl ⟨h0, nI_le (a := 64) (by omega) hx, nI_lt (a := 63) (by omega) hx⟩)
noncomputable def pg_cd (P : Prop) : Bool := @decide P (Classical.propDecidable P)
theorem pg_cd_t {P : Prop} (h : pg_cd P = true) : P := @of_decide_eq_true P (Classical.propDecidable P) h
theorem pg_cd_f {P : Prop} (h : pg_cd P = false) : ¬ P := @of_decide_eq_false P (Classical.propDecidable P) h
theorem pg_cd_i {P : Prop} : pg_cd P = true ↔ P := ⟨pg_cd_t, fun h => @decide_eq_true P (Classical.propDecidable P) h⟩
theorem i_vc_fixing {k : Nat} {u : SX} {v : SY} (I : i_Rel k u v) (hk : k + 3 ≤ 1536) (v1 : Int32) : wpX_fixing (fun r => wpY_fixing (fun r' => r' = r ∧ i_Rel (k + 3) u v) v v1) u v1 := by
  have I' := I
  obtain ⟨G, m, ag, ae, ai, bg, bl, bm, bp, ba, rfl, rfl, hm, hG, hag, hbg, hX, hY, hP, hA⟩ := I'
  have hW := pg_gr_W hG
  have hl := hW.2.2.1
  have hlt := pg_W_lt hW
  unfold wpX_fixing
  rcases pg_st v1 with h | ⟨h0, h6, h5⟩ | ⟨h0, h6, h5⟩
  · refine br_t h (br_t rfl ?_)
    unfold wpY_fixing
    exact br_t h (br_t rfl ⟨rfl, I⟩)
  · refine br_f h0 (br_t h6 (br_t rfl ?_))
    unfold wpY_fixing
    exact br_f h0 (br_t h5 (br_t rfl ⟨rfl, I⟩))
  · refine br_f h0 (br_f h6 (br_f pg_10 ?_))
    refine pg_cnl (fun n i s => wX_fixing_13 _ v1 (nI m) (nI (pg_gr G m).length) ag ae ai 46656 n (nI s) (nI i)) (fun i => pg_cd (pg_fx v1 ((pg_gr G m).getD i 0))) (pg_gr G m).length (fun n i s hi hp w => ?_) (fun n i s hi hp w => ?_) (fun n => br_t (nI_le (Nat.le_refl _) (by omega)) ?_)
    · exact br_f (nI_ge hi (by omega)) ⟨vp_in_nI (by omega) (by decide), pg_xfx (pg_31 (hlt _ (pg_get_mem hi))) (by rw [pg_cl720 (by omega)]; exact hX.1 i hi) (fun _ => br_f pg_10 (nm_r (nI_1 s) (nm_r (nI_1 i) w))) (fun z => absurd (pg_cd_t hp) z)⟩
    · exact br_f (nI_ge hi (by omega)) ⟨vp_in_nI (by omega) (by decide), pg_xfx (pg_31 (hlt _ (pg_get_mem hi))) (by rw [pg_cl720 (by omega)]; exact hX.1 i hi) (fun z => absurd z (pg_cd_f hp)) (fun _ => br_t rfl (nm_r (nI_1 i) w))⟩
    · unfold wpY_fixing
      refine br_f h0 (br_f h5 (br_f pg_10 ?_))
      refine pg_cnl (fun n i s => wY_fixing_14 _ v1 (nI m) (nI (pg_gr G m).length) bg bl bm bp ba n (nI s) (nI i)) (fun i => pg_cd (pg_fx v1 ((pg_gr G m).getD i 0))) (pg_gr G m).length (fun n i s hi hp w => ?_) (fun n i s hi hp w => ?_) (fun n => br_t (nI_le (Nat.le_refl _) (by omega)) ⟨rfl, I⟩)
      · exact br_f (nI_ge hi (by omega)) ⟨vp_in_nI (by omega) (by decide), pg_yfx hP (pg_31 (hlt _ (pg_get_mem hi))) (by rw [pg_cl720 (by omega)]; exact hY.1 i hi) (fun _ => br_f pg_10 (nm_r (nI_1 s) (nm_r (nI_1 i) w))) (fun z => absurd (pg_cd_t hp) z)⟩
      · exact br_f (nI_ge hi (by omega)) ⟨vp_in_nI (by omega) (by decide), pg_yfx hP (pg_31 (hlt _ (pg_get_mem hi))) (by rw [pg_cl720 (by omega)]; exact hY.1 i hi) (fun z => absurd z (pg_cd_f hp)) (fun _ => br_t rfl (nm_r (nI_1 i) w))⟩
theorem i_vc_keeping {k : Nat} {u : SX} {v : SY} (I : i_Rel k u v) (hk : k + 3 ≤ 1536) (v1 : Int32) : wpX_keeping (fun r => wpY_keeping (fun r' => r' = r ∧ i_Rel (k + 3) u v) v v1) u v1 := by
  have I' := I
  obtain ⟨G, m, ag, ae, ai, bg, bl, bm, bp, ba, rfl, rfl, hm, hG, hag, hbg, hX, hY, hP, hA⟩ := I'
  have hW := pg_gr_W hG
  have hl := hW.2.2.1
  have hlt := pg_W_lt hW
  unfold wpX_keeping
  rcases pg_st v1 with h | ⟨h0, h6, h5⟩ | ⟨h0, h6, h5⟩
  · refine br_t h (br_t rfl ?_)
    unfold wpY_keeping
    exact br_t h (br_t rfl ⟨rfl, I⟩)
  · refine br_f h0 (br_t h6 (br_t rfl ?_))
    unfold wpY_keeping
    exact br_f h0 (br_t h5 (br_t rfl ⟨rfl, I⟩))
  · refine br_f h0 (br_f h6 (br_f pg_10 ?_))
    refine pg_cnl (fun n i s => wX_keeping_13 _ v1 (nI m) (nI (pg_gr G m).length) ag ae ai 46656 n (nI s) (nI i)) (fun i => decide (pg_im v1 ((pg_gr G m).getD i 0) = v1)) (pg_gr G m).length (fun n i s hi hp w => ?_) (fun n i s hi hp w => ?_) (fun n => br_t (nI_le (Nat.le_refl _) (by omega)) ?_)
    · exact br_f (nI_ge hi (by omega)) ⟨vp_in_nI (by omega) (by decide), pg_xis (pg_31 (hlt _ (pg_get_mem hi))) (by rw [pg_cl720 (by omega)]; exact hX.1 i hi) (br_t (of_decide_eq_true hp) (nm_r (nI_1 s) (nm_r (nI_1 i) w)))⟩
    · exact br_f (nI_ge hi (by omega)) ⟨vp_in_nI (by omega) (by decide), pg_xis (pg_31 (hlt _ (pg_get_mem hi))) (by rw [pg_cl720 (by omega)]; exact hX.1 i hi) (br_f (of_decide_eq_false hp) (nm_r (nI_1 i) w))⟩
    · unfold wpY_keeping
      refine br_f h0 (br_f h5 (br_f pg_10 ?_))
      refine pg_cnl (fun n i s => wY_keeping_14 _ v1 (nI m) (nI (pg_gr G m).length) bg bl bm bp ba n (nI s) (nI i)) (fun i => decide (pg_im v1 ((pg_gr G m).getD i 0) = v1)) (pg_gr G m).length (fun n i s hi hp w => ?_) (fun n i s hi hp w => ?_) (fun n => br_t (nI_le (Nat.le_refl _) (by omega)) ⟨rfl, I⟩)
      · exact br_f (nI_ge hi (by omega)) ⟨vp_in_nI (by omega) (by decide), pg_yis hP (pg_31 (hlt _ (pg_get_mem hi))) (by rw [pg_cl720 (by omega)]; exact hY.1 i hi) (br_t (of_decide_eq_true hp) (nm_r (nI_1 s) (nm_r (nI_1 i) w)))⟩
      · exact br_f (nI_ge hi (by omega)) ⟨vp_in_nI (by omega) (by decide), pg_yis hP (pg_31 (hlt _ (pg_get_mem hi))) (by rw [pg_cl720 (by omega)]; exact hY.1 i hi) (br_f (of_decide_eq_false hp) (nm_r (nI_1 i) w))⟩
/-- the sets met, as the bits of a long -/
def pg_ig (S : Int32) (L : List Nat) (i : Nat) (s : Int64) : Int64 := s ||| ((1 : Int64) <<< ((pg_im S (L.getD i 0)).toInt64 &&& 63))
theorem i_vc_images {k : Nat} {u : SX} {v : SY} (I : i_Rel k u v) (hk : k + 3 ≤ 1536) (v1 : Int32) : wpX_images (fun r => wpY_images (fun r' => r' = r ∧ i_Rel (k + 3) u v) v v1) u v1 := by
  have I' := I
  obtain ⟨G, m, ag, ae, ai, bg, bl, bm, bp, ba, rfl, rfl, hm, hG, hag, hbg, hX, hY, hP, hA⟩ := I'
  have hW := pg_gr_W hG
  have hl := hW.2.2.1
  have hlt := pg_W_lt hW
  unfold wpX_images
  rcases pg_st v1 with h | ⟨h0, h6, h5⟩ | ⟨h0, h6, h5⟩
  · refine br_t h (br_t rfl ?_)
    unfold wpY_images
    exact br_t h (br_t rfl ⟨rfl, I⟩)
  · refine br_f h0 (br_t h6 (br_t rfl ?_))
    unfold wpY_images
    exact br_f h0 (br_t h5 (br_t rfl ⟨rfl, I⟩))
  · refine br_f h0 (br_f h6 (br_f pg_10 ?_))
    refine pg_fl (fun n i s => wX_images_14 _ v1 (nI m) (nI (pg_gr G m).length) ag ae ai 46656 n s (nI i)) (pg_ig v1 (pg_gr G m)) (pg_gr G m).length 0 (fun n i s hi w => ?_) (fun n => br_t (nI_le (Nat.le_refl _) (by omega)) (pg_xcb ?_))
    · exact br_f (nI_ge hi (by omega)) ⟨vp_in_nI (by omega) (by decide), pg_xis (pg_31 (hlt _ (pg_get_mem hi))) (by rw [pg_cl720 (by omega)]; exact hX.1 i hi) (nm_e (nm_r (nI_1 i) w))⟩
    · unfold wpY_images
      refine br_f h0 (br_f h5 (br_f pg_10 ?_))
      refine pg_fl (fun n i s => wY_images_15 _ v1 (nI m) (nI (pg_gr G m).length) bg bl bm bp ba n s (nI i)) (pg_ig v1 (pg_gr G m)) (pg_gr G m).length 0 (fun n i s hi w => ?_) (fun n => br_t (nI_le (Nat.le_refl _) (by omega)) ?_)
      · exact br_f (nI_ge hi (by omega)) ⟨vp_in_nI (by omega) (by decide), pg_yis hP (pg_31 (hlt _ (pg_get_mem hi))) (by rw [pg_cl720 (by omega)]; exact hY.1 i hi) (nm_e (nm_r (nI_1 i) w))⟩
      · refine pg_cnl (fun n i s => wY_images_57 _ (pg_fo (pg_ig v1 (pg_gr G m)) (pg_gr G m).length 0) (nI m) (nI (pg_gr G m).length) bg bl bm bp ba n (nI s) (nI i)) (fun i => decide (((pg_fo (pg_ig v1 (pg_gr G m)) (pg_gr G m).length 0) >>> ((nI i).toInt64 &&& 63)) &&& 1 = 1)) 64 (fun n i s hi hp w => ?_) (fun n i s hi hp w => ?_) (fun n => br_t (by decide) ⟨rfl, I⟩)
        · exact br_f (nI_ge (b := 64) hi (by decide)) (br_t (of_decide_eq_true hp) (nm_r (nI_1 s) (nm_r (nI_1 i) w)))
        · exact br_f (nI_ge (b := 64) hi (by decide)) (br_f (of_decide_eq_false hp) (nm_r (nI_1 i) w))
