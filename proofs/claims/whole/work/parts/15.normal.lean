/-! normaliser -/
def pg_no (G : Nat → Nat) (m h : Nat) : Prop := ∀ j, j < m → pg_cj (G j) h ∈ pg_gr G m
theorem pg_cj_lt (g h : Nat) : pg_cj g h < 46656 := pg_mul_lt _ _
theorem pg_xno {post : Int32 → Prop} {G : Nat → Nat} {m h : Nat} {ec : Int32} {ag ae ai : Nat → Int32} (hm : m ≤ 5) (hG : ∀ j, j < m → pg_ip (G j)) (hag : ∀ j, j < m → ag j = nI (G j)) (hX : pg_XL (pg_gr G m) ae ai) (hh : pg_ip h) (ht : pg_no G m h → post 1) (hf : ¬ pg_no G m h → post 0) : wpX_carriesGroupIntoItself post (nI m, ec, ag, ae, ai, 46656) (nI h) := by
  unfold wpX_carriesGroupIntoItself
  refine pg_al2 (fun n i => wX_carriesGroupIntoItself_2 post (nI h) (nI m) ec ag ae ai 46656 n (nI i)) (fun j => pg_cj (G j) h ∈ pg_gr G m) m (post 1) (post 0) (fun n h => br_t (nI_le (Nat.le_refl _) (by omega)) h) (fun n i hi hp w => ?_) (fun n i hi hp hq => ?_) ht hf
  · refine br_f (nI_ge hi (by omega)) ⟨vp_in_nI (by omega) (by decide), pg_xcj (hG i hi).1 hh (by rw [pg_cl5 (by omega)]; exact hag i hi) rfl ⟨vp_in_nI (pg_mul_lt _ _) (by decide), br_f (fun z => ?_) (nm_r (nI_1 i) w)⟩⟩
    rw [nI_clamp (pg_31 (pg_cj_lt _ _))] at z
    exact (hX.2 _ (pg_cj_lt _ _)).mp z hp
  · refine br_f (nI_ge hi (by omega)) ⟨vp_in_nI (by omega) (by decide), pg_xcj (hG i hi).1 hh (by rw [pg_cl5 (by omega)]; exact hag i hi) rfl ⟨vp_in_nI (pg_mul_lt _ _) (by decide), br_t ?_ hq⟩⟩
    rw [nI_clamp (pg_31 (pg_cj_lt _ _))]
    exact (hX.2 _ (pg_cj_lt _ _)).mpr hp
theorem pg_yno2 {post : Int32 → Prop} {G : Nat → Nat} {m h : Nat} {fo : Int32} {bg bl bm bp ba : Nat → Int32} (hP : pg_YP bp) (hm : m ≤ 5) (hG : ∀ j, j < m → pg_ip (G j)) (hbg : ∀ j, j < m → bg j = nI (G j)) (hY : pg_YL (pg_gr G m) bl bm) (hh : pg_ip h) {A : Int32} (eA : A = nI h) (ht : pg_no G m h → post 1) (hf : ¬ pg_no G m h → post 0) : wpY_normalises post (nI m, fo, bg, bl, bm, bp, ba) A := by
  subst eA
  unfold wpY_normalises
  refine pg_al2 (fun n i => wY_normalises_2 post (nI h) (nI m) fo bg bl bm bp ba n (nI i)) (fun j => pg_cj (G j) h ∈ pg_gr G m) m (post 1) (post 0) (fun n h => br_t (nI_le (Nat.le_refl _) (by omega)) h) (fun n i hi hp w => ?_) (fun n i hi hp hq => ?_) ht hf
  · exact br_f (nI_ge hi (by omega)) ⟨vp_in_nI (by omega) (by decide), pg_ycj hP (hG i hi).1 hh (by rw [pg_cl5 (by omega)]; exact hbg i hi) rfl (pg_yim hY (pg_mul_lt _ _) rfl (fun _ => br_f pg_10 (nm_r (nI_1 i) w)) (fun z => absurd hp z))⟩
  · exact br_f (nI_ge hi (by omega)) ⟨vp_in_nI (by omega) (by decide), pg_ycj hP (hG i hi).1 hh (by rw [pg_cl5 (by omega)]; exact hbg i hi) rfl (pg_yim hY (pg_mul_lt _ _) rfl (fun z => absurd z hp) (fun _ => br_t rfl hq))⟩
noncomputable def pg_nn (G : Nat → Nat) (m : Nat) : Nat := pg_cn (fun h => pg_cd (pg_ip h ∧ pg_no G m h)) 46656
theorem pg_nn_e (G : Nat → Nat) (m : Nat) : pg_cn (fun i => pg_cd (pg_no G m ((pg_gr pg_g2 2).getD i 0))) 720 = pg_nn G m := by
  have e1 : pg_cn (fun i => pg_cd (pg_no G m ((pg_gr pg_g2 2).getD i 0))) (pg_gr pg_g2 2).length = (pg_gr pg_g2 2).countP (fun h => pg_cd (pg_no G m h)) := pg_cn_list (fun h => pg_cd (pg_no G m h)) (pg_gr pg_g2 2)
  rw [pg_g2_len] at e1
  unfold pg_nn
  rw [e1, pg_cn_range]
  refine (pg_count (fun h => pg_cd (pg_no G m h)) (fun h => pg_cd (pg_ip h ∧ pg_no G m h)) fun c hc => ?_).symm
  rw [pg_cd_i, pg_cd_i]
theorem pg_niv {h : Nat} (hh : h < 46656) (hn : ¬ pg_ip h) : ¬ pg_iv (nI h) := by
  rintro ⟨c, e, hc⟩
  have t := (nI_eq (pg_31 hh) (pg_31 hc.1)).mp e
  exact hn (t ▸ hc)
theorem i_vc_normaliser {k : Nat} {u : SX} {v : SY} (I : i_Rel k u v) (hk : k + 3 ≤ 1536) : wpX_normaliser (fun r => wpY_normaliser (fun r' => r' = r ∧ i_Rel (k + 3) u v) v) u := by
  have I' := I
  obtain ⟨G, m, ag, ae, ai, bg, bl, bm, bp, ba, rfl, rfl, hm, hG, hag, hbg, hX, hY, hP, hA⟩ := I'
  unfold wpX_normaliser
  refine pg_cnl (fun n i s => wX_normaliser_4 _ (nI m) (nI (pg_gr G m).length) ag ae ai 46656 n (nI s) (nI i)) (fun h => pg_cd (pg_ip h ∧ pg_no G m h)) 46656 (fun n i s hi hp w => ?_) (fun n i s hi hp w => ?_) (fun n => br_t (by decide) ?_)
  · have hp' := pg_cd_t hp
    exact br_f (nI_ge (b := 46656) hi (by decide)) (pg_xip_t hp'.1 (br_f pg_10 (pg_xno hm hG hag hX hp'.1 (fun _ => br_f pg_10 (nm_r (nI_1 s) (nm_r (nI_1 i) w))) (fun z => absurd hp'.2 z))))
  · have hp' := pg_cd_f hp
    refine br_f (nI_ge (b := 46656) hi (by decide)) ?_
    by_cases hip : pg_ip i
    · exact pg_xip_t hip (br_f pg_10 (pg_xno hm hG hag hX hip (fun z => absurd ⟨hip, z⟩ hp') (fun _ => br_t rfl (nm_r (nI_1 i) w))))
    · exact pg_xip_f (pg_niv hi hip) (br_t rfl (nm_r (nI_1 i) w))
  · unfold wpY_normaliser
    have hall : ∀ i, i < 720 → pg_ip ((pg_gr pg_g2 2).getD i 0) := fun i hi => pg_g2_all.mp (pg_get_mem (by rw [pg_g2_len]; exact hi))
    refine pg_cnl (fun n i s => wY_normaliser_4 _ (nI m) (nI (pg_gr G m).length) bg bl bm bp ba n (nI s) (nI i)) (fun i => pg_cd (pg_no G m ((pg_gr pg_g2 2).getD i 0))) 720 (fun n i s hi hp w => ?_) (fun n i s hi hp w => ?_) (fun n => br_t (by decide) ⟨congrArg nI (pg_nn_e G m), I⟩)
    · exact br_f (nI_ge (b := 720) hi (by decide)) ⟨vp_in_nI hi (by decide), pg_yno2 hP hm hG hbg hY (hall i hi) (by rw [pg_cl720 hi]; exact hA i hi) (fun _ => br_f pg_10 (nm_r (nI_1 s) (nm_r (nI_1 i) w))) (fun z => absurd (pg_cd_t hp) z)⟩
    · exact br_f (nI_ge (b := 720) hi (by decide)) ⟨vp_in_nI hi (by decide), pg_yno2 hP hm hG hbg hY (hall i hi) (by rw [pg_cl720 hi]; exact hA i hi) (fun z => absurd z (pg_cd_f hp)) (fun _ => br_t rfl (nm_r (nI_1 i) w))⟩
