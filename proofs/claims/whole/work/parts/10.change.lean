/-! the methods that change the generators -/
/-- G with c behind its first m -/
def pg_ad (G : Nat → Nat) (m c : Nat) : Nat → Nat := fun j => if j = m then c else G j
theorem pg_ad_ip {G : Nat → Nat} {m c : Nat} (hG : ∀ j, j < m → pg_ip (G j)) (hc : pg_ip c) : ∀ j, j < m + 1 → pg_ip (pg_ad G m c j) := by
  intro j hj
  unfold pg_ad
  split
  · exact hc
  · exact hG j (by omega)
theorem pg_ad_ar {G : Nat → Nat} {m c : Nat} {ag : Nat → Int32} (h : ∀ j, j < m → ag j = nI (G j)) : ∀ j, j < m + 1 → upd ag m (nI c) j = nI (pg_ad G m c j) := by
  intro j hj
  unfold pg_ad
  by_cases e : j = m
  · rw [e, pk_us, if_pos rfl]
  · rw [pk_un e, if_neg e]
    exact h j (by omega)
theorem pg_W_lt {L : List Nat} (h : pg_W L) : ∀ a, a ∈ L → a < 46656 := fun a ha => (h.2.1 a ha).1
theorem i_vc_add {k : Nat} {u : SX} {v : SY} (I : i_Rel k u v) (hk : k + 3 ≤ 1536) (v1 : Int32) : wpX_add (fun r u' => wpY_add (fun r' v' => r' = r ∧ i_Rel (k + 3) u' v') v v1) u v1 := by
  obtain ⟨G, m, ag, ae, ai, bg, bl, bm, bp, ba, rfl, rfl, hR⟩ := I
  have hR' := hR
  obtain ⟨hm, hG, hag, hbg, hX, hY, hP, hA⟩ := hR'
  have hW := pg_gr_W hG
  by_cases hv : pg_iv v1
  · obtain ⟨c, rfl, hc⟩ := hv
    unfold wpX_add
    refine pg_xip_t hc (br_f pg_10 ?_)
    by_cases h5 : m < 5
    · refine br_t (nI_lt (b := 5) h5 (by decide)) ⟨vp_in_nI h5 (by decide), nm_r (e' := upd ag m (nI c)) (by rw [pg_cl5 h5]) (nm_r (nI_1 m) ?_)⟩
      refine pg_xre (G := pg_ad G m c) (m := m + 1) (L := pg_gr G m) (by omega) (pg_ad_ip hG hc) (pg_ad_ar hag) (pg_W_lt hW) hW.2.2.1 hX fun ae' ai' hX' => ?_
      unfold wpY_add
      refine pg_yip_t hP hc (br_f pg_10 (br_f (fun z => ?_) ⟨vp_in_nI h5 (by decide), nm_r (e' := upd bg m (nI c)) (by rw [pg_cl5 h5]) (nm_r (nI_1 m) ?_)⟩))
      · have e := (nI_eq (b := 5) (by omega) (by decide)).mp z
        omega
      · exact pg_yre (G := pg_ad G m c) (m := m + 1) hP (by omega) (pg_ad_ip hG hc) (pg_ad_ar hbg) fun bl' bm' hY' => ⟨rfl, _, _, _, _, _, _, _, _, _, _, rfl, rfl, by omega, pg_ad_ip hG hc, pg_ad_ar hag, pg_ad_ar hbg, hX', hY', hP, hA⟩
    · refine br_f (nI_nlt (b := 5) (by omega) (by omega)) ?_
      unfold wpY_add
      have e : m = 5 := by omega
      exact pg_yip_t hP hc (br_f pg_10 (br_t (congrArg nI e) ⟨rfl, _, _, _, _, _, _, _, _, _, _, rfl, rfl, hR⟩))
  · unfold wpX_add
    refine pg_xip_f hv (br_t rfl ?_)
    unfold wpY_add
    exact pg_yip_f hP hv (br_t rfl ⟨rfl, _, _, _, _, _, _, _, _, _, _, rfl, rfl, hR⟩)
theorem i_vc_remove {k : Nat} {u : SX} {v : SY} (I : i_Rel k u v) (hk : k + 3 ≤ 1536) : wpX_remove (fun r u' => wpY_remove (fun r' v' => r' = r ∧ i_Rel (k + 3) u' v') v) u := by
  obtain ⟨G, m, ag, ae, ai, bg, bl, bm, bp, ba, rfl, rfl, hR⟩ := I
  have hR' := hR
  obtain ⟨hm, hG, hag, hbg, hX, hY, hP, hA⟩ := hR'
  have hW := pg_gr_W hG
  unfold wpX_remove
  match m, hm, hG, hag, hbg, hX, hY, hW, hR with
  | 0, hm, hG, hag, hbg, hX, hY, hW, hR =>
    refine br_f (by decide) ?_
    unfold wpY_remove
    exact br_t rfl ⟨rfl, _, _, _, _, _, _, _, _, _, _, rfl, rfl, hR⟩
  | m + 1, hm, hG, hag, hbg, hX, hY, hW, hR =>
    have hG' : ∀ j, j < m → pg_ip (G j) := fun j hj => hG j (by omega)
    have hag' : ∀ j, j < m → ag j = nI (G j) := fun j hj => hag j (by omega)
    have hbg' : ∀ j, j < m → bg j = nI (G j) := fun j hj => hbg j (by omega)
    have h5 : m < 5 := by omega
    refine br_t (nI_lt (a := 0) (by omega) (by omega)) (nm_r (nI_pred m) ⟨vp_in_nI h5 (by decide), nm_r (e' := nI (G m)) (by rw [pg_cl5 h5]; exact hag m (by omega)) ?_⟩)
    refine pg_xre (G := G) (m := m) (L := pg_gr G (m + 1)) (by omega) hG' hag' (pg_W_lt hW) hW.2.2.1 hX fun ae' ai' hX' => ?_
    unfold wpY_remove
    refine br_f (nI_ne0 (by omega) (by omega)) (nm_r (nI_pred m) ?_)
    refine pg_yre (G := G) (m := m) hP (by omega) hG' hbg' fun bl' bm' hY' => ⟨vp_in_nI h5 (by decide), ?_, _, _, _, _, _, _, _, _, _, _, rfl, rfl, by omega, hG', hag', hbg', hX', hY', hP, hA⟩
    rw [pg_cl5 h5]
    exact hbg m (by omega)
/-- all generators carried by h -/
def pg_gc (G : Nat → Nat) (h : Nat) : Nat → Nat := fun j => pg_cj (G j) h
theorem i_vc_conjugateAll {k : Nat} {u : SX} {v : SY} (I : i_Rel k u v) (hk : k + 3 ≤ 1536) (v1 : Int32) : wpX_conjugateAll (fun r u' => wpY_conjugateAll (fun r' v' => r' = r ∧ i_Rel (k + 3) u' v') v v1) u v1 := by
  obtain ⟨G, m, ag, ae, ai, bg, bl, bm, bp, ba, rfl, rfl, hR⟩ := I
  have hR' := hR
  obtain ⟨hm, hG, hag, hbg, hX, hY, hP, hA⟩ := hR'
  have hW := pg_gr_W hG
  by_cases hv : pg_iv v1
  · obtain ⟨c, rfl, hc⟩ := hv
    have hG' : ∀ j, j < m → pg_ip (pg_gc G c j) := fun j hj => pg_ip_cj (hG j hj) hc
    unfold wpX_conjugateAll
    refine pg_xip_t hc (br_f pg_10 ?_)
    refine loop_0 (fun n i s => wX_conjugateAll_11 _ (nI c) (nI m) (nI (pg_gr G m).length) 46656 n (nI i) s ae ai) (fun i s => (∀ j, j < i → s j = nI (pg_gc G c j)) ∧ (∀ j, i ≤ j → j < m → s j = nI (G j))) m ag ⟨fun j hj => absurd hj (Nat.not_lt_zero j), fun j _ hj => hag j hj⟩ ?_ ?_
    · intro n s hs
      refine br_t (nI_le (Nat.le_refl m) (by omega)) ?_
      refine pg_xre (G := pg_gc G c) (m := m) (L := pg_gr G m) hm hG' hs.1 (pg_W_lt hW) hW.2.2.1 hX fun ae' ai' hX' => ?_
      unfold wpY_conjugateAll
      refine pg_yip_t hP hc (br_f pg_10 ?_)
      refine loop_0 (fun n i t => wY_conjugateAll_12 _ (nI c) (nI m) (nI (pg_gr G m).length) n (nI i) t bl bm bp ba) (fun i t => (∀ j, j < i → t j = nI (pg_gc G c j)) ∧ (∀ j, i ≤ j → j < m → t j = nI (G j))) m bg ⟨fun j hj => absurd hj (Nat.not_lt_zero j), fun j _ hj => hbg j hj⟩ ?_ ?_
      · intro n t ht
        refine br_t (nI_le (Nat.le_refl m) (by omega)) ?_
        exact pg_yre (G := pg_gc G c) (m := m) hP hm hG' ht.1 fun bl' bm' hY' => ⟨rfl, _, _, _, _, _, _, _, _, _, _, rfl, rfl, hm, hG', hs.1, ht.1, hX', hY', hP, hA⟩
      · intro n i t hi ht hw
        have hin : vp_in (nI i) 5 := vp_in_nI (by omega) (by decide)
        refine br_f (nI_ge hi (by omega)) ⟨hin, pg_ycj hP (hG i hi).1 hc (by rw [pg_cl5 (by omega)]; exact ht.2 i (Nat.le_refl i) hi) rfl ⟨hin, nm_r (e' := upd t i (nI (pg_gc G c i))) (by rw [pg_cl5 (by omega)]; rfl) (nm_r (nI_1 i) (hw _ ⟨fun j hj => ?_, fun j h1 h2 => ?_⟩))⟩⟩
        · by_cases e : j = i
          · rw [e, pk_us]
          · rw [pk_un e]; exact ht.1 j (by omega)
        · rw [pk_un (by omega)]; exact ht.2 j (by omega) h2
    · intro n i s hi hs hw
      have hin : vp_in (nI i) 5 := vp_in_nI (by omega) (by decide)
      refine br_f (nI_ge hi (by omega)) ⟨hin, pg_xcj (hG i hi).1 hc (by rw [pg_cl5 (by omega)]; exact hs.2 i (Nat.le_refl i) hi) rfl ⟨hin, nm_r (e' := upd s i (nI (pg_gc G c i))) (by rw [pg_cl5 (by omega)]; rfl) (nm_r (nI_1 i) (hw _ ⟨fun j hj => ?_, fun j h1 h2 => ?_⟩))⟩⟩
      · by_cases e : j = i
        · rw [e, pk_us]
        · rw [pk_un e]; exact hs.1 j (by omega)
      · rw [pk_un (by omega)]; exact hs.2 j (by omega) h2
  · unfold wpX_conjugateAll
    refine pg_xip_f hv (br_t rfl ?_)
    unfold wpY_conjugateAll
    exact pg_yip_f hP hv (br_t rfl ⟨rfl, _, _, _, _, _, _, _, _, _, _, rfl, rfl, hR⟩)
