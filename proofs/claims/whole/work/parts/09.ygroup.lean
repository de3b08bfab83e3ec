/-! the reference's search -/
theorem pg_yin {post : SY → Prop} {J : Int32 → Int32 → Int32 → (Nat → Int32) → (Nat → Int32) → (Nat → Int32) → (Nat → Int32) → (Nat → Int32) → Prop} {G : Nat → Nat} {m i : Nat} {ag ap aa : Nat → Int32} (hP : pg_YP ap) (hm : m ≤ 5) (hG : ∀ j, j < m → pg_ip (G j)) (hag : ∀ j, j < m → ag j = nI (G j)) : ∀ r j n L al am, j + r = m → r < n → i < L.length → pg_W L → pg_YL L al am → (∀ al' am', pg_YL (pg_in G i r j L) al' am' → J (nI (i + 1)) (nI m) (nI (pg_in G i r j L).length) ag al' am' ap aa) → wY_listGroup_71 post J (nI i) n (nI j) (nI m) (nI L.length) ag al am ap aa := by
  intro r
  induction r with
  | zero =>
    intro j n L al am hj hn hi hW hY hp
    obtain ⟨n', rfl⟩ : ∃ n', n = n' + 1 := ⟨n - 1, by omega⟩
    refine br_t (nI_le (by omega) (by omega)) (nm_r (nI_1 i) (hp al am hY))
  | succ r ih =>
    intro j n L al am hj hn hi hW hY hp
    obtain ⟨n', rfl⟩ : ∃ n', n = n' + 1 := ⟨n - 1, by omega⟩
    have hl := hW.2.2.1
    have hjm : j < m := by omega
    have ha : pg_ip (L.getD i 0) := hW.2.1 _ (pg_get_mem hi)
    have hq : pg_ip (pg_mul (L.getD i 0) (G j)) := pg_ip_mul ha (hG j hjm)
    refine br_f (nI_ge hjm (by omega)) ⟨vp_in_nI (by omega) (by decide), vp_in_nI (by omega) (by decide), ?_⟩
    refine pg_yti hP (pg_31 ha.1) (pg_31 (hG j hjm).1) (by rw [pg_cl720 (by omega)]; exact hY.1 i hi) (by rw [pg_cl5 (by omega)]; exact hag j hjm) ?_
    refine pg_yno hY hl hq.1 fun al' am' hY' => ?_
    refine nm_r (nI_1 j) ?_
    exact ih (j + 1) n' _ al' am' (by omega) (by omega) (Nat.lt_of_lt_of_le hi pg_nt_ge) (pg_nt_W hW hq) hY' hp
theorem pg_ybl {post : SY → Prop} {G : Nat → Nat} {m : Nat} {ag ap aa : Nat → Int32} (hP : pg_YP ap) (hm : m ≤ 5) (hG : ∀ j, j < m → pg_ip (G j)) (hag : ∀ j, j < m → ag j = nI (G j)) : ∀ f i n L al am, i + f = 720 → f < n → pg_W L → pg_YL L al am → (∀ al' am', pg_YL (pg_bl G m f i L) al' am' → post (nI m, nI (pg_bl G m f i L).length, ag, al', am', ap, aa)) → wY_listGroup_61 post n (nI i) (nI m) (nI L.length) ag al am ap aa := by
  intro f
  induction f with
  | zero =>
    intro i n L al am hi hn hW hY hp
    obtain ⟨n', rfl⟩ : ∃ n', n = n' + 1 := ⟨n - 1, by omega⟩
    have hl := hW.2.2.1
    exact br_t (nI_le (by omega) (by omega)) (hp al am hY)
  | succ f ih =>
    intro i n L al am hi hn hW hY hp
    obtain ⟨n', rfl⟩ : ∃ n', n = n' + 1 := ⟨n - 1, by omega⟩
    have hl := hW.2.2.1
    by_cases h : i < L.length
    · rw [pg_bl, if_pos h] at hp
      refine br_f (nI_ge h (by omega)) ⟨m + 1, ?_⟩
      refine pg_yin (i := i) (J := wY_listGroup_61 post n') hP hm hG hag m 0 (m + 1) L al am (by omega) (by omega) h hW hY fun al' am' hY' => ?_
      exact ih (i + 1) n' _ al' am' (by omega) (by omega) (pg_in_W hG h hW) hY' hp
    · rw [pg_bl, if_neg h] at hp
      exact br_t (nI_le (by omega) (by omega)) (hp al am hY)
theorem pg_yre {post : SY → Prop} {G : Nat → Nat} {m : Nat} {fo : Int32} {ag al am ap aa : Nat → Int32} (hP : pg_YP ap) (hm : m ≤ 5) (hG : ∀ j, j < m → pg_ip (G j)) (hag : ∀ j, j < m → ag j = nI (G j)) (hp : ∀ al' am', pg_YL (pg_gr G m) al' am' → post (nI m, nI (pg_gr G m).length, ag, al', am', ap, aa)) : wpY_listGroup post (nI m, fo, ag, al, am, ap, aa) := by
  unfold wpY_listGroup
  refine loop_0 (fun n i s => wY_listGroup_2 post (nI m) fo n (nI i) ag al s ap aa) (fun i s => ∀ k, k < i → s k = 0) 1458 am (fun k hk => absurd hk (Nat.not_lt_zero k)) ?_ ?_
  · intro n s hs
    refine br_t (by decide) ?_
    refine pg_fl (fun n i t => wY_listGroup_31 post (nI m) 0 ag al s ap aa n (nI t) (nI i)) (fun i t => t + 6 ^ i * i) 6 0 (fun n i t hi w => ?_) (fun n => ?_)
    · refine br_f (pg_le6 hi) ⟨vp_in_nI hi (by decide), nm_r (e' := nI (t + 6 ^ i * i)) ?_ (nm_r (nI_1 i) w)⟩
      rw [pg_cl6 hi, hP i hi, pk_mul, nI_add]
    · refine br_t pg_ge6 ?_
      refine pg_yno (L := []) (g := 44790) ⟨fun i hi => absurd hi (Nat.not_lt_zero i), fun c hc => ?_⟩ (by decide) (by decide) fun al' am' hY' => ?_
      · rw [hs (c / 32) (by omega), b_0]
        exact ⟨fun z => absurd z (by decide), fun z => absurd z List.not_mem_nil⟩
      · exact ⟨721, pg_ybl hP hm hG hag 720 0 721 [44790] al' am' (by decide) (by decide) pg_W0 hY' hp⟩
  · intro n i s hi hs hw
    refine br_f (nI_ge (b := 1458) hi (by decide)) ⟨vp_in_nI hi (by decide), nm_r (e' := upd s i 0) (by rw [nI_clamp (by omega)]) (nm_r (nI_1 i) (hw _ fun k hk => ?_))⟩
    by_cases h : k = i
    · rw [h, pk_us]
    · rw [pk_un h]
      exact hs k (by omega)
/-! the reference's constructor -/
def pg_YA (aa : Nat → Int32) : Prop := ∀ i, i < 720 → aa i = nI ((pg_gr pg_g2 2).getD i 0)
theorem pg_yi3 {post : SY → Prop} {fc fo : Int32} {ag al am ap aa : Nat → Int32} (hP : pg_YP ap) (hY : pg_YL (pg_gr pg_g2 2) al am) (hp : ∀ al' am' aa', pg_YL (pg_gr (fun _ => 0) 0) al' am' → pg_YA aa' → post (nI 0, nI (pg_gr (fun _ => 0) 0).length, ag, al', am', ap, aa')) : ∃ n, wY_init_157 post fc fo n 0 ag al am ap aa := by
  refine loop_0 (fun n i s => wY_init_157 post fc fo n (nI i) ag al am ap s) (fun i s => ∀ k, k < i → s k = nI ((pg_gr pg_g2 2).getD k 0)) 720 aa (fun k hk => absurd hk (Nat.not_lt_zero k)) ?_ ?_
  · intro n s hs
    refine br_t (by decide) ?_
    exact pg_yre (G := fun _ => 0) (m := 0) hP (by decide) (fun j hj => absurd hj (Nat.not_lt_zero j)) (fun j hj => absurd hj (Nat.not_lt_zero j)) fun al' am' hY' => hp al' am' s hY' hs
  · intro n i s hi hs hw
    have hin : vp_in (nI i) 720 := vp_in_nI hi (by decide)
    refine br_f (nI_ge (b := 720) hi (by decide)) ⟨hin, hin, nm_r (e' := upd s i (nI ((pg_gr pg_g2 2).getD i 0))) ?_ (nm_r (nI_1 i) (hw _ fun k hk => ?_))⟩
    · rw [pg_cl720 hi, hY.1 i (by rw [pg_g2_len]; exact hi)]
    · by_cases h : k = i
      · rw [h, pk_us]
      · rw [pk_un h]
        exact hs k (by omega)
def pg_s0 (i : Nat) : Nat := pg_fo (fun i s => s + 6 ^ i * ((i + 1) % 6)) i 0
def pg_s1 (i : Nat) : Nat := pg_fo (fun i s => s + 6 ^ i * (if i < 2 then 1 - i else i)) i 0
theorem pg_yi2 {post : SY → Prop} {fc fo : Int32} {ag al am ap aa : Nat → Int32} (hP : pg_YP ap) (h0 : ag 0 = 0) (h1 : ag 1 = 0) (hp : ∀ ag' al' am' aa', pg_YL (pg_gr (fun _ => 0) 0) al' am' → pg_YA aa' → post (nI 0, nI (pg_gr (fun _ => 0) 0).length, ag', al', am', ap, aa')) : ∃ n, wY_init_76 post fc fo n 0 ag al am ap aa := by
  refine loop_0 (fun n i s => wY_init_76 post fc fo n (nI i) s al am ap aa) (fun i s => s 0 = nI (pg_s0 i) ∧ s 1 = nI (pg_s1 i)) 6 ag ⟨h0, h1⟩ ?_ ?_
  · intro n s hs
    refine br_t pg_ge6 ?_
    refine pg_yre (G := pg_g2) (m := 2) hP (by decide) (fun j _ => pg_g2_ip j) (fun j hj => ?_) fun al' am' hY' => ?_
    · match j, hj with
      | 0, _ => exact hs.1
      | 1, _ => exact hs.2
      | j + 2, h => exact absurd h (by omega)
    · exact pg_yi3 hP hY' (hp s)
  · intro n i s hi hs hw
    have hin : vp_in (nI i) 6 := vp_in_nI hi (by decide)
    refine br_f (pg_le6 hi) ⟨hin, pg_60, nm_r (e' := upd s 0 (nI (pg_s0 (i + 1)))) ?_ ⟨hin, ?_⟩⟩
    · rw [nI_1, pg_rem6 (by omega), pg_cl6 hi, hP i hi, pk_mul, hs.1, nI_add]
      rfl
    · have e1 : upd s 0 (nI (pg_s0 (i + 1))) 1 = nI (pg_s1 i) := by
        rw [pk_un (by decide)]
        exact hs.2
      rw [e1, pg_cl6 hi, hP i hi]
      by_cases h : i < 2
      · refine br_f (nI_ge (b := 2) h (by decide)) (nm_r (e' := upd (upd s 0 (nI (pg_s0 (i + 1)))) 1 (nI (pg_s1 (i + 1)))) ?_ (nm_r (nI_1 i) (hw _ ⟨?_, pk_us⟩)))
        · have e2 : (1 : Int32) - nI i = nI (1 - i) := pk_sub (a := 1) (by omega)
          rw [e2, pk_mul, nI_add]
          show _ = upd _ 1 (nI (pg_s1 i + 6 ^ i * (if i < 2 then 1 - i else i)))
          rw [if_pos h]
        · rw [pk_un (by decide), pk_us]
      · refine br_t (nI_le (a := 2) (by omega) (by omega)) (nm_r (e' := upd (upd s 0 (nI (pg_s0 (i + 1)))) 1 (nI (pg_s1 (i + 1)))) ?_ (nm_r (nI_1 i) (hw _ ⟨?_, pk_us⟩)))
        · rw [pk_mul, nI_add]
          show _ = upd _ 1 (nI (pg_s1 i + 6 ^ i * (if i < 2 then 1 - i else i)))
          rw [if_neg h]
        · rw [pk_un (by decide), pk_us]
theorem pg_yi1 {post : SY → Prop} (hp : ∀ ag' al' am' ap' aa', pg_YP ap' → pg_YL (pg_gr (fun _ => 0) 0) al' am' → pg_YA aa' → post (nI 0, nI (pg_gr (fun _ => 0) 0).length, ag', al', am', ap', aa')) : wpY_init post := by
  unfold wpY_init
  refine loop_0 (fun n i s => wY_init_50 post 0 0 n (nI (6 ^ i)) (nI i) (fun _ => 0) (fun _ => 0) (fun _ => 0) s (fun _ => 0)) (fun i s => ∀ x, x < i → s x = nI (6 ^ x)) 6 (fun _ => 0) (fun k hk => absurd hk (Nat.not_lt_zero k)) ?_ ?_
  · intro n s hs
    exact br_t pg_ge6 (pg_yi2 hs rfl rfl fun ag' al' am' aa' => hp ag' al' am' s aa' hs)
  · intro n i s hi hs hw
    refine br_f (pg_le6 hi) ⟨vp_in_nI hi (by decide), nm_r (e' := upd s i (nI (6 ^ i))) (by rw [pg_cl6 hi]) (nm_r (e' := nI (6 ^ (i + 1))) ?_ (nm_r (nI_1 i) (hw _ fun x hx => ?_)))⟩
    · show nI 6 * nI (6 ^ i) = _
      rw [pk_mul, Nat.mul_comm, ← Nat.pow_succ]
    · by_cases h : x = i
      · rw [h, pk_us]
      · rw [pk_un h]
        exact hs x (by omega)
/-! the relation -/
/-- the generators G 0 .. G (m - 1); both sides hold the same list, found by the same search -/
def pg_R (G : Nat → Nat) (m : Nat) (ag ae ai bg bl bm bp ba : Nat → Int32) : Prop := m ≤ 5 ∧ (∀ j, j < m → pg_ip (G j)) ∧ (∀ j, j < m → ag j = nI (G j)) ∧ (∀ j, j < m → bg j = nI (G j)) ∧ pg_XL (pg_gr G m) ae ai ∧ pg_YL (pg_gr G m) bl bm ∧ pg_YP bp ∧ pg_YA ba
def i_Rel (_ : Nat) (u : SX) (v : SY) : Prop := ∃ (G : Nat → Nat) (m : Nat) (ag ae ai bg bl bm bp ba : Nat → Int32), u = (nI m, nI (pg_gr G m).length, ag, ae, ai, 46656) ∧ v = (nI m, nI (pg_gr G m).length, bg, bl, bm, bp, ba) ∧ pg_R G m ag ae ai bg bl bm bp ba
theorem i_up {k : Nat} {u : SX} {v : SY} (h : i_Rel k u v) : i_Rel (k + 3) u v := h
theorem i_vc0 : wpX_init (fun u => wpY_init (fun v => i_Rel 0 u v)) := by
  refine ⟨by decide, nm_r (e' := 46656) (by decide) ⟨Nat.le_refl _, ?_⟩⟩
  refine pg_xre (G := fun _ => 0) (m := 0) (L := []) (by decide) (fun j hj => absurd hj (Nat.not_lt_zero j)) (fun j hj => absurd hj (Nat.not_lt_zero j)) (fun a ha => absurd ha List.not_mem_nil) (by decide) ⟨fun i hi => absurd hi (Nat.not_lt_zero i), fun c hc => ⟨fun _ => List.not_mem_nil, fun _ => rfl⟩⟩ fun ae' ai' hX => ?_
  refine pg_yi1 fun ag' al' am' ap' aa' hP hY hA => ?_
  exact ⟨fun _ => 0, 0, _, ae', ai', ag', al', am', ap', aa', rfl, rfl, by decide, fun j hj => absurd hj (Nat.not_lt_zero j), fun j hj => absurd hj (Nat.not_lt_zero j), fun j hj => absurd hj (Nat.not_lt_zero j), hX, hY, hP, hA⟩
