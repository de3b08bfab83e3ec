/-! the component's list and marks -/
def pg_XL (L : List Nat) (ae ai : Nat → Int32) : Prop := (∀ i, i < L.length → ae i = nI (L.getD i 0)) ∧ (∀ c, c < 46656 → (ai c = 0 ↔ c ∉ L))
theorem pg_nar1 : vp_nar .boolean 1 = 1 := rfl
theorem pg_nar0 : vp_nar .boolean 0 = 0 := rfl
theorem pg_xinc {post : SX → Prop} {L : List Nat} {gc : Int32} {ag ae ai : Nat → Int32} {g : Nat} (hX : pg_XL L ae ai) (hl : L.length ≤ 720) (hg : g < 46656) (hp : ∀ ae' ai', pg_XL (pg_nt L g) ae' ai' → post (gc, nI (pg_nt L g).length, ag, ae', ai', 46656)) : wpX_include post (gc, nI L.length, ag, ae, ai, 46656) (nI g) := by
  have hin : vp_in (nI g) 46656 := vp_in_nI hg (by decide)
  have hcl : (nI g).toNatClampNeg = g := nI_clamp (pg_31 hg)
  unfold wpX_include
  refine ⟨hin, ?_⟩
  rw [hcl]
  by_cases hm : g ∈ L
  · refine br_f (fun z => (hX.2 g hg).mp z hm) ?_
    have e := pg_nt_t (L := L) (g := g) (Or.inl hm)
    rw [e] at hp
    exact hp ae ai hX
  · refine br_t ((hX.2 g hg).mpr hm) ?_
    by_cases hf : 720 ≤ L.length
    · have e := pg_nt_t (L := L) (g := g) (Or.inr hf)
      rw [e] at hp
      exact br_t (nI_le (a := 720) hf (by omega)) (hp ae ai hX)
    · have e := pg_nt_f (L := L) (g := g) (fun z => z.elim hm hf)
      rw [e, List.length_append] at hp
      have hl' : L.length < 720 := by omega
      refine br_f (nI_ge (b := 720) hl' (by decide)) ⟨hin, nm_r (e' := upd ai g 1) (by rw [pg_nar1]) ⟨vp_in_nI hl' (by decide), nm_r (e' := upd ae L.length (nI g)) (by rw [nI_clamp (by omega)]) (nm_r (nI_1 L.length) (hp _ _ ⟨fun i hi => ?_, fun c hc => ?_⟩))⟩⟩
      · rw [List.length_append, List.length_singleton] at hi
        by_cases h : i = L.length
        · rw [h, pk_us, pg_get_end]
        · rw [pk_un h, pg_get_app (by omega)]
          exact hX.1 i (by omega)
      · rw [List.mem_append, List.mem_singleton]
        by_cases h : c = g
        · rw [h, pk_us]
          exact ⟨fun z => absurd z pg_10, fun z => absurd (Or.inr rfl) z⟩
        · rw [pk_un h, hX.2 c hc]
          exact ⟨fun z y => y.elim z h, fun z y => z (Or.inl y)⟩
/-- the inner loop of the search -/
theorem pg_xin {post : SX → Prop} {J : Int32 → Int32 → Int32 → (Nat → Int32) → (Nat → Int32) → (Nat → Int32) → Nat → Prop} {G : Nat → Nat} {m i : Nat} {ag : Nat → Int32} (hm : m ≤ 5) (hG : ∀ j, j < m → pg_ip (G j)) (hag : ∀ j, j < m → ag j = nI (G j)) : ∀ r j n L ae ai, j + r = m → r < n → i < L.length → pg_W L → pg_XL L ae ai → (∀ ae' ai', pg_XL (pg_in G i r j L) ae' ai' → J (nI (i + 1)) (nI m) (nI (pg_in G i r j L).length) ag ae' ai' 46656) → wX_rebuildGroup_58 post J (nI i) n (nI j) (nI m) (nI L.length) ag ae ai 46656 := by
  intro r
  induction r with
  | zero =>
    intro j n L ae ai hj hn hi hW hX hp
    obtain ⟨n', rfl⟩ : ∃ n', n = n' + 1 := ⟨n - 1, by omega⟩
    refine br_t (nI_le (by omega) (by omega)) (nm_r (nI_1 i) (hp ae ai hX))
  | succ r ih =>
    intro j n L ae ai hj hn hi hW hX hp
    obtain ⟨n', rfl⟩ : ∃ n', n = n' + 1 := ⟨n - 1, by omega⟩
    have hl := hW.2.2.1
    have hjm : j < m := by omega
    have ha : pg_ip (L.getD i 0) := hW.2.1 _ (pg_get_mem hi)
    have hq : pg_ip (pg_mul (L.getD i 0) (G j)) := pg_ip_mul ha (hG j hjm)
    refine br_f (nI_ge hjm (by omega)) ⟨vp_in_nI (by omega) (by decide), vp_in_nI (by omega) (by decide), ?_⟩
    refine pg_xcm (pg_31 ha.1) (pg_31 (hG j hjm).1) (by rw [pg_cl720 (by omega)]; exact hX.1 i hi) (by rw [pg_cl5 (by omega)]; exact hag j hjm) ?_
    refine pg_xinc hX hl hq.1 fun ae' ai' hX' => ?_
    refine nm_r (nI_1 j) ?_
    exact ih (j + 1) n' _ ae' ai' (by omega) (by omega) (Nat.lt_of_lt_of_le hi pg_nt_ge) (pg_nt_W hW hq) hX' hp
theorem pg_in_W {G : Nat → Nat} {m i : Nat} (hG : ∀ j, j < m → pg_ip (G j)) {L : List Nat} (hi : i < L.length) (hW : pg_W L) : pg_W (pg_in G i m 0 L) := (pg_in_s hG (fun _ => True) (fun _ _ _ _ => trivial) m 0 L (Nat.zero_add m) hi hW (fun _ _ => trivial)).1
theorem pg_xbl {post : SX → Prop} {G : Nat → Nat} {m : Nat} {ag : Nat → Int32} (hm : m ≤ 5) (hG : ∀ j, j < m → pg_ip (G j)) (hag : ∀ j, j < m → ag j = nI (G j)) : ∀ f i n L ae ai, i + f = 720 → f < n → pg_W L → pg_XL L ae ai → (∀ ae' ai', pg_XL (pg_bl G m f i L) ae' ai' → post (nI m, nI (pg_bl G m f i L).length, ag, ae', ai', 46656)) → wX_rebuildGroup_41 post n (nI i) (nI m) (nI L.length) ag ae ai 46656 := by
  intro f
  induction f with
  | zero =>
    intro i n L ae ai hi hn hW hX hp
    obtain ⟨n', rfl⟩ : ∃ n', n = n' + 1 := ⟨n - 1, by omega⟩
    exact br_t (nI_le (a := 720) (by omega) (by omega)) (hp ae ai hX)
  | succ f ih =>
    intro i n L ae ai hi hn hW hX hp
    obtain ⟨n', rfl⟩ : ∃ n', n = n' + 1 := ⟨n - 1, by omega⟩
    have hl := hW.2.2.1
    refine br_f (nI_ge (b := 720) (by omega) (by decide)) ?_
    by_cases h : i < L.length
    · rw [pg_bl, if_pos h] at hp
      refine br_f (nI_ge h (by omega)) ⟨m + 1, ?_⟩
      refine pg_xin (i := i) (J := wX_rebuildGroup_41 post n') hm hG hag m 0 (m + 1) L ae ai (by omega) (by omega) h hW hX fun ae' ai' hX' => ?_
      exact ih (i + 1) n' _ ae' ai' (by omega) (by omega) (pg_in_W hG h hW) hX' hp
    · rw [pg_bl, if_neg h] at hp
      exact br_t (nI_le (by omega) (by omega)) (hp ae ai hX)
/-- the component's search: from any old list to the list of the generators -/
theorem pg_xre {post : SX → Prop} {G : Nat → Nat} {m : Nat} {L : List Nat} {ag ae ai : Nat → Int32} (hm : m ≤ 5) (hG : ∀ j, j < m → pg_ip (G j)) (hag : ∀ j, j < m → ag j = nI (G j)) (hL : ∀ a, a ∈ L → a < 46656) (hl : L.length ≤ 720) (hX : pg_XL L ae ai) (hp : ∀ ae' ai', pg_XL (pg_gr G m) ae' ai' → post (nI m, nI (pg_gr G m).length, ag, ae', ai', 46656)) : wpX_rebuildGroup post (nI m, nI L.length, ag, ae, ai, 46656) := by
  unfold wpX_rebuildGroup
  refine loop_0 (fun n i s => wX_rebuildGroup_2 post (nI m) (nI L.length) 46656 n (nI i) ag ae s) (fun i s => ∀ c, c < 46656 → (∀ k, i ≤ k → k < L.length → L.getD k 0 ≠ c) → s c = 0) L.length ai ?_ ?_ ?_
  · intro c hc hk
    refine (hX.2 c hc).mpr fun hm => ?_
    obtain ⟨k, hk1, hk2⟩ := pg_mem_get hm
    exact hk k (Nat.zero_le k) hk1 hk2
  · intro n s hs
    refine br_t (nI_le (Nat.le_refl _) (by omega)) ?_
    refine pg_xinc (L := []) (g := 44790) ⟨fun i hi => absurd hi (Nat.not_lt_zero i), fun c hc => ⟨fun _ => List.not_mem_nil, fun _ => hs c hc fun k h1 h2 => absurd h1 (by omega)⟩⟩ (by decide) (by decide) fun ae' ai' hX' => ?_
    exact ⟨721, pg_xbl hm hG hag 720 0 721 [44790] ae' ai' (by decide) (by decide) pg_W0 hX' hp⟩
  · intro n i s hi hs hw
    have hc := hL _ (pg_get_mem hi)
    have e : ae (nI i).toNatClampNeg = nI (L.getD i 0) := by rw [pg_cl720 (by omega)]; exact hX.1 i hi
    refine br_f (nI_ge hi (by omega)) ⟨vp_in_nI (by omega) (by decide), ?_⟩
    rw [e]
    refine ⟨vp_in_nI hc (by decide), nm_r (e' := upd s (L.getD i 0) 0) (by rw [pg_nar0, nI_clamp (pg_31 hc)]) (nm_r (nI_1 i) (hw _ fun c hc hk => ?_))⟩
    by_cases h : c = L.getD i 0
    · rw [h, pk_us]
    · rw [pk_un h]
      refine hs c hc fun k h1 h2 => ?_
      by_cases hki : k = i
      · rw [hki]; exact fun z => h z.symm
      · exact hk k (by omega) h2
