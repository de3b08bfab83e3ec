/-! orbit and orbits -/
def pg_ob (L : List Nat) (x : Nat) : Int32 := pg_fo (fun i s => s ||| ((1 : Int32) <<< (nI (pg_dg (L.getD i 0) x) &&& 31))) L.length 0
theorem pg_ob_n (L : List Nat) (x : Nat) {y : Nat} (hy : y < 32) : ∀ N, bt (pg_fo (fun i s => s ||| ((1 : Int32) <<< (nI (pg_dg (L.getD i 0) x) &&& 31))) N 0) y = true ↔ ∃ i, i < N ∧ pg_dg (L.getD i 0) x = y := by
  intro N
  induction N with
  | zero =>
    show bt 0 y = true ↔ _
    rw [b_0]
    exact ⟨fun z => absurd z (by decide), fun ⟨i, hi, _⟩ => absurd hi (Nat.not_lt_zero i)⟩
  | succ N ih =>
    rw [pg_fo, b_or, pg_b2 (Nat.lt_trans (pg_dg_lt _ x) (by decide)) hy, Bool.or_eq_true, ih, decide_eq_true_eq]
    constructor
    · rintro (⟨i, hi, e⟩ | e)
      · exact ⟨i, by omega, e⟩
      · exact ⟨N, by omega, e⟩
    · rintro ⟨i, hi, e⟩
      by_cases h : i = N
      · exact Or.inr (h ▸ e)
      · exact Or.inl ⟨i, by omega, e⟩
theorem pg_ob_b (L : List Nat) (x : Nat) {y : Nat} (hy : y < 32) : bt (pg_ob L x) y = true ↔ pg_or L x y := by
  unfold pg_ob
  rw [pg_ob_n L x hy]
  constructor
  · exact fun ⟨i, hi, e⟩ => ⟨_, pg_get_mem hi, e⟩
  · rintro ⟨a, ha, e⟩
    obtain ⟨i, hi, ei⟩ := pg_mem_get ha
    exact ⟨i, hi, by rw [ei]; exact e⟩
theorem pg_xob {post : Int32 → Prop} {L : List Nat} {gc : Int32} {ag ae ai : Nat → Int32} {ni x : Nat} (hW : pg_W L) (hX : pg_XL L ae ai) (hx : x < 6) {B : Int32} (eB : B = nI x) (h : post (pg_ob L x)) : wpX_orbitOf post (gc, nI L.length, ag, ae, ai, ni) B := by
  subst eB
  have hl := hW.2.2.1
  unfold wpX_orbitOf
  refine pg_fl (fun n i s => wX_orbitOf_4 post (nI x) gc (nI L.length) ag ae ai ni n s (nI i)) (fun i s => s ||| ((1 : Int32) <<< (nI (pg_dg (L.getD i 0) x) &&& 31))) L.length 0 (fun n i s hi w => ?_) (fun n => ?_)
  · exact br_f (nI_ge hi (by omega)) ⟨vp_in_nI (by omega) (by decide), pg_xim (pg_31 (hW.2.1 _ (pg_get_mem hi)).1) hx (by rw [pg_cl720 (by omega)]; exact hX.1 i hi) rfl (nm_e (nm_r (nI_1 i) w))⟩
  · exact br_t (nI_le (Nat.le_refl _) (by omega)) h
theorem pg_yob {post : Int32 → Prop} {L : List Nat} {gc : Int32} {ag al am ap aa : Nat → Int32} {x : Nat} (hP : pg_YP ap) (hW : pg_W L) (hY : pg_YL L al am) (hx : x < 6) {B : Int32} (eB : B = nI x) (h : post (pg_ob L x)) : wpY_orbitOf post (gc, nI L.length, ag, al, am, ap, aa) B := by
  subst eB
  have hl := hW.2.2.1
  unfold wpY_orbitOf
  refine pg_fl (fun n i s => wY_orbitOf_4 post (nI x) gc (nI L.length) ag al am ap aa n s (nI i)) (fun i s => s ||| ((1 : Int32) <<< (nI (pg_dg (L.getD i 0) x) &&& 31))) L.length 0 (fun n i s hi w => ?_) (fun n => ?_)
  · exact br_f (nI_ge hi (by omega)) ⟨vp_in_nI (by omega) (by decide), pg_yca hP (pg_31 (hW.2.1 _ (pg_get_mem hi)).1) hx (by rw [pg_cl720 (by omega)]; exact hY.1 i hi) rfl (nm_e (nm_r (nI_1 i) w))⟩
  · exact br_t (nI_le (Nat.le_refl _) (by omega)) h
theorem pg_xpt {post : Int32 → Prop} {x : Nat} (hx : x < 6) (h : post 1) : wpX_isPoint post (nI x) := br_f (nI_pos (by omega)) (br_f (pg_le6 hx) h)
theorem pg_pt (v : Int32) : v < 0 ∨ (¬ v < 0 ∧ (6 : Int32) ≤ v ∧ ¬ v ≤ 5 ∧ 5 < v) ∨ ∃ x, x < 6 ∧ v = nI x := by
  by_cases h0 : v < 0
  · exact Or.inl h0
  · obtain ⟨x, hx, rfl⟩ := nI_of h0
    by_cases h : x < 6
    · exact Or.inr (Or.inr ⟨x, h, rfl⟩)
    · exact Or.inr (Or.inl ⟨h0, nI_le (a := 6) (by omega) hx, nI_ge (a := 5) (by omega) hx, nI_lt (a := 5) (by omega) hx⟩)
theorem i_vc_orbit {k : Nat} {u : SX} {v : SY} (I : i_Rel k u v) (hk : k + 3 ≤ 1536) (v1 : Int32) : wpX_orbit (fun r => wpY_orbit (fun r' => r' = r ∧ i_Rel (k + 3) u v) v v1) u v1 := by
  have I' := I
  obtain ⟨G, m, ag, ae, ai, bg, bl, bm, bp, ba, rfl, rfl, hm, hG, hag, hbg, hX, hY, hP, hA⟩ := I'
  have hW := pg_gr_W hG
  unfold wpX_orbit
  rcases pg_pt v1 with h | ⟨h0, h6, h5, _⟩ | ⟨x, hx, rfl⟩
  · refine br_t h (br_t rfl ?_)
    unfold wpY_orbit
    exact br_t h ⟨rfl, I⟩
  · refine br_f h0 (br_t h6 (br_t rfl ?_))
    unfold wpY_orbit
    exact br_f h0 (br_f h5 ⟨rfl, I⟩)
  · refine pg_xpt hx (br_f pg_10 (pg_xob hW hX hx rfl ?_))
    unfold wpY_orbit
    exact br_f (nI_pos (by omega)) (br_t (nI_le (b := 5) (by omega) (by decide)) (pg_yob hP hW hY hx rfl ⟨rfl, I⟩))
/-- the least point of its orbit -/
def pg_lp (L : List Nat) (x : Nat) : Bool := decide (pg_ob L x &&& (((1 : Int32) <<< (nI x &&& 31)) - 1) = 0)
theorem pg_lp_s {L : List Nat} {x : Nat} (hx : x < 6) : pg_lp L x = true ↔ ¬ ∃ y, y < x ∧ pg_or L x y := by
  unfold pg_lp
  rw [decide_eq_true_eq, pg_and0]
  constructor
  · rintro h ⟨y, hy, ho⟩
    exact h y (by omega) ⟨(pg_ob_b L x (by omega)).mpr ho, by rw [pg_low x hx y (by omega)]; exact decide_eq_true hy⟩
  · rintro h i hi ⟨h1, h2⟩
    rw [pg_low x hx i hi, decide_eq_true_eq] at h2
    exact h ⟨i, h2, (pg_ob_b L x hi).mp h1⟩
theorem pg_xos {post : Int32 → Prop} {G : Nat → Nat} {m : Nat} {gc : Int32} {ag ae ai : Nat → Int32} {ni : Nat} (hG : ∀ j, j < m → pg_ip (G j)) (hX : pg_XL (pg_gr G m) ae ai) (h : post (nI (pg_cn (pg_lp (pg_gr G m)) 6))) : wpX_orbits post (gc, nI (pg_gr G m).length, ag, ae, ai, ni) := by
  have hW := pg_gr_W hG
  unfold wpX_orbits
  refine loop_0 (fun n i (s : Nat × Int32) => wX_orbits_6 post gc (nI (pg_gr G m).length) ag ae ai ni n (nI s.1) s.2 (nI i)) (fun i s => s.1 = pg_cn (pg_lp (pg_gr G m)) i ∧ ∀ z, z < 6 → (bt s.2 z = true ↔ ∃ y, y < i ∧ pg_or (pg_gr G m) y z)) 6 (0, 0) ⟨rfl, fun z hz => ?_⟩ ?_ ?_
  · show bt 0 z = true ↔ _
    rw [b_0]
    exact ⟨fun z => absurd z (by decide), fun ⟨y, hy, _⟩ => absurd hy (Nat.not_lt_zero y)⟩
  · intro n s hs
    refine br_t pg_ge6 ?_
    show post (nI s.1)
    rw [hs.1]
    exact h
  · intro n i s hi hs hw
    have hlp : pg_lp (pg_gr G m) i = true ↔ ¬ ∃ y, y < i ∧ pg_or (pg_gr G m) y i := by
      rw [pg_lp_s hi]
      constructor
      · exact fun h ⟨y, hy, ho⟩ => h ⟨y, hy, pg_or_symm hG (by omega) hi ho⟩
      · exact fun h ⟨y, hy, ho⟩ => h ⟨y, hy, pg_or_symm hG hi (by omega) ho⟩
    refine br_f (pg_le6 hi) (br_c (fun z => ?_) (fun z => ?_))
    · have hb := (pg_bit0 (by omega) s.2).mp z
      have hn : ¬ ∃ y, y < i ∧ pg_or (pg_gr G m) y i := fun h => by
        rw [(hs.2 i hi).mpr h] at hb
        exact absurd hb (by decide)
      refine pg_xob hW hX hi rfl (nm_e (nm_r (nI_1 s.1) (nm_r (nI_1 i) (hw (s.1 + 1, s.2 ||| pg_ob (pg_gr G m) i) ⟨?_, fun y hy => ?_⟩))))
      · show s.1 + 1 = if pg_lp (pg_gr G m) i = true then pg_cn (pg_lp (pg_gr G m)) i + 1 else pg_cn (pg_lp (pg_gr G m)) i
        rw [if_pos (hlp.mpr hn), hs.1]
      · show bt (s.2 ||| pg_ob (pg_gr G m) i) y = true ↔ _
        rw [b_or, Bool.or_eq_true, hs.2 y hy, pg_ob_b _ _ (by omega)]
        constructor
        · rintro (⟨w, hw, ho⟩ | ho)
          · exact ⟨w, by omega, ho⟩
          · exact ⟨i, by omega, ho⟩
        · rintro ⟨w, hw, ho⟩
          by_cases e : w = i
          · exact Or.inr (e ▸ ho)
          · exact Or.inl ⟨w, by omega, ho⟩
    · have hn : ∃ y, y < i ∧ pg_or (pg_gr G m) y i := by
        refine Classical.byContradiction fun h => z ((pg_bit0 (by omega) s.2).mpr (Bool.eq_false_iff.mpr fun hb => h ((hs.2 i hi).mp hb)))
      refine nm_r (nI_1 i) (hw s ⟨?_, fun y hy => ?_⟩)
      · show s.1 = if pg_lp (pg_gr G m) i = true then pg_cn (pg_lp (pg_gr G m)) i + 1 else pg_cn (pg_lp (pg_gr G m)) i
        rw [if_neg (fun t => hlp.mp t hn), hs.1]
      · rw [hs.2 y hy]
        constructor
        · rintro ⟨w, hw, ho⟩
          exact ⟨w, by omega, ho⟩
        · rintro ⟨w, hw, ho⟩
          by_cases e : w = i
          · obtain ⟨t, ht, hto⟩ := hn
            exact ⟨t, ht, pg_or_trans hG (by omega) hto (e ▸ ho)⟩
          · exact ⟨w, by omega, ho⟩
theorem pg_yos {post : Int32 → Prop} {L : List Nat} {gc : Int32} {ag al am ap aa : Nat → Int32} (hP : pg_YP ap) (hW : pg_W L) (hY : pg_YL L al am) (h : post (nI (pg_cn (pg_lp L) 6))) : wpY_orbits post (gc, nI L.length, ag, al, am, ap, aa) := by
  unfold wpY_orbits
  refine pg_cnl (fun n i s => wY_orbits_4 post gc (nI L.length) ag al am ap aa n (nI s) (nI i)) (pg_lp L) 6 (fun n i s hi hp w => ?_) (fun n i s hi hp w => ?_) (fun n => br_t pg_ge6 h)
  · exact br_f (pg_le6 hi) (pg_yob hP hW hY hi rfl (nm_e (br_t (of_decide_eq_true hp) (nm_r (nI_1 s) (nm_r (nI_1 i) w)))))
  · exact br_f (pg_le6 hi) (pg_yob hP hW hY hi rfl (nm_e (br_f (of_decide_eq_false hp) (nm_r (nI_1 i) w))))
theorem i_vc_orbits {k : Nat} {u : SX} {v : SY} (I : i_Rel k u v) (hk : k + 3 ≤ 1536) : wpX_orbits (fun r => wpY_orbits (fun r' => r' = r ∧ i_Rel (k + 3) u v) v) u := by
  have I' := I
  obtain ⟨G, m, ag, ae, ai, bg, bl, bm, bp, ba, rfl, rfl, hm, hG, hag, hbg, hX, hY, hP, hA⟩ := I'
  exact pg_xos hG hX (pg_yos hP (pg_gr_W hG) hY ⟨rfl, I⟩)
