/-! the component's own small methods -/
theorem pg_xim {post : Int32 → Prop} {g x : Nat} (hg : g < 2 ^ 31) (hx : x < 6) {A B : Int32} (eA : A = nI g) (eB : B = nI x) (h : post (nI (pg_dg g x))) : wpX_imageOfPoint post A B := by
  subst eA eB
  have t := pg_ul (fun n i => wX_imageOfPoint_4 post (nI x) n (nI (g / 6 ^ i)) (nI i)) x (fun n i hi w => ?_) (fun n => ?_)
  · rw [pg_dv0] at t
    exact t
  · refine br_f (nI_ge hi (by omega)) ⟨pg_60, nm_r (pg_div6 (pg_dvlt hg i)) (nm_r (nI_1 i) ?_)⟩
    rw [pg_dvs]
    exact w
  · refine br_t (nI_le (Nat.le_refl x) (by omega)) ⟨pg_60, ?_⟩
    rw [pg_rem6 (pg_dvlt hg x)]
    exact h
theorem pg_xcm {post : Int32 → Prop} {g k : Nat} (hg : g < 2 ^ 31) (hk : k < 2 ^ 31) {A B : Int32} (eA : A = nI g) (eB : B = nI k) (h : post (nI (pg_mul g k))) : wpX_compose post A B := by
  subst eA eB
  have t := pg_fl (fun n i s => wX_compose_10 post (nI k) n (nI s) (nI (6 ^ i)) (nI (g / 6 ^ i)) (nI i)) (fun i s => s + 6 ^ i * pg_dg k (pg_dg g i)) 6 0 (fun n i s hi w => ?_) (fun n => ?_)
  · rw [pg_dv0] at t
    exact t
  · refine br_f (pg_le6 hi) ⟨pg_60, pg_xim hk (pg_dg_lt g i) rfl (pg_rem6 (pg_dvlt hg i)) ?_⟩
    refine nm_r (e' := nI (s + 6 ^ i * pg_dg k (pg_dg g i))) (by rw [pk_mul, nI_add]) (nm_r (e' := nI (6 ^ (i + 1))) (pk_mul (6 ^ i) 6) ⟨pg_60, nm_r (pg_div6 (pg_dvlt hg i)) (nm_r (nI_1 i) ?_)⟩)
    rw [pg_dvs]
    exact w
  · refine br_t pg_ge6 ?_
    have e : pg_fo (fun i s => s + 6 ^ i * pg_dg k (pg_dg g i)) 6 0 = pg_mul g k := by
      simp only [pg_fo, pg_mul, pg_en]
      omega
    rw [e]
    exact h
/-- what both sides' test of a permutation asks -/
def pg_iv (v : Int32) : Prop := ∃ c, v = nI c ∧ pg_ip c
theorem pg_ms_lt (c : Nat) : pg_ms c < 64 := by
  have p : ∀ x, 2 ^ pg_dg c x < 2 ^ 6 := fun x => Nat.pow_lt_pow_right (by decide) (pg_dg_lt c x)
  exact Nat.or_lt_two_pow (Nat.or_lt_two_pow (Nat.or_lt_two_pow (Nat.or_lt_two_pow (Nat.or_lt_two_pow (p 0) (p 1)) (p 2)) (p 3)) (p 4)) (p 5)
theorem pg_ms_fo (c : Nat) : pg_fo (fun i s => s ||| 2 ^ pg_dg c i) 6 0 = pg_ms c := by
  simp only [pg_fo, pg_ms, Nat.zero_or]
theorem pg_nms (c : Nat) : nI (pg_ms c) = 63 ↔ pg_ms c = 63 := nI_eq (b := 63) (Nat.lt_trans (pg_ms_lt c) (by decide)) (by decide)
theorem pg_xipl {post : Int32 → Prop} {c : Nat} (hc : c < 46656) (ht : pg_ms c = 63 → post 1) (hf : ¬ pg_ms c = 63 → post 0) : wpX_isPermutation post (nI c) := by
  refine br_f (nI_pos (pg_31 hc)) (br_t (nI_lt (b := 46656) hc (by decide)) ?_)
  have t := pg_fl (fun n i s => wX_isPermutation_18 post n (nI s) (nI (c / 6 ^ i)) (nI i)) (fun i s => s ||| 2 ^ pg_dg c i) 6 0 (fun n i s hi w => ?_) (fun n => ?_)
  · rw [pg_dv0] at t
    exact t
  · refine br_f (pg_le6 hi) ⟨pg_60, nm_r (e' := nI (s ||| 2 ^ pg_dg c i)) ?_ ⟨pg_60, nm_r (pg_div6 (pg_dvlt (pg_31 hc) i)) (nm_r (nI_1 i) ?_)⟩⟩
    · rw [pg_rem6 (pg_dvlt (pg_31 hc) i), ← pg_nor, ← pg_sh1 _ (Nat.lt_trans (pg_dg_lt c i) (by decide))]
      rfl
    · rw [pg_dvs]
      exact w
  · refine br_t pg_ge6 ?_
    rw [pg_ms_fo]
    exact br_c (fun z => ht ((pg_nms c).mp z)) (fun z => hf fun y => z ((pg_nms c).mpr y))
theorem pg_xip_t {post : Int32 → Prop} {c : Nat} (hc : pg_ip c) (h : post 1) : wpX_isPermutation post (nI c) := pg_xipl hc.1 (fun _ => h) (fun z => absurd hc.2 z)
theorem pg_xip_f {post : Int32 → Prop} {v : Int32} (hv : ¬ pg_iv v) (h : post 0) : wpX_isPermutation post v := by
  by_cases h0 : v < 0
  · exact br_t h0 h
  · obtain ⟨c, hc, rfl⟩ := nI_of h0
    by_cases h1 : c < 46656
    · exact pg_xipl h1 (fun z => absurd ⟨c, rfl, h1, z⟩ hv) (fun _ => h)
    · exact br_f h0 (br_f (nI_nlt (b := 46656) (by omega) hc) h)
theorem pg_xwt {post : Int32 → Prop} {x : Nat} (hx : x < 6) {A : Int32} (eA : A = nI x) (h : post (nI (6 ^ x))) : wpX_weightOf post A := by
  subst eA
  refine pg_ul (fun n i => wX_weightOf_4 post (nI x) n (nI (6 ^ i)) (nI i)) x (fun n i hi w => ?_) (fun n => ?_)
  · exact br_f (nI_ge hi (by omega)) (nm_r (e' := nI (6 ^ (i + 1))) (pk_mul (6 ^ i) 6) (nm_r (nI_1 i) w))
  · exact br_t (nI_le (Nat.le_refl x) (by omega)) h
theorem pg_xiv {post : Int32 → Prop} {g : Nat} (hg : g < 2 ^ 31) {A : Int32} (eA : A = nI g) (h : post (nI (pg_inv g))) : wpX_invert post A := by
  subst eA
  have t := pg_fl (fun n i s => wX_invert_6 post n (nI s) (nI (g / 6 ^ i)) (nI i)) (fun i s => s + i * 6 ^ pg_dg g i) 6 0 (fun n i s hi w => ?_) (fun n => ?_)
  · rw [pg_dv0] at t
    exact t
  · refine br_f (pg_le6 hi) ⟨pg_60, pg_xwt (pg_dg_lt g i) (pg_rem6 (pg_dvlt hg i)) ?_⟩
    refine nm_r (e' := nI (s + i * 6 ^ pg_dg g i)) (by rw [pk_mul, nI_add]) ⟨pg_60, nm_r (pg_div6 (pg_dvlt hg i)) (nm_r (nI_1 i) ?_)⟩
    rw [pg_dvs]
    exact w
  · refine br_t pg_ge6 ?_
    have e : pg_fo (fun i s => s + i * 6 ^ pg_dg g i) 6 0 = pg_inv g := by
      simp only [pg_fo, pg_inv]
      omega
    rw [e]
    exact h
theorem pg_xcj {post : Int32 → Prop} {g k : Nat} (hg : g < 46656) (hk : pg_ip k) {A B : Int32} (eA : A = nI g) (eB : B = nI k) (h : post (nI (pg_cj g k))) : wpX_conjugate post A B := by
  unfold wpX_conjugate
  refine pg_xiv (pg_31 hk.1) eB ?_
  refine pg_xcm (pg_31 (pg_ok_of hk).2.2.1) (pg_31 hg) rfl eA ?_
  exact pg_xcm (pg_31 (pg_mul_lt _ _)) (pg_31 hk.1) rfl eB h
theorem pg_xco {post : Int32 → Prop} {g k : Nat} (hg : g < 46656) (hk : k < 46656) {A B : Int32} (eA : A = nI g) (eB : B = nI k) (h : post (pg_b (decide (pg_mul g k = pg_mul k g)))) : wpX_commute post A B := by
  unfold wpX_commute
  refine pg_xcm (pg_31 hg) (pg_31 hk) eA eB ?_
  refine pg_xcm (pg_31 hk) (pg_31 hg) eB eA ?_
  by_cases e : pg_mul g k = pg_mul k g
  · rw [decide_eq_true e] at h
    exact br_t (congrArg nI e) h
  · rw [decide_eq_false e] at h
    exact br_f (fun z => e ((nI_eq (pg_31 (pg_mul_lt _ _)) (pg_31 (pg_mul_lt _ _))).mp z)) h
/-- both sides' image of a set -/
def pg_im (S : Int32) (g : Nat) : Int32 := pg_fo (fun i s => if (S >>> (nI i &&& 31)) &&& 1 = 1 then s ||| ((1 : Int32) <<< (nI (pg_dg g i) &&& 31)) else s) 6 0
theorem pg_xis {post : Int32 → Prop} {g : Nat} (hg : g < 2 ^ 31) {A S : Int32} (eA : A = nI g) (h : post (pg_im S g)) : wpX_imageOfSet post A S := by
  subst eA
  have t := pg_fl (fun n i s => wX_imageOfSet_7 post S n s (nI (g / 6 ^ i)) (nI i)) (fun i s => if (S >>> (nI i &&& 31)) &&& 1 = 1 then s ||| ((1 : Int32) <<< (nI (pg_dg g i) &&& 31)) else s) 6 0 (fun n i s hi w => ?_) (fun n => ?_)
  · rw [pg_dv0] at t
    exact t
  · refine br_f (pg_le6 hi) (br_c (fun z => ?_) (fun z => ?_))
    · rw [if_pos z] at w
      refine ⟨pg_60, nm_r (by rw [pg_rem6 (pg_dvlt hg i)]) ⟨pg_60, nm_r (pg_div6 (pg_dvlt hg i)) (nm_r (nI_1 i) ?_)⟩⟩
      rw [pg_dvs]
      exact w
    · rw [if_neg z] at w
      refine ⟨pg_60, nm_r (pg_div6 (pg_dvlt hg i)) (nm_r (nI_1 i) ?_)⟩
      rw [pg_dvs]
      exact w
  · exact br_t pg_ge6 h
/-- both sides' test that a set is fixed point by point -/
def pg_fx (S : Int32) (g : Nat) : Prop := ∀ i, i < 6 → ((S >>> (nI i &&& 31)) &&& 1 = 1 → pg_dg g i = i)
theorem pg_xfx {post : Int32 → Prop} {g : Nat} (hg : g < 2 ^ 31) {A S : Int32} (eA : A = nI g) (ht : pg_fx S g → post 1) (hf : ¬ pg_fx S g → post 0) : wpX_fixesEachPoint post A S := by
  subst eA
  have t := pg_al2 (fun n i => wX_fixesEachPoint_4 post S n (nI (g / 6 ^ i)) (nI i)) (fun i => (S >>> (nI i &&& 31)) &&& 1 = 1 → pg_dg g i = i) 6 (post 1) (post 0) (fun n h => br_t pg_ge6 h) (fun n i hi hP w => ?_) (fun n i hi hP h => ?_) ht hf
  · rw [pg_dv0] at t
    exact t
  · refine br_f (pg_le6 hi) (br_c (fun z => ⟨pg_60, br_t ?_ ⟨pg_60, nm_r (pg_div6 (pg_dvlt hg i)) (nm_r (nI_1 i) ?_)⟩⟩) (fun z => ⟨pg_60, nm_r (pg_div6 (pg_dvlt hg i)) (nm_r (nI_1 i) ?_)⟩))
    · rw [pg_rem6 (pg_dvlt hg i)]
      exact congrArg nI (hP z)
    · rw [pg_dvs]
      exact w
    · rw [pg_dvs]
      exact w
  · refine br_f (pg_le6 hi) (br_c (fun z => ⟨pg_60, br_f ?_ h⟩) (fun z => absurd (fun y => absurd y z) hP))
    rw [pg_rem6 (pg_dvlt hg i)]
    exact fun e => hP fun _ => (nI_eq (Nat.lt_trans (pg_dg_lt g i) (by decide)) (by omega)).mp e
theorem pg_xcb {post : Int32 → Prop} {w : Int64} (h : post (nI (pg_cn (fun i => decide ((w >>> ((nI i).toInt64 &&& 63)) &&& 1 = 1)) 64))) : wpX_countBits post w := by
  refine pg_cnl (fun n i s => wX_countBits_4 post w n (nI s) (nI i)) (fun i => decide ((w >>> ((nI i).toInt64 &&& 63)) &&& 1 = 1)) 64 (fun n i s hi hp W => ?_) (fun n i s hi hp W => ?_) (fun n => br_t (by decide) h)
  · refine br_f (nI_ge (b := 64) hi (by decide)) (br_t ?_ (nm_r (nI_1 s) (nm_r (nI_1 i) W)))
    rw [pg_lsh hi]
    exact of_decide_eq_true hp
  · refine br_f (nI_ge (b := 64) hi (by decide)) (br_f ?_ (nm_r (nI_1 i) W))
    rw [pg_lsh hi]
    exact of_decide_eq_false hp
