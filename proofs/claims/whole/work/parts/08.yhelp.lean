/-! the reference's own small methods: its state is fc fo ag al am ap aa -/
def pg_YP (ap : Nat → Int32) : Prop := ∀ x, x < 6 → ap x = nI (6 ^ x)
theorem pg_cl6 {j : Nat} (h : j < 6) : (nI j).toNatClampNeg = j := nI_clamp (by omega)
theorem pg_p6 {x : Nat} (hx : x < 6) : 6 ^ x < 2 ^ 31 := Nat.lt_of_lt_of_le (Nat.pow_lt_pow_right (by decide) hx) (by decide)
section
variable {fc fo : Int32} {ag al am ap aa : Nat → Int32}
theorem pg_yca {post : Int32 → Prop} {g x : Nat} (hP : pg_YP ap) (hg : g < 2 ^ 31) (hx : x < 6) {A B : Int32} (eA : A = nI g) (eB : B = nI x) (h : post (nI (pg_dg g x))) : wpY_carried post (fc, fo, ag, al, am, ap, aa) A B := by
  subst eA eB
  unfold wpY_carried
  refine ⟨vp_in_nI hx (by decide), ?_⟩
  rw [pg_cl6 hx, hP x hx]
  refine ⟨nI_ne0 (Nat.pow_pos (by decide)) (pg_p6 hx), pg_60, ?_⟩
  rw [pk_div hg (Nat.pow_pos (by decide)) (pg_p6 hx), pg_rem6 (pg_dvlt hg x)]
  exact h
theorem pg_yti {post : Int32 → Prop} {g k : Nat} (hP : pg_YP ap) (hg : g < 2 ^ 31) (hk : k < 2 ^ 31) {A B : Int32} (eA : A = nI g) (eB : B = nI k) (h : post (nI (pg_mul g k))) : wpY_times post (fc, fo, ag, al, am, ap, aa) A B := by
  subst eA eB
  unfold wpY_times
  refine pg_fl (fun n i s => wY_times_5 post (nI g) (nI k) fc fo ag al am ap aa n (nI s) (nI i)) (fun i s => s + 6 ^ i * pg_dg k (pg_dg g i)) 6 0 (fun n i s hi w => ?_) (fun n => ?_)
  · refine br_f (pg_le6 hi) (pg_yca hP hg hi rfl rfl ⟨vp_in_nI hi (by decide), pg_yca hP hk (pg_dg_lt g i) rfl rfl (nm_r (e' := nI (s + 6 ^ i * pg_dg k (pg_dg g i))) ?_ (nm_r (nI_1 i) w))⟩)
    rw [pg_cl6 hi, hP i hi, pk_mul, nI_add]
  · refine br_t pg_ge6 ?_
    have e : pg_fo (fun i s => s + 6 ^ i * pg_dg k (pg_dg g i)) 6 0 = pg_mul g k := by
      simp only [pg_fo, pg_mul, pg_en]
      omega
    rw [e]
    exact h
theorem pg_yipl {post : Int32 → Prop} {c : Nat} (hP : pg_YP ap) (hc : c < 46656) (ht : pg_ms c = 63 → post 1) (hf : ¬ pg_ms c = 63 → post 0) : wpY_isPermutation post (fc, fo, ag, al, am, ap, aa) (nI c) := by
  unfold wpY_isPermutation
  refine br_f (nI_pos (pg_31 hc)) (br_t (nI_le (b := 46655) (by omega) (by decide)) ?_)
  refine pg_fl (fun n i s => wY_isPermutation_16 post (nI c) fc fo ag al am ap aa n (nI s) (nI i)) (fun i s => s ||| 2 ^ pg_dg c i) 6 0 (fun n i s hi w => ?_) (fun n => ?_)
  · refine br_f (pg_le6 hi) (pg_yca hP (pg_31 hc) hi rfl rfl (nm_r (e' := nI (s ||| 2 ^ pg_dg c i)) ?_ (nm_r (nI_1 i) w)))
    rw [← pg_nor, ← pg_sh1 _ (Nat.lt_trans (pg_dg_lt c i) (by decide))]
  · refine br_t pg_ge6 ?_
    rw [pg_ms_fo]
    exact br_c (fun z => ht ((pg_nms c).mp z)) (fun z => hf fun y => z ((pg_nms c).mpr y))
theorem pg_yip_t {post : Int32 → Prop} {c : Nat} (hP : pg_YP ap) (hc : pg_ip c) (h : post 1) : wpY_isPermutation post (fc, fo, ag, al, am, ap, aa) (nI c) := pg_yipl hP hc.1 (fun _ => h) (fun z => absurd hc.2 z)
theorem pg_yip_f {post : Int32 → Prop} {v : Int32} (hP : pg_YP ap) (hv : ¬ pg_iv v) (h : post 0) : wpY_isPermutation post (fc, fo, ag, al, am, ap, aa) v := by
  by_cases h0 : v < 0
  · exact br_t h0 h
  · obtain ⟨c, hc, rfl⟩ := nI_of h0
    by_cases h1 : c < 46656
    · exact pg_yipl hP h1 (fun z => absurd ⟨c, rfl, h1, z⟩ hv) (fun _ => h)
    · exact br_f h0 (br_f (nI_ge (a := 46655) (by omega) hc) h)
theorem pg_yiv {post : Int32 → Prop} {g : Nat} (hP : pg_YP ap) (hg : g < 2 ^ 31) {A : Int32} (eA : A = nI g) (h : post (nI (pg_inv g))) : wpY_inverted post (fc, fo, ag, al, am, ap, aa) A := by
  subst eA
  unfold wpY_inverted
  refine pg_fl (fun n i s => wY_inverted_4 post (nI g) fc fo ag al am ap aa n (nI s) (nI i)) (fun i s => s + 6 ^ pg_dg g i * i) 6 0 (fun n i s hi w => ?_) (fun n => ?_)
  · refine br_f (pg_le6 hi) (pg_yca hP hg hi rfl rfl ⟨vp_in_nI (pg_dg_lt g i) (by decide), nm_r (e' := nI (s + 6 ^ pg_dg g i * i)) ?_ (nm_r (nI_1 i) w)⟩)
    rw [pg_cl6 (pg_dg_lt g i), hP _ (pg_dg_lt g i), pk_mul, nI_add]
  · refine br_t pg_ge6 ?_
    have e : pg_fo (fun i s => s + 6 ^ pg_dg g i * i) 6 0 = pg_inv g := by
      simp only [pg_fo, pg_inv]
      omega
    rw [e]
    exact h
theorem pg_ycj {post : Int32 → Prop} {g k : Nat} (hP : pg_YP ap) (hg : g < 46656) (hk : pg_ip k) {A B : Int32} (eA : A = nI g) (eB : B = nI k) (h : post (nI (pg_cj g k))) : wpY_conjugate post (fc, fo, ag, al, am, ap, aa) A B := by
  unfold wpY_conjugate
  refine pg_yiv hP (pg_31 hk.1) eB ?_
  refine pg_yti hP (pg_31 (pg_ok_of hk).2.2.1) (pg_31 hg) rfl eA ?_
  exact pg_yti hP (pg_31 (pg_mul_lt _ _)) (pg_31 hk.1) rfl eB h
theorem pg_yis {post : Int32 → Prop} {g : Nat} (hP : pg_YP ap) (hg : g < 2 ^ 31) {A S : Int32} (eA : A = nI g) (h : post (pg_im S g)) : wpY_image post (fc, fo, ag, al, am, ap, aa) S A := by
  subst eA
  unfold wpY_image
  refine pg_fl (fun n i s => wY_image_5 post S (nI g) fc fo ag al am ap aa n s (nI i)) (fun i s => if (S >>> (nI i &&& 31)) &&& 1 = 1 then s ||| ((1 : Int32) <<< (nI (pg_dg g i) &&& 31)) else s) 6 0 (fun n i s hi w => ?_) (fun n => ?_)
  · refine br_f (pg_le6 hi) (br_c (fun z => ?_) (fun z => ?_))
    · rw [if_pos z] at w
      exact pg_yca hP hg hi rfl rfl (nm_e (nm_r (nI_1 i) w))
    · rw [if_neg z] at w
      exact nm_r (nI_1 i) w
  · exact br_t pg_ge6 h
theorem pg_yfx {post : Int32 → Prop} {g : Nat} (hP : pg_YP ap) (hg : g < 2 ^ 31) {A S : Int32} (eA : A = nI g) (ht : pg_fx S g → post 1) (hf : ¬ pg_fx S g → post 0) : wpY_fixes post (fc, fo, ag, al, am, ap, aa) S A := by
  subst eA
  unfold wpY_fixes
  refine pg_al2 (fun n i => wY_fixes_2 post S (nI g) fc fo ag al am ap aa n (nI i)) (fun i => (S >>> (nI i &&& 31)) &&& 1 = 1 → pg_dg g i = i) 6 (post 1) (post 0) (fun n h => br_t pg_ge6 h) (fun n i hi hQ w => ?_) (fun n i hi hQ h => ?_) ht hf
  · exact br_f (pg_le6 hi) (br_c (fun z => pg_yca hP hg hi rfl rfl (br_t (congrArg nI (hQ z)) (nm_r (nI_1 i) w))) (fun z => nm_r (nI_1 i) w))
  · exact br_f (pg_le6 hi) (br_c (fun z => pg_yca hP hg hi rfl rfl (br_f (fun e => hQ fun _ => (nI_eq (Nat.lt_trans (pg_dg_lt g i) (by decide)) (by omega)).mp e) h)) (fun z => absurd (fun y => absurd y z) hQ))
end
/-! the reference's list and marks -/
def pg_YL (L : List Nat) (al am : Nat → Int32) : Prop := (∀ i, i < L.length → al i = nI (L.getD i 0)) ∧ (∀ c, c < 46656 → (bt (am (c / 32)) (c % 32) = true ↔ c ∈ L))
section
variable {fc fo : Int32} {ag al am ap aa : Nat → Int32}
theorem pg_yim {post : Int32 → Prop} {L : List Nat} {g : Nat} (hY : pg_YL L al am) (hg : g < 46656) {A : Int32} (eA : A = nI g) (ht : g ∈ L → post 1) (hf : g ∉ L → post 0) : wpY_isMarked post (fc, fo, ag, al, am, ap, aa) A := by
  subst eA
  unfold wpY_isMarked
  refine ⟨pg_320, ?_⟩
  rw [pg_rem32 (pg_31 hg), pg_div32 (pg_31 hg), nI_clamp (by omega)]
  refine ⟨vp_in_nI (by omega) (by decide), pg_320, ?_⟩
  rw [pg_bit1 (Nat.mod_lt g (by decide)), hY.2 g hg]
  exact br_c ht hf
theorem pg_yno {post : SY → Prop} {L : List Nat} {g : Nat} (hY : pg_YL L al am) (hl : L.length ≤ 720) (hg : g < 46656) (hp : ∀ al' am', pg_YL (pg_nt L g) al' am' → post (fc, nI (pg_nt L g).length, ag, al', am', ap, aa)) : wpY_note post (fc, nI L.length, ag, al, am, ap, aa) (nI g) := by
  unfold wpY_note
  refine pg_yim hY hg rfl (fun hm => br_f pg_10 ?_) (fun hm => br_t rfl ?_)
  · have e := pg_nt_t (L := L) (g := g) (Or.inl hm)
    rw [e] at hp
    exact hp al am hY
  · by_cases hf : 720 ≤ L.length
    · have e := pg_nt_t (L := L) (g := g) (Or.inr hf)
      rw [e] at hp
      exact br_t (nI_le (a := 720) hf (by omega)) (hp al am hY)
    · have e := pg_nt_f (L := L) (g := g) (fun z => z.elim hm hf)
      rw [e, List.length_append] at hp
      have hl' : L.length < 720 := by omega
      have hin : vp_in (nI g / 32) 1458 := by
        rw [pg_div32 (pg_31 hg)]
        exact vp_in_nI (by omega) (by decide)
      refine br_f (nI_ge (b := 720) hl' (by decide)) ⟨pg_320, pg_320, hin, pg_320, hin, nm_r (e' := upd am (g / 32) (am (g / 32) ||| ((1 : Int32) <<< (nI (g % 32) &&& 31)))) ?_ ⟨vp_in_nI hl' (by decide), nm_r (e' := upd al L.length (nI g)) (by rw [nI_clamp (by omega)]) (nm_r (nI_1 L.length) (hp _ _ ⟨fun i hi => ?_, fun c hc => ?_⟩))⟩⟩
      · rw [pg_rem32 (pg_31 hg), pg_div32 (pg_31 hg), nI_clamp (by omega)]
      · rw [List.length_append, List.length_singleton] at hi
        by_cases h : i = L.length
        · rw [h, pk_us, pg_get_end]
        · rw [pk_un h, pg_get_app (by omega)]
          exact hY.1 i (by omega)
      · rw [List.mem_append, List.mem_singleton, ← hY.2 c hc]
        by_cases h : c / 32 = g / 32
        · rw [h, pk_us, b_or, pg_b2 (Nat.mod_lt g (by decide)) (Nat.mod_lt c (by decide)), Bool.or_eq_true, decide_eq_true_eq]
          have t : g % 32 = c % 32 ↔ c = g := by omega
          rw [t]
        · rw [pk_un h]
          exact ⟨fun z => Or.inl z, fun z => z.elim id fun y => absurd (by rw [y]) h⟩
end
