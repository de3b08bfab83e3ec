/-! the search in breadth, and what its list is -/
theorem pg_len {l1 l2 : List Nat} (hn : l1.Nodup) (hs : ∀ x, x ∈ l1 → x ∈ l2) : l1.length ≤ l2.length := by
  induction l1 generalizing l2 with
  | nil => exact Nat.zero_le _
  | cons a t ih =>
    have ha : a ∈ l2 := hs a List.mem_cons_self
    obtain ⟨hn1, hn2⟩ := List.nodup_cons.mp hn
    have h := ih (l2 := l2.erase a) hn2 (fun x hx => by
      have hxa : x ≠ a := fun e => hn1 (e ▸ hx)
      exact (List.mem_erase_of_ne hxa).mpr (hs x (List.mem_cons_of_mem _ hx)))
    rw [List.length_erase_of_mem ha] at h
    have hp : 0 < l2.length := List.length_pos_of_mem ha
    rw [List.length_cons]
    omega
theorem pg_sur {l1 l2 : List Nat} (hn : l1.Nodup) (hs : ∀ x, x ∈ l1 → x ∈ l2) (hl : l2.length ≤ l1.length) {x : Nat} (hx : x ∈ l2) : x ∈ l1 := by
  refine Classical.byContradiction fun h => ?_
  have t := pg_len (l1 := x :: l1) (l2 := l2) (List.nodup_cons.mpr ⟨h, hn⟩) (fun y hy => by
    rcases List.mem_cons.mp hy with e | e
    · rw [e]; exact hx
    · exact hs y e)
  rw [List.length_cons] at t
  omega
theorem pg_same {l1 l2 : List Nat} (h1 : l1.Nodup) (h2 : l2.Nodup) (h : ∀ x, x ∈ l1 ↔ x ∈ l2) : l1.length = l2.length := Nat.le_antisymm (pg_len h1 (fun x => (h x).mp)) (pg_len h2 (fun x => (h x).mpr))
/-- put a code behind the list, if it is new and there is room -/
def pg_nt (L : List Nat) (g : Nat) : List Nat := if g ∈ L ∨ 720 ≤ L.length then L else L ++ [g]
theorem pg_nt_t {L : List Nat} {g : Nat} (h : g ∈ L ∨ 720 ≤ L.length) : pg_nt L g = L := if_pos h
theorem pg_nt_f {L : List Nat} {g : Nat} (h : ¬ (g ∈ L ∨ 720 ≤ L.length)) : pg_nt L g = L ++ [g] := if_neg h
theorem pg_nt_sub {L : List Nat} {g a : Nat} (h : a ∈ L) : a ∈ pg_nt L g := by
  unfold pg_nt
  split
  · exact h
  · exact List.mem_append_left _ h
theorem pg_nt_len {L : List Nat} {g : Nat} (h : L.length ≤ 720) : (pg_nt L g).length ≤ 720 := by
  unfold pg_nt
  split
  · exact h
  · rename_i hn
    rw [List.length_append, List.length_singleton]
    omega
theorem pg_nt_ge {L : List Nat} {g : Nat} : L.length ≤ (pg_nt L g).length := by
  unfold pg_nt
  split
  · exact Nat.le_refl _
  · rw [List.length_append]
    omega
theorem pg_get_app {L : List Nat} {g k : Nat} (h : k < L.length) : (L ++ [g]).getD k 0 = L.getD k 0 := by
  rw [List.getD_eq_getElem?_getD, List.getD_eq_getElem?_getD, List.getElem?_append_left h]
theorem pg_get_end {L : List Nat} {g : Nat} : (L ++ [g]).getD L.length 0 = g := by
  rw [List.getD_eq_getElem?_getD, List.getElem?_append_right (Nat.le_refl _), Nat.sub_self]
  rfl
theorem pg_get_mem {L : List Nat} {k : Nat} (h : k < L.length) : L.getD k 0 ∈ L := by
  rw [List.getD_eq_getElem?_getD, List.getElem?_eq_getElem h]
  exact List.getElem_mem h
theorem pg_mem_get {L : List Nat} {a : Nat} (h : a ∈ L) : ∃ k, k < L.length ∧ L.getD k 0 = a := by
  obtain ⟨k, hk, e⟩ := List.getElem_of_mem h
  refine ⟨k, hk, ?_⟩
  rw [List.getD_eq_getElem?_getD, List.getElem?_eq_getElem hk]
  exact e
theorem pg_nt_get {L : List Nat} {g k : Nat} (h : k < L.length) : (pg_nt L g).getD k 0 = L.getD k 0 := by
  unfold pg_nt
  split
  · rfl
  · exact pg_get_app h
theorem pg_nt_mem {L : List Nat} {g a : Nat} (h : a ∈ pg_nt L g) : a ∈ L ∨ a = g := by
  unfold pg_nt at h
  split at h
  · exact Or.inl h
  · rcases List.mem_append.mp h with e | e
    · exact Or.inl e
    · exact Or.inr (List.mem_singleton.mp e)
theorem pg_nt_nodup {L : List Nat} {g : Nat} (h : L.Nodup) : (pg_nt L g).Nodup := by
  unfold pg_nt
  split
  · exact h
  · rename_i hn
    refine List.nodup_append.mpr ⟨h, List.nodup_cons.mpr ⟨List.not_mem_nil, List.nodup_nil⟩, fun a ha b hb e => ?_⟩
    rw [List.mem_singleton.mp hb] at e
    exact hn (Or.inl (e ▸ ha))
theorem pg_full {L : List Nat} {g : Nat} (hn : L.Nodup) (hp : ∀ a, a ∈ L → pg_ip a) (hl : 720 ≤ L.length) (hg : pg_ip g) : g ∈ L := pg_sur hn (fun x hx => pg_pl_all (hp x hx)) (by rw [pg_pl_len]; exact hl) (pg_pl_all hg)
theorem pg_nt_in {L : List Nat} {g : Nat} (hn : L.Nodup) (hp : ∀ a, a ∈ L → pg_ip a) (hg : pg_ip g) : g ∈ pg_nt L g := by
  by_cases h : g ∈ L ∨ 720 ≤ L.length
  · rw [pg_nt_t h]
    rcases h with h | h
    · exact h
    · exact pg_full hn hp h hg
  · rw [pg_nt_f h]
    exact List.mem_append_right _ (List.mem_singleton.mpr rfl)
/-- the inner loop: r generators left, the next is number j, the element is number i -/
def pg_in (G : Nat → Nat) (i : Nat) : Nat → Nat → List Nat → List Nat
  | 0, _, L => L
  | r + 1, j, L => pg_in G i r (j + 1) (pg_nt L (pg_mul (L.getD i 0) (G j)))
def pg_bl (G : Nat → Nat) (m : Nat) : Nat → Nat → List Nat → List Nat
  | 0, _, L => L
  | f + 1, i, L => if i < L.length then pg_bl G m f (i + 1) (pg_in G i m 0 L) else L
def pg_gr (G : Nat → Nat) (m : Nat) : List Nat := pg_bl G m 720 0 [44790]
/-- a list as the search holds it -/
def pg_W (L : List Nat) : Prop := L.Nodup ∧ (∀ a, a ∈ L → pg_ip a) ∧ L.length ≤ 720 ∧ 44790 ∈ L
theorem pg_nt_W {L : List Nat} {g : Nat} (h : pg_W L) (hg : pg_ip g) : pg_W (pg_nt L g) := by
  refine ⟨pg_nt_nodup h.1, fun a ha => ?_, pg_nt_len h.2.2.1, pg_nt_sub h.2.2.2⟩
  rcases pg_nt_mem ha with e | e
  · exact h.2.1 a e
  · rw [e]; exact hg
theorem pg_in_s {G : Nat → Nat} {m i : Nat} (hG : ∀ j, j < m → pg_ip (G j)) (S : Nat → Prop) (hS : ∀ a j, S a → j < m → S (pg_mul a (G j))) : ∀ r j L, j + r = m → i < L.length → pg_W L → (∀ a, a ∈ L → S a) → pg_W (pg_in G i r j L) ∧ (∀ a, a ∈ pg_in G i r j L → S a) ∧ (∀ a, a ∈ L → a ∈ pg_in G i r j L) ∧ L.length ≤ (pg_in G i r j L).length ∧ (∀ k, k < L.length → (pg_in G i r j L).getD k 0 = L.getD k 0) ∧ (∀ q, j ≤ q → q < m → pg_mul (L.getD i 0) (G q) ∈ pg_in G i r j L) := by
  intro r
  induction r with
  | zero =>
    intro j L hj hi hW hs
    exact ⟨hW, hs, fun _ h => h, Nat.le_refl _, fun _ _ => rfl, fun q h1 h2 => absurd h1 (by omega)⟩
  | succ r ih =>
    intro j L hj hi hW hs
    have hjm : j < m := by omega
    have ha : L.getD i 0 ∈ L := pg_get_mem hi
    have hp : pg_ip (pg_mul (L.getD i 0) (G j)) := pg_ip_mul (hW.2.1 _ ha) (hG j hjm)
    have hge : L.length ≤ (pg_nt L (pg_mul (L.getD i 0) (G j))).length := pg_nt_ge
    obtain ⟨a1, a2, a3, a4, a5, a6⟩ := ih (j + 1) (pg_nt L (pg_mul (L.getD i 0) (G j))) (by omega) (by omega) (pg_nt_W hW hp) (fun a h => by
      rcases pg_nt_mem h with e | e
      · exact hs a e
      · rw [e]; exact hS _ _ (hs _ ha) hjm)
    rw [pg_in]
    refine ⟨a1, a2, fun a h => a3 a (pg_nt_sub h), by omega, fun k hk => ?_, fun q h1 h2 => ?_⟩
    · rw [a5 k (by omega), pg_nt_get hk]
    · by_cases e : q = j
      · rw [e]
        exact a3 _ (pg_nt_in hW.1 hW.2.1 hp)
      · have t := a6 q (by omega) h2
        rw [pg_nt_get hi] at t
        exact t
theorem pg_bl_s {G : Nat → Nat} {m : Nat} (hG : ∀ j, j < m → pg_ip (G j)) (S : Nat → Prop) (hS : ∀ a j, S a → j < m → S (pg_mul a (G j))) : ∀ f i L, i + f = 720 → pg_W L → (∀ a, a ∈ L → S a) → (∀ k, k < i → k < L.length → ∀ q, q < m → pg_mul (L.getD k 0) (G q) ∈ L) → pg_W (pg_bl G m f i L) ∧ (∀ a, a ∈ pg_bl G m f i L → S a) ∧ (∀ a, a ∈ pg_bl G m f i L → ∀ q, q < m → pg_mul a (G q) ∈ pg_bl G m f i L) := by
  intro f
  induction f with
  | zero =>
    intro i L hi hW hs hc
    refine ⟨hW, hs, fun a ha q hq => ?_⟩
    obtain ⟨k, hk, e⟩ := pg_mem_get (L := L) ha
    have hl := hW.2.2.1
    have t := hc k (by omega) hk q hq
    rw [e] at t
    exact t
  | succ f ih =>
    intro i L hi hW hs hc
    rw [pg_bl]
    by_cases h : i < L.length
    · rw [if_pos h]
      obtain ⟨a1, a2, a3, a4, a5, a6⟩ := pg_in_s hG S hS m 0 L (Nat.zero_add m) h hW hs
      refine ih (i + 1) _ (by omega) a1 a2 fun k hk hk2 q hq => ?_
      by_cases e : k = i
      · rw [e, a5 i h]
        exact a6 q (Nat.zero_le q) hq
      · rw [a5 k (by omega)]
        exact a3 _ (hc k (by omega) (by omega) q hq)
    · rw [if_neg h]
      refine ⟨hW, hs, fun a ha q hq => ?_⟩
      obtain ⟨k, hk, e⟩ := pg_mem_get (L := L) ha
      have t := hc k (by omega) hk q hq
      rw [e] at t
      exact t
theorem pg_W0 : pg_W [44790] := ⟨List.nodup_cons.mpr ⟨List.not_mem_nil, List.nodup_nil⟩, fun a ha => by rw [List.mem_singleton.mp ha]; exact pg_ip_id, by decide, List.mem_singleton.mpr rfl⟩
theorem pg_gr_ind {G : Nat → Nat} {m : Nat} (hG : ∀ j, j < m → pg_ip (G j)) {S : Nat → Prop} (h0 : S 44790) (hS : ∀ a j, S a → j < m → S (pg_mul a (G j))) : ∀ a, a ∈ pg_gr G m → S a := (pg_bl_s hG S hS 720 0 [44790] (by decide) pg_W0 (fun a ha => by rw [List.mem_singleton.mp ha]; exact h0) (fun k hk => absurd hk (Nat.not_lt_zero k))).2.1
theorem pg_gr_W {G : Nat → Nat} {m : Nat} (hG : ∀ j, j < m → pg_ip (G j)) : pg_W (pg_gr G m) := (pg_bl_s hG (fun _ => True) (fun _ _ _ _ => trivial) 720 0 [44790] (by decide) pg_W0 (fun _ _ => trivial) (fun k hk => absurd hk (Nat.not_lt_zero k))).1
theorem pg_gr_cl {G : Nat → Nat} {m : Nat} (hG : ∀ j, j < m → pg_ip (G j)) : ∀ a, a ∈ pg_gr G m → ∀ q, q < m → pg_mul a (G q) ∈ pg_gr G m := (pg_bl_s hG (fun _ => True) (fun _ _ _ _ => trivial) 720 0 [44790] (by decide) pg_W0 (fun _ _ => trivial) (fun k hk => absurd hk (Nat.not_lt_zero k))).2.2
/-! it is a group -/
theorem pg_gr_gen {G : Nat → Nat} {m : Nat} (hG : ∀ j, j < m → pg_ip (G j)) {q : Nat} (hq : q < m) : G q ∈ pg_gr G m := by
  have t := pg_gr_cl hG 44790 (pg_gr_W hG).2.2.2 q hq
  rw [pg_id_mul (hG q hq).1] at t
  exact t
theorem pg_gr_mul {G : Nat → Nat} {m : Nat} (hG : ∀ j, j < m → pg_ip (G j)) {a b : Nat} (ha : a ∈ pg_gr G m) (hb : b ∈ pg_gr G m) : pg_mul a b ∈ pg_gr G m := by
  refine pg_gr_ind hG (S := fun b => pg_mul a b ∈ pg_gr G m) ?_ (fun c j hc hj => ?_) b hb
  · show pg_mul a 44790 ∈ pg_gr G m
    rw [pg_mul_id ((pg_gr_W hG).2.1 a ha).1]
    exact ha
  · show pg_mul a (pg_mul c (G j)) ∈ pg_gr G m
    rw [← pg_assoc]
    exact pg_gr_cl hG _ hc j hj
theorem pg_cancel {a b c : Nat} (ha : a < 46656) (hb : b < 46656) (hc : pg_ip c) (h : pg_mul a c = pg_mul b c) : a = b := by
  have t : pg_mul (pg_mul a c) (pg_inv c) = pg_mul (pg_mul b c) (pg_inv c) := by rw [h]
  rw [pg_assoc, pg_assoc, (pg_ok_of hc).1, pg_mul_id ha, pg_mul_id hb] at t
  exact t
theorem pg_nodup_map {f : Nat → Nat} : ∀ {l : List Nat}, l.Nodup → (∀ a b, a ∈ l → b ∈ l → f a = f b → a = b) → (l.map f).Nodup := by
  intro l
  induction l with
  | nil => exact fun _ _ => List.nodup_nil
  | cons a t ih =>
    intro hn hf
    obtain ⟨h1, h2⟩ := List.nodup_cons.mp hn
    rw [List.map_cons]
    refine List.nodup_cons.mpr ⟨fun hm => ?_, ih h2 (fun x y hx hy => hf x y (List.mem_cons_of_mem _ hx) (List.mem_cons_of_mem _ hy))⟩
    obtain ⟨b, hb, e⟩ := List.mem_map.mp hm
    have eb := hf b a (List.mem_cons_of_mem _ hb) List.mem_cons_self e
    exact h1 (eb ▸ hb)
theorem pg_gr_inv {G : Nat → Nat} {m : Nat} (hG : ∀ j, j < m → pg_ip (G j)) {a : Nat} (ha : a ∈ pg_gr G m) : ∃ b, b ∈ pg_gr G m ∧ pg_mul b a = 44790 := by
  have hW := pg_gr_W hG
  have hm : 44790 ∈ (pg_gr G m).map (fun b => pg_mul b a) := by
    refine pg_sur (l2 := pg_gr G m) (pg_nodup_map hW.1 fun x y hx hy e => pg_cancel (hW.2.1 x hx).1 (hW.2.1 y hy).1 (hW.2.1 a ha) e) (fun x hx => ?_) (Nat.le_of_eq (List.length_map _).symm) hW.2.2.2
    obtain ⟨b, hb, e⟩ := List.mem_map.mp hx
    rw [← e]
    exact pg_gr_mul hG hb ha
  obtain ⟨b, hb, e⟩ := List.mem_map.mp hm
  exact ⟨b, hb, e⟩
/-! who carries x into y -/
def pg_or (L : List Nat) (x y : Nat) : Prop := ∃ a, a ∈ L ∧ pg_dg a x = y
theorem pg_or_refl {G : Nat → Nat} {m : Nat} (hG : ∀ j, j < m → pg_ip (G j)) {x : Nat} (hx : x < 6) : pg_or (pg_gr G m) x x := ⟨44790, (pg_gr_W hG).2.2.2, pg_id_dg x hx⟩
theorem pg_or_trans {G : Nat → Nat} {m : Nat} (hG : ∀ j, j < m → pg_ip (G j)) {x y z : Nat} (hx : x < 6) (h1 : pg_or (pg_gr G m) x y) (h2 : pg_or (pg_gr G m) y z) : pg_or (pg_gr G m) x z := by
  obtain ⟨a, ha, ea⟩ := h1
  obtain ⟨b, hb, eb⟩ := h2
  exact ⟨pg_mul a b, pg_gr_mul hG ha hb, by rw [pg_mul_dg _ _ hx, ea, eb]⟩
theorem pg_dg_inj {a x y : Nat} (ha : pg_ip a) (hx : x < 6) (hy : y < 6) (h : pg_dg a x = pg_dg a y) : x = y := by
  have e := (pg_ok_of ha).1
  have e1 : pg_dg (pg_mul a (pg_inv a)) x = x := by rw [e]; exact pg_id_dg x hx
  have e2 : pg_dg (pg_mul a (pg_inv a)) y = y := by rw [e]; exact pg_id_dg y hy
  rw [pg_mul_dg _ _ hx] at e1
  rw [pg_mul_dg _ _ hy, ← h] at e2
  exact e1.symm.trans e2
theorem pg_or_symm {G : Nat → Nat} {m : Nat} (hG : ∀ j, j < m → pg_ip (G j)) {x y : Nat} (hx : x < 6) (hy : y < 6) (h : pg_or (pg_gr G m) x y) : pg_or (pg_gr G m) y x := by
  obtain ⟨a, ha, ea⟩ := h
  obtain ⟨b, hb, eb⟩ := pg_gr_inv hG ha
  refine ⟨b, hb, pg_dg_inj ((pg_gr_W hG).2.1 a ha) (pg_dg_lt b y) hx ?_⟩
  rw [← pg_mul_dg _ _ hy, eb, ea, pg_id_dg y hy]
/-! conjugates -/
def pg_cj (g h : Nat) : Nat := pg_mul (pg_mul (pg_inv h) g) h
theorem pg_ip_cj {g h : Nat} (hg : pg_ip g) (hh : pg_ip h) : pg_ip (pg_cj g h) := pg_ip_mul (pg_ip_mul (pg_ok_of hh).2.2 hg) hh
theorem pg_cj_eq {g h k : Nat} (hg : g < 46656) (hh : pg_ip h) (hk : k < 46656) : pg_cj g h = k ↔ pg_mul g h = pg_mul h k := by
  obtain ⟨o1, o2, o3⟩ := pg_ok_of hh
  constructor
  · intro e
    rw [← e]
    unfold pg_cj
    rw [pg_assoc, ← pg_assoc, o1, pg_id_mul (pg_mul_lt _ _)]
  · intro e
    unfold pg_cj
    rw [pg_assoc, e, ← pg_assoc, o2, pg_id_mul hk]
/-! the centre and the generators -/
theorem pg_comm {G : Nat → Nat} {m : Nat} (hG : ∀ j, j < m → pg_ip (G j)) : (∀ i, i < m → ∀ j, j < m → pg_mul (G i) (G j) = pg_mul (G j) (G i)) ↔ (∀ a, a ∈ pg_gr G m → ∀ j, j < m → pg_mul a (G j) = pg_mul (G j) a) := by
  constructor
  · intro h
    refine pg_gr_ind hG (S := fun a => ∀ j, j < m → pg_mul a (G j) = pg_mul (G j) a) (fun j hj => ?_) (fun a i ha hi j hj => ?_)
    · rw [pg_id_mul (hG j hj).1, pg_mul_id (hG j hj).1]
    · rw [pg_assoc, h i hi j hj, ← pg_assoc, ha j hj, pg_assoc]
  · intro h i hi j hj
    exact h _ (pg_gr_gen hG hi) j hj
/-! the two generators of all -/
theorem pg_g2_all {c : Nat} : c ∈ pg_gr pg_g2 2 ↔ pg_ip c := by
  have hG : ∀ j, j < 2 → pg_ip (pg_g2 j) := fun j _ => pg_g2_ip j
  constructor
  · exact (pg_gr_W hG).2.1 c
  · exact fun h => pg_all2 (S := fun c => c ∈ pg_gr pg_g2 2) (pg_gr_W hG).2.2.2 (fun a j ha hj => pg_gr_cl hG a ha j hj) h
theorem pg_g2_len : (pg_gr pg_g2 2).length = 720 := by
  have hG : ∀ j, j < 2 → pg_ip (pg_g2 j) := fun j _ => pg_g2_ip j
  rw [← pg_pl_len]
  exact pg_same (pg_gr_W hG).1 pg_pl_nodup fun x => ⟨fun h => pg_pl_all (pg_g2_all.mp h), fun h => pg_g2_all.mpr (pg_pl_ip h)⟩
/-- the codes that are permutations, counted where p holds, over all codes and over the table -/
theorem pg_count (p : Nat → Bool) (q : Nat → Bool) (hq : ∀ c, c < 46656 → (q c = true ↔ pg_ip c ∧ p c = true)) : (List.range 46656).countP q = (pg_gr pg_g2 2).countP p := by
  have hG : ∀ j, j < 2 → pg_ip (pg_g2 j) := fun j _ => pg_g2_ip j
  rw [List.countP_eq_length_filter, List.countP_eq_length_filter]
  refine pg_same (List.Pairwise.filter _ List.nodup_range) (List.Pairwise.filter _ (pg_gr_W hG).1) fun x => ?_
  rw [List.mem_filter, List.mem_filter, pg_g2_all, List.mem_range]
  constructor
  · exact fun h => (hq x h.1).mp h.2
  · exact fun h => ⟨h.1.1, (hq x h.1.1).mpr h⟩
