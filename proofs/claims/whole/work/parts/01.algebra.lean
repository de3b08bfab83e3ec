/-! permutations of six points as numbers of six digits in base 6 -/
def pg_dg (c x : Nat) : Nat := c / 6 ^ x % 6
theorem pg_dg_lt (c x : Nat) : pg_dg c x < 6 := Nat.mod_lt _ (by decide)
theorem pg_dg0 (c : Nat) : pg_dg c 0 = c % 6 := by
  show c / 6 ^ 0 % 6 = c % 6
  rw [Nat.pow_zero, Nat.div_one]
theorem pg_dg1 (c : Nat) : pg_dg c 1 = c / 6 % 6 := rfl
theorem pg_dg2 (c : Nat) : pg_dg c 2 = c / 36 % 6 := rfl
theorem pg_dg3 (c : Nat) : pg_dg c 3 = c / 216 % 6 := rfl
theorem pg_dg4 (c : Nat) : pg_dg c 4 = c / 1296 % 6 := rfl
theorem pg_dg5 (c : Nat) : pg_dg c 5 = c / 7776 % 6 := rfl
theorem pg_six {P : Nat → Prop} (h0 : P 0) (h1 : P 1) (h2 : P 2) (h3 : P 3) (h4 : P 4) (h5 : P 5) : ∀ x, x < 6 → P x := by
  intro x hx
  match x, hx with
  | 0, _ => exact h0
  | 1, _ => exact h1
  | 2, _ => exact h2
  | 3, _ => exact h3
  | 4, _ => exact h4
  | 5, _ => exact h5
  | n + 6, h => exact absurd h (by omega)
def pg_en (f : Nat → Nat) : Nat := f 0 + 6 * f 1 + 36 * f 2 + 216 * f 3 + 1296 * f 4 + 7776 * f 5
theorem pg_en_lt (f : Nat → Nat) (h : ∀ x, x < 6 → f x < 6) : pg_en f < 46656 := by
  have h0 := h 0 (by decide)
  have h1 := h 1 (by decide)
  have h2 := h 2 (by decide)
  have h3 := h 3 (by decide)
  have h4 := h 4 (by decide)
  have h5 := h 5 (by decide)
  unfold pg_en
  omega
theorem pg_enx (a b c d e f : Nat) (h0 : a < 6) (h1 : b < 6) (h2 : c < 6) (h3 : d < 6) (h4 : e < 6) : (a + 6 * b + 36 * c + 216 * d + 1296 * e + 7776 * f) % 6 = a ∧ (a + 6 * b + 36 * c + 216 * d + 1296 * e + 7776 * f) / 6 = b + 6 * c + 36 * d + 216 * e + 1296 * f ∧ (a + 6 * b + 36 * c + 216 * d + 1296 * e + 7776 * f) / 36 = c + 6 * d + 36 * e + 216 * f ∧ (a + 6 * b + 36 * c + 216 * d + 1296 * e + 7776 * f) / 216 = d + 6 * e + 36 * f ∧ (a + 6 * b + 36 * c + 216 * d + 1296 * e + 7776 * f) / 1296 = e + 6 * f ∧ (a + 6 * b + 36 * c + 216 * d + 1296 * e + 7776 * f) / 7776 = f := by
  refine ⟨by omega, by omega, by omega, by omega, by omega, by omega⟩
theorem pg_en_dg (f : Nat → Nat) (h : ∀ x, x < 6 → f x < 6) : ∀ x, x < 6 → pg_dg (pg_en f) x = f x := by
  have h0 := h 0 (by decide)
  have h1 := h 1 (by decide)
  have h2 := h 2 (by decide)
  have h3 := h 3 (by decide)
  have h4 := h 4 (by decide)
  have h5 := h 5 (by decide)
  obtain ⟨e0, e1, e2, e3, e4, e5⟩ := pg_enx (f 0) (f 1) (f 2) (f 3) (f 4) (f 5) h0 h1 h2 h3 h4
  refine pg_six ?_ ?_ ?_ ?_ ?_ ?_
  · rw [pg_dg0, pg_en, e0]
  · rw [pg_dg1, pg_en, e1]; omega
  · rw [pg_dg2, pg_en, e2]; omega
  · rw [pg_dg3, pg_en, e3]; omega
  · rw [pg_dg4, pg_en, e4]; omega
  · rw [pg_dg5, pg_en, e5]; omega
theorem pg_rep {c : Nat} (hc : c < 46656) : pg_en (pg_dg c) = c := by
  unfold pg_en
  rw [pg_dg0, pg_dg1, pg_dg2, pg_dg3, pg_dg4, pg_dg5]
  have e2 : c / 36 = c / 6 / 6 := (Nat.div_div_eq_div_mul c 6 6).symm
  have e3 : c / 216 = c / 6 / 6 / 6 := by rw [Nat.div_div_eq_div_mul, Nat.div_div_eq_div_mul]
  have e4 : c / 1296 = c / 6 / 6 / 6 / 6 := by rw [Nat.div_div_eq_div_mul, Nat.div_div_eq_div_mul, Nat.div_div_eq_div_mul]
  have e5 : c / 7776 = c / 6 / 6 / 6 / 6 / 6 := by rw [Nat.div_div_eq_div_mul, Nat.div_div_eq_div_mul, Nat.div_div_eq_div_mul, Nat.div_div_eq_div_mul]
  rw [e2, e3, e4, e5]
  omega
theorem pg_ext {c d : Nat} (hc : c < 46656) (hd : d < 46656) (h : ∀ x, x < 6 → pg_dg c x = pg_dg d x) : c = d := by
  have e : pg_en (pg_dg c) = pg_en (pg_dg d) := by
    unfold pg_en
    rw [h 0 (by decide), h 1 (by decide), h 2 (by decide), h 3 (by decide), h 4 (by decide), h 5 (by decide)]
  rw [pg_rep hc, pg_rep hd] at e
  exact e
/-! products -/
def pg_mul (g h : Nat) : Nat := pg_en (fun x => pg_dg h (pg_dg g x))
theorem pg_mul_lt (g h : Nat) : pg_mul g h < 46656 := pg_en_lt _ (fun _ _ => pg_dg_lt _ _)
theorem pg_mul_dg (g h : Nat) {x : Nat} (hx : x < 6) : pg_dg (pg_mul g h) x = pg_dg h (pg_dg g x) := pg_en_dg (fun x => pg_dg h (pg_dg g x)) (fun _ _ => pg_dg_lt _ _) x hx
theorem pg_assoc (a b c : Nat) : pg_mul (pg_mul a b) c = pg_mul a (pg_mul b c) := by
  refine pg_ext (pg_mul_lt _ _) (pg_mul_lt _ _) fun x hx => ?_
  rw [pg_mul_dg _ _ hx, pg_mul_dg _ _ hx, pg_mul_dg _ _ hx, pg_mul_dg _ _ (pg_dg_lt a x)]
theorem pg_id_dg : ∀ x, x < 6 → pg_dg 44790 x = x := by decide
theorem pg_mul_id {c : Nat} (hc : c < 46656) : pg_mul c 44790 = c := by
  refine pg_ext (pg_mul_lt _ _) hc fun x hx => ?_
  rw [pg_mul_dg _ _ hx, pg_id_dg _ (pg_dg_lt c x)]
theorem pg_id_mul {c : Nat} (hc : c < 46656) : pg_mul 44790 c = c := by
  refine pg_ext (pg_mul_lt _ _) hc fun x hx => ?_
  rw [pg_mul_dg _ _ hx, pg_id_dg _ hx]
/-! which codes are permutations -/
def pg_ms (c : Nat) : Nat := 2 ^ pg_dg c 0 ||| 2 ^ pg_dg c 1 ||| 2 ^ pg_dg c 2 ||| 2 ^ pg_dg c 3 ||| 2 ^ pg_dg c 4 ||| 2 ^ pg_dg c 5
def pg_ip (c : Nat) : Prop := c < 46656 ∧ pg_ms c = 63
theorem pg_63 (y : Nat) : Nat.testBit 63 y = decide (y < 6) := Nat.testBit_two_pow_sub_one 6 y
theorem pg_ms_bit (c y : Nat) : (pg_ms c).testBit y = true ↔ ∃ x, x < 6 ∧ pg_dg c x = y := by
  unfold pg_ms
  simp only [Nat.testBit_or, Nat.testBit_two_pow, Bool.or_eq_true, decide_eq_true_eq]
  constructor
  · rintro (((((h | h) | h) | h) | h) | h)
    · exact ⟨0, by decide, h⟩
    · exact ⟨1, by decide, h⟩
    · exact ⟨2, by decide, h⟩
    · exact ⟨3, by decide, h⟩
    · exact ⟨4, by decide, h⟩
    · exact ⟨5, by decide, h⟩
  · rintro ⟨x, hx, h⟩
    revert h
    refine pg_six (P := fun x => pg_dg c x = y → ((((pg_dg c 0 = y ∨ pg_dg c 1 = y) ∨ pg_dg c 2 = y) ∨ pg_dg c 3 = y) ∨ pg_dg c 4 = y) ∨ pg_dg c 5 = y) ?_ ?_ ?_ ?_ ?_ ?_ x hx
    · exact fun h => Or.inl (Or.inl (Or.inl (Or.inl (Or.inl h))))
    · exact fun h => Or.inl (Or.inl (Or.inl (Or.inl (Or.inr h))))
    · exact fun h => Or.inl (Or.inl (Or.inl (Or.inr h)))
    · exact fun h => Or.inl (Or.inl (Or.inr h))
    · exact fun h => Or.inl (Or.inr h)
    · exact fun h => Or.inr h
theorem pg_ms_sur (c : Nat) : pg_ms c = 63 ↔ ∀ y, y < 6 → ∃ x, x < 6 ∧ pg_dg c x = y := by
  constructor
  · intro h y hy
    refine (pg_ms_bit c y).mp ?_
    rw [h, pg_63]
    exact decide_eq_true hy
  · intro h
    refine Nat.eq_of_testBit_eq fun y => ?_
    rw [pg_63]
    by_cases hy : y < 6
    · rw [(pg_ms_bit c y).mpr (h y hy)]
      exact (decide_eq_true hy).symm
    · rw [decide_eq_false hy]
      refine Bool.eq_false_iff.mpr fun hb => ?_
      obtain ⟨x, _, e⟩ := (pg_ms_bit c y).mp hb
      exact hy (e ▸ pg_dg_lt c x)
theorem pg_ip_mul {g h : Nat} (hg : pg_ip g) (hh : pg_ip h) : pg_ip (pg_mul g h) := by
  refine ⟨pg_mul_lt _ _, (pg_ms_sur _).mpr fun y hy => ?_⟩
  obtain ⟨z, hz, ez⟩ := (pg_ms_sur h).mp hh.2 y hy
  obtain ⟨x, hx, ex⟩ := (pg_ms_sur g).mp hg.2 z hz
  exact ⟨x, hx, by rw [pg_mul_dg _ _ hx, ex, ez]⟩
theorem pg_ip_id : pg_ip 44790 := ⟨by decide, by decide⟩
/-! inverses, by the table -/
def pg_inv (g : Nat) : Nat := 6 ^ pg_dg g 0 * 0 + 6 ^ pg_dg g 1 * 1 + 6 ^ pg_dg g 2 * 2 + 6 ^ pg_dg g 3 * 3 + 6 ^ pg_dg g 4 * 4 + 6 ^ pg_dg g 5 * 5
def pg_ok (c : Nat) : Bool := Nat.beq (pg_mul c (pg_inv c)) 44790 && (Nat.beq (pg_mul (pg_inv c) c) 44790 && (Nat.ble (pg_inv c) 46655 && (Nat.beq (pg_ms (pg_inv c)) 63 && (Nat.ble c 46655 && Nat.beq (pg_ms c) 63))))
def pg_al : Nat → (Nat → Bool) → Bool
  | 0, _ => true
  | n + 1, f => f n && pg_al n f
theorem pg_al_s {n : Nat} {f : Nat → Bool} (h : pg_al n f = true) : ∀ i, i < n → f i = true := by
  induction n with
  | zero => exact fun i hi => absurd hi (Nat.not_lt_zero i)
  | succ n ih =>
    rw [pg_al, Bool.and_eq_true] at h
    intro i hi
    by_cases e : i = n
    · rw [e]; exact h.1
    · exact ih h.2 i (by omega)
def pg_el : List Nat → Nat → Bool
  | [], _ => false
  | a :: l, c => Nat.beq a c || pg_el l c
theorem pg_el_s {l : List Nat} {c : Nat} (h : pg_el l c = true) : c ∈ l := by
  induction l with
  | nil => exact absurd h (by rw [pg_el]; decide)
  | cons a l ih =>
    rw [pg_el, Bool.or_eq_true] at h
    rcases h with h | h
    · rw [Nat.eq_of_beq_eq_true h]; exact List.mem_cons_self
    · exact List.mem_cons_of_mem _ (ih h)
