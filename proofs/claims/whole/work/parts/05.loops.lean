/-! loops, once for all -/
def pg_fo {σ : Type} (st : Nat → σ → σ) : Nat → σ → σ
  | 0, s => s
  | i + 1, s => st i (pg_fo st i s)
theorem pg_fl {σ : Type} (W : Nat → Nat → σ → Prop) (st : Nat → σ → σ) (N : Nat) (s0 : σ) (hs : ∀ n i s, i < N → W n (i + 1) (st i s) → W (n + 1) i s) (hx : ∀ n, W (n + 1) N (pg_fo st N s0)) : ∃ n, W n 0 s0 := by
  have key : ∀ d i n, i + d = N → d < n → W n i (pg_fo st i s0) := by
    intro d
    induction d with
    | zero =>
      intro i n hi hn
      obtain ⟨n', rfl⟩ : ∃ n', n = n' + 1 := ⟨n - 1, by omega⟩
      have e : i = N := by omega
      rw [e]
      exact hx n'
    | succ d ih =>
      intro i n hi hn
      obtain ⟨n', rfl⟩ : ∃ n', n = n' + 1 := ⟨n - 1, by omega⟩
      exact hs n' i _ (by omega) (ih (i + 1) n' (by omega) (by omega))
  exact ⟨N + 1, key N 0 (N + 1) (by omega) (by omega)⟩
theorem pg_ul (W : Nat → Nat → Prop) (N : Nat) (hs : ∀ n i, i < N → W n (i + 1) → W (n + 1) i) (hx : ∀ n, W (n + 1) N) : ∃ n, W n 0 := pg_fl (fun n i (_ : Unit) => W n i) (fun _ s => s) N () (fun n i _ h w => hs n i h w) hx
/-- a loop that goes on while P holds: A at its end, B where P fails -/
theorem pg_al2 (W : Nat → Nat → Prop) (P : Nat → Prop) (N : Nat) (A B : Prop) (hx : ∀ n, A → W (n + 1) N) (ht : ∀ n i, i < N → P i → W n (i + 1) → W (n + 1) i) (hf : ∀ n i, i < N → ¬ P i → B → W (n + 1) i) (hA : (∀ i, i < N → P i) → A) (hB : (¬ ∀ i, i < N → P i) → B) : ∃ n, W n 0 := by
  have key : ∀ d i n, i + d = N → d < n → (∀ j, j < i → P j) → W n i := by
    intro d
    induction d with
    | zero =>
      intro i n hi hn hp
      obtain ⟨n', rfl⟩ : ∃ n', n = n' + 1 := ⟨n - 1, by omega⟩
      have e : i = N := by omega
      rw [e] at hp
      rw [e]
      exact hx n' (hA hp)
    | succ d ih =>
      intro i n hi hn hp
      obtain ⟨n', rfl⟩ : ∃ n', n = n' + 1 := ⟨n - 1, by omega⟩
      by_cases h : P i
      · refine ht n' i (by omega) h (ih (i + 1) n' (by omega) (by omega) fun j hj => ?_)
        by_cases e : j = i
        · rw [e]; exact h
        · exact hp j (by omega)
      · exact hf n' i (by omega) h (hB fun z => h (z i (by omega)))
  exact ⟨N + 1, key N 0 (N + 1) (by omega) (by omega) (fun j hj => absurd hj (Nat.not_lt_zero j))⟩
/-- how many i below N have p -/
def pg_cn (p : Nat → Bool) (N : Nat) : Nat := pg_fo (fun i s => if p i = true then s + 1 else s) N 0
theorem pg_cnl (W : Nat → Nat → Nat → Prop) (p : Nat → Bool) (N : Nat) (ht : ∀ n i s, i < N → p i = true → W n (i + 1) (s + 1) → W (n + 1) i s) (hf : ∀ n i s, i < N → p i = false → W n (i + 1) s → W (n + 1) i s) (hx : ∀ n, W (n + 1) N (pg_cn p N)) : ∃ n, W n 0 0 := by
  refine pg_fl W (fun i s => if p i = true then s + 1 else s) N 0 (fun n i s hi hw => ?_) hx
  cases hp : p i
  · rw [if_neg (by rw [hp]; decide)] at hw
    exact hf n i s hi hp hw
  · rw [if_pos hp] at hw
    exact ht n i s hi hp hw
theorem pg_cn_range (p : Nat → Bool) : ∀ N, pg_cn p N = (List.range N).countP p := by
  intro N
  induction N with
  | zero => rfl
  | succ N ih =>
    rw [List.range_succ, List.countP_append, ← ih]
    show (if p N = true then pg_cn p N + 1 else pg_cn p N) = _
    rw [List.countP_singleton]
    split <;> rfl
theorem pg_list_range (L : List Nat) : L = (List.range L.length).map (fun i => L.getD i 0) := by
  refine List.ext_getElem (by rw [List.length_map, List.length_range]) fun i h1 h2 => ?_
  rw [List.getElem_map, List.getElem_range, List.getD_eq_getElem?_getD, List.getElem?_eq_getElem h1]
  rfl
theorem pg_cn_list (p : Nat → Bool) (L : List Nat) : pg_cn (fun i => p (L.getD i 0)) L.length = L.countP p := by
  have e := congrArg (List.countP p) (pg_list_range L)
  rw [List.countP_map] at e
  rw [pg_cn_range, e]
  rfl
theorem pg_cn_le (p : Nat → Bool) (N : Nat) : pg_cn p N ≤ N := by
  rw [pg_cn_range]
  exact Nat.le_trans List.countP_le_length (Nat.le_of_eq List.length_range)
theorem pg_cn_congr {p q : Nat → Bool} {N : Nat} (h : ∀ i, i < N → p i = q i) : pg_cn p N = pg_cn q N := by
  rw [pg_cn_range, pg_cn_range]
  refine List.countP_congr fun x hx => ?_
  rw [h x (List.mem_range.mp hx)]
/-! numbers -/
theorem pg_div6 {a : Nat} (ha : a < 2 ^ 31) : nI a / 6 = nI (a / 6) := pk_div (d := 6) ha (by decide) (by decide)
theorem pg_rem6 {a : Nat} (ha : a < 2 ^ 31) : nI a - nI a / 6 * 6 = nI (a % 6) := pk_rem (d := 6) ha (by decide) (by decide)
theorem pg_div32 {a : Nat} (ha : a < 2 ^ 31) : nI a / 32 = nI (a / 32) := pk_div (d := 32) ha (by decide) (by decide)
theorem pg_rem32 {a : Nat} (ha : a < 2 ^ 31) : nI a - nI a / 32 * 32 = nI (a % 32) := pk_rem (d := 32) ha (by decide) (by decide)
theorem pg_60 : ¬ (6 : Int32) = 0 := by decide
theorem pg_320 : ¬ (32 : Int32) = 0 := by decide
theorem pg_10 : ¬ (1 : Int32) = 0 := by decide
theorem pg_dvlt {g : Nat} (hg : g < 2 ^ 31) (i : Nat) : g / 6 ^ i < 2 ^ 31 := Nat.lt_of_le_of_lt (Nat.div_le_self _ _) hg
theorem pg_dvs (g i : Nat) : g / 6 ^ i / 6 = g / 6 ^ (i + 1) := by rw [Nat.div_div_eq_div_mul, ← Nat.pow_succ]
theorem pg_dv0 (g : Nat) : g / 6 ^ 0 = g := by rw [Nat.pow_zero, Nat.div_one]
theorem pg_31 {a : Nat} (h : a < 46656) : a < 2 ^ 31 := Nat.lt_trans h (by decide)
theorem pg_le6 {i : Nat} (h : i < 6) : ¬ (6 : Int32) ≤ nI i := nI_ge (b := 6) h (by decide)
theorem pg_ge6 : (6 : Int32) ≤ nI 6 := by decide
def pg_b (b : Bool) : Int32 := if b = true then 1 else 0
theorem pg_cl5 {j : Nat} (h : j < 5) : (nI j).toNatClampNeg = j := nI_clamp (by omega)
theorem pg_cl720 {j : Nat} (h : j < 720) : (nI j).toNatClampNeg = j := nI_clamp (by omega)
