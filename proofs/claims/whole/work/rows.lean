section
/-! permutations of six points as numbers of six digits in base 6 -/
def pg_dg (c x : Nat) : Nat := c / 6 ^ x % 6
theorem pg_dg_lt (c x : Nat) : pg_dg c x < 6 := Nat.mod_lt _ (by decide)
theorem pg_dg0 (c : Nat) : pg_dg c 0 = c % 6 := by
  show c / 6 ^ 0 % 6 = c % 6
  rw [Nat.pow_zero, Nat.div_one]
theorem pg_dg1 (c : Nat) : pg_dg c 1 = c / 6 % 6 := rfl
theorem pg_dg2 (c : Nat) : pg_dg c 2 = c / 36 % 6 := rfl
theorem pg_dg3 (c : Nat) : pg_dg c 3 = c / 216 % 6 := rfl
theorem pg_dg4 (c : Nat) : pg_dg c 4 = c / 1296 % 6 := rfl
theorem pg_dg5 (c : Nat) : pg_dg c 5 = c / 7776 % 6 := rfl
theorem pg_six {P : Nat → Prop} (h0 : P 0) (h1 : P 1) (h2 : P 2) (h3 : P 3) (h4 : P 4) (h5 : P 5) : ∀ x, x < 6 → P x := by
  intro x hx
  match x, hx with
  | 0, _ => exact h0
  | 1, _ => exact h1
  | 2, _ => exact h2
  | 3, _ => exact h3
  | 4, _ => exact h4
  | 5, _ => exact h5
  | n + 6, h => exact absurd h (by omega)
def pg_en (f : Nat → Nat) : Nat := f 0 + 6 * f 1 + 36 * f 2 + 216 * f 3 + 1296 * f 4 + 7776 * f 5
theorem pg_en_lt (f : Nat → Nat) (h : ∀ x, x < 6 → f x < 6) : pg_en f < 46656 := by
  have h0 := h 0 (by decide)
  have h1 := h 1 (by decide)
  have h2 := h 2 (by decide)
  have h3 := h 3 (by decide)
  have h4 := h 4 (by decide)
  have h5 := h 5 (by decide)
  unfold pg_en
  omega
theorem pg_enx (a b c d e f : Nat) (h0 : a < 6) (h1 : b < 6) (h2 : c < 6) (h3 : d < 6) (h4 : e < 6) : (a + 6 * b + 36 * c + 216 * d + 1296 * e + 7776 * f) % 6 = a ∧ (a + 6 * b + 36 * c + 216 * d + 1296 * e + 7776 * f) / 6 = b + 6 * c + 36 * d + 216 * e + 1296 * f ∧ (a + 6 * b + 36 * c + 216 * d + 1296 * e + 7776 * f) / 36 = c + 6 * d + 36 * e + 216 * f ∧ (a + 6 * b + 36 * c + 216 * d + 1296 * e + 7776 * f) / 216 = d + 6 * e + 36 * f ∧ (a + 6 * b + 36 * c + 216 * d + 1296 * e + 7776 * f) / 1296 = e + 6 * f ∧ (a + 6 * b + 36 * c + 216 * d + 1296 * e + 7776 * f) / 7776 = f := by
  refine ⟨by omega, by omega, by omega, by omega, by omega, by omega⟩
theorem pg_en_dg (f : Nat → Nat) (h : ∀ x, x < 6 → f x < 6) : ∀ x, x < 6 → pg_dg (pg_en f) x = f x := by
  have h0 := h 0 (by decide)
  have h1 := h 1 (by decide)
  have h2 := h 2 (by decide)
  have h3 := h 3 (by decide)
  have h4 := h 4 (by decide)
  have h5 := h 5 (by decide)
  obtain ⟨e0, e1, e2, e3, e4, e5⟩ := pg_enx (f 0) (f 1) (f 2) (f 3) (f 4) (f 5) h0 h1 h2 h3 h4
  refine pg_six ?_ ?_ ?_ ?_ ?_ ?_
  · rw [pg_dg0, pg_en, e0]
  · rw [pg_dg1, pg_en, e1]; omega
  · rw [pg_dg2, pg_en, e2]; omega
  · rw [pg_dg3, pg_en, e3]; omega
  · rw [pg_dg4, pg_en, e4]; omega
  · rw [pg_dg5, pg_en, e5]; omega
theorem pg_rep {c : Nat} (hc : c < 46656) : pg_en (pg_dg c) = c := by
  unfold pg_en
  rw [pg_dg0, pg_dg1, pg_dg2, pg_dg3, pg_dg4, pg_dg5]
  have e2 : c / 36 = c / 6 / 6 := (Nat.div_div_eq_div_mul c 6 6).symm
  have e3 : c / 216 = c / 6 / 6 / 6 := by rw [Nat.div_div_eq_div_mul, Nat.div_div_eq_div_mul]
  have e4 : c / 1296 = c / 6 / 6 / 6 / 6 := by rw [Nat.div_div_eq_div_mul, Nat.div_div_eq_div_mul, Nat.div_div_eq_div_mul]
  have e5 : c / 7776 = c / 6 / 6 / 6 / 6 / 6 := by rw [Nat.div_div_eq_div_mul, Nat.div_div_eq_div_mul, Nat.div_div_eq_div_mul, Nat.div_div_eq_div_mul]
  rw [e2, e3, e4, e5]
  omega
theorem pg_ext {c d : Nat} (hc : c < 46656) (hd : d < 46656) (h : ∀ x, x < 6 → pg_dg c x = pg_dg d x) : c = d := by
  have e : pg_en (pg_dg c) = pg_en (pg_dg d) := by
    unfold pg_en
    rw [h 0 (by decide), h 1 (by decide), h 2 (by decide), h 3 (by decide), h 4 (by decide), h 5 (by decide)]
  rw [pg_rep hc, pg_rep hd] at e
  exact e
/-! products -/
def pg_mul (g h : Nat) : Nat := pg_en (fun x => pg_dg h (pg_dg g x))
theorem pg_mul_lt (g h : Nat) : pg_mul g h < 46656 := pg_en_lt _ (fun _ _ => pg_dg_lt _ _)
theorem pg_mul_dg (g h : Nat) {x : Nat} (hx : x < 6) : pg_dg (pg_mul g h) x = pg_dg h (pg_dg g x) := pg_en_dg (fun x => pg_dg h (pg_dg g x)) (fun _ _ => pg_dg_lt _ _) x hx
theorem pg_assoc (a b c : Nat) : pg_mul (pg_mul a b) c = pg_mul a (pg_mul b c) := by
  refine pg_ext (pg_mul_lt _ _) (pg_mul_lt _ _) fun x hx => ?_
  rw [pg_mul_dg _ _ hx, pg_mul_dg _ _ hx, pg_mul_dg _ _ hx, pg_mul_dg _ _ (pg_dg_lt a x)]
theorem pg_id_dg : ∀ x, x < 6 → pg_dg 44790 x = x := by decide
theorem pg_mul_id {c : Nat} (hc : c < 46656) : pg_mul c 44790 = c := by
  refine pg_ext (pg_mul_lt _ _) hc fun x hx => ?_
  rw [pg_mul_dg _ _ hx, pg_id_dg _ (pg_dg_lt c x)]
theorem pg_id_mul {c : Nat} (hc : c < 46656) : pg_mul 44790 c = c := by
  refine pg_ext (pg_mul_lt _ _) hc fun x hx => ?_
  rw [pg_mul_dg _ _ hx, pg_id_dg _ hx]
/-! which codes are permutations -/
def pg_ms (c : Nat) : Nat := 2 ^ pg_dg c 0 ||| 2 ^ pg_dg c 1 ||| 2 ^ pg_dg c 2 ||| 2 ^ pg_dg c 3 ||| 2 ^ pg_dg c 4 ||| 2 ^ pg_dg c 5
def pg_ip (c : Nat) : Prop := c < 46656 ∧ pg_ms c = 63
theorem pg_63 (y : Nat) : Nat.testBit 63 y = decide (y < 6) := Nat.testBit_two_pow_sub_one 6 y
theorem pg_ms_bit (c y : Nat) : (pg_ms c).testBit y = true ↔ ∃ x, x < 6 ∧ pg_dg c x = y := by
  unfold pg_ms
  simp only [Nat.testBit_or, Nat.testBit_two_pow, Bool.or_eq_true, decide_eq_true_eq]
  constructor
  · rintro (((((h | h) | h) | h) | h) | h)
    · exact ⟨0, by decide, h⟩
    · exact ⟨1, by decide, h⟩
    · exact ⟨2, by decide, h⟩
    · exact ⟨3, by decide, h⟩
    · exact ⟨4, by decide, h⟩
    · exact ⟨5, by decide, h⟩
  · rintro ⟨x, hx, h⟩
    revert h
    refine pg_six (P := fun x => pg_dg c x = y → ((((pg_dg c 0 = y ∨ pg_dg c 1 = y) ∨ pg_dg c 2 = y) ∨ pg_dg c 3 = y) ∨ pg_dg c 4 = y) ∨ pg_dg c 5 = y) ?_ ?_ ?_ ?_ ?_ ?_ x hx
    · exact fun h => Or.inl (Or.inl (Or.inl (Or.inl (Or.inl h))))
    · exact fun h => Or.inl (Or.inl (Or.inl (Or.inl (Or.inr h))))
    · exact fun h => Or.inl (Or.inl (Or.inl (Or.inr h)))
    · exact fun h => Or.inl (Or.inl (Or.inr h))
    · exact fun h => Or.inl (Or.inr h)
    · exact fun h => Or.inr h
theorem pg_ms_sur (c : Nat) : pg_ms c = 63 ↔ ∀ y, y < 6 → ∃ x, x < 6 ∧ pg_dg c x = y := by
  constructor
  · intro h y hy
    refine (pg_ms_bit c y).mp ?_
    rw [h, pg_63]
    exact decide_eq_true hy
  · intro h
    refine Nat.eq_of_testBit_eq fun y => ?_
    rw [pg_63]
    by_cases hy : y < 6
    · rw [(pg_ms_bit c y).mpr (h y hy)]
      exact (decide_eq_true hy).symm
    · rw [decide_eq_false hy]
      refine Bool.eq_false_iff.mpr fun hb => ?_
      obtain ⟨x, _, e⟩ := (pg_ms_bit c y).mp hb
      exact hy (e ▸ pg_dg_lt c x)
theorem pg_ip_mul {g h : Nat} (hg : pg_ip g) (hh : pg_ip h) : pg_ip (pg_mul g h) := by
  refine ⟨pg_mul_lt _ _, (pg_ms_sur _).mpr fun y hy => ?_⟩
  obtain ⟨z, hz, ez⟩ := (pg_ms_sur h).mp hh.2 y hy
  obtain ⟨x, hx, ex⟩ := (pg_ms_sur g).mp hg.2 z hz
  exact ⟨x, hx, by rw [pg_mul_dg _ _ hx, ex, ez]⟩
theorem pg_ip_id : pg_ip 44790 := ⟨by decide, by decide⟩
/-! inverses, by the table -/
def pg_inv (g : Nat) : Nat := 6 ^ pg_dg g 0 * 0 + 6 ^ pg_dg g 1 * 1 + 6 ^ pg_dg g 2 * 2 + 6 ^ pg_dg g 3 * 3 + 6 ^ pg_dg g 4 * 4 + 6 ^ pg_dg g 5 * 5
def pg_ok (c : Nat) : Bool := Nat.beq (pg_mul c (pg_inv c)) 44790 && (Nat.beq (pg_mul (pg_inv c) c) 44790 && (Nat.ble (pg_inv c) 46655 && (Nat.beq (pg_ms (pg_inv c)) 63 && (Nat.ble c 46655 && Nat.beq (pg_ms c) 63))))
def pg_al : Nat → (Nat → Bool) → Bool
  | 0, _ => true
  | n + 1, f => f n && pg_al n f
theorem pg_al_s {n : Nat} {f : Nat → Bool} (h : pg_al n f = true) : ∀ i, i < n → f i = true := by
  induction n with
  | zero => exact fun i hi => absurd hi (Nat.not_lt_zero i)
  | succ n ih =>
    rw [pg_al, Bool.and_eq_true] at h
    intro i hi
    by_cases e : i = n
    · rw [e]; exact h.1
    · exact ih h.2 i (by omega)
def pg_el : List Nat → Nat → Bool
  | [], _ => false
  | a :: l, c => Nat.beq a c || pg_el l c
theorem pg_el_s {l : List Nat} {c : Nat} (h : pg_el l c = true) : c ∈ l := by
  induction l with
  | nil => exact absurd h (by rw [pg_el]; decide)
  | cons a l ih =>
    rw [pg_el, Bool.or_eq_true] at h
    rcases h with h | h
    · rw [Nat.eq_of_beq_eq_true h]; exact List.mem_cons_self
    · exact List.mem_cons_of_mem _ (ih h)
end
section
-- written by wip/whole/tables.py; the longest word has 18 steps
/-- the codes of all permutations of six points -/
def pg_PL : List Nat := [
  1865, 1870, 1895, 1905, 1930, 1935, 2045, 2050, 2105, 2120, 2140, 2150, 2255, 2265, 2285,
  2300, 2355, 2360, 2470, 2475, 2500, 2510, 2535, 2540, 2945, 2950, 2975, 2985, 3010, 3015,
  3305, 3310, 3395, 3415, 3430, 3445, 3515, 3525, 3575, 3595, 3645, 3655, 3730, 3735, 3790,
  3805, 3825, 3835, 4205, 4210, 4265, 4280, 4300, 4310, 4385, 4390, 4475, 4495, 4510, 4525,
  4805, 4820, 4835, 4855, 4940, 4945, 5020, 5030, 5050, 5065, 5120, 5125, 5495, 5505, 5525,
  5540, 5595, 5600, 5675, 5685, 5735, 5755, 5805, 5815, 5885, 5900, 5915, 5935, 6020, 6025,
  6315, 6320, 6345, 6355, 6380, 6385, 6790, 6795, 6820, 6830, 6855, 6860, 6970, 6975, 7030,
  7045, 7065, 7075, 7180, 7190, 7210, 7225, 7280, 7285, 7395, 7400, 7425, 7435, 7460, 7465,
  8345, 8350, 8375, 8385, 8410, 8415, 8525, 8530, 8585, 8600, 8620, 8630, 8735, 8745, 8765,
  8780, 8835, 8840, 8950, 8955, 8980, 8990, 9015, 9020, 10505, 10510, 10535, 10545, 10570, 10575,
  11045, 11050, 11165, 11190, 11200, 11220, 11255, 11265, 11345, 11370, 11415, 11430, 11470, 11475, 11560,
  11580, 11595, 11610, 11765, 11770, 11825, 11840, 11860, 11870, 12125, 12130, 12245, 12270, 12280, 12300,
  12545, 12560, 12605, 12630, 12710, 12720, 12760, 12770, 12820, 12840, 12890, 12900, 13055, 13065, 13085,
  13100, 13155, 13160, 13415, 13425, 13505, 13530, 13575, 13590, 13625, 13640, 13685, 13710, 13790, 13800,
  14055, 14060, 14115, 14130, 14150, 14160, 14350, 14355, 14380, 14390, 14415, 14420, 14710, 14715, 14800,
  14820, 14835, 14850, 14920, 14930, 14980, 15000, 15050, 15060, 15135, 15140, 15195, 15210, 15230, 15240,
  15905, 15910, 15935, 15945, 15970, 15975, 16265, 16270, 16355, 16375, 16390, 16405, 16475, 16485, 16535,
  16555, 16605, 16615, 16690, 16695, 16750, 16765, 16785, 16795, 16985, 16990, 17015, 17025, 17050, 17055,
  17525, 17530, 17645, 17670, 17680, 17700, 17735, 17745, 17825, 17850, 17895, 17910, 17950, 17955, 18040,
  18060, 18075, 18090, 19505, 19510, 19595, 19615, 19630, 19645, 19685, 19690, 19805, 19830, 19840, 19860,
  20315, 20335, 20345, 20370, 20485, 20490, 20530, 20545, 20560, 20580, 20665, 20670, 20795, 20805, 20855,
  20875, 20925, 20935, 20975, 20985, 21065, 21090, 21135, 21150, 21395, 21415, 21425, 21450, 21565, 21570,
  21825, 21835, 21855, 21870, 21925, 21930, 22090, 22095, 22150, 22165, 22185, 22195, 22270, 22275, 22360,
  22380, 22395, 22410, 22690, 22705, 22720, 22740, 22825, 22830, 22905, 22915, 22935, 22950, 23005, 23010,
  23645, 23650, 23705, 23720, 23740, 23750, 23825, 23830, 23915, 23935, 23950, 23965, 24245, 24260, 24275,
  24295, 24380, 24385, 24460, 24470, 24490, 24505, 24560, 24565, 24725, 24730, 24785, 24800, 24820, 24830,
  25085, 25090, 25205, 25230, 25240, 25260, 25505, 25520, 25565, 25590, 25670, 25680, 25720, 25730, 25780,
  25800, 25850, 25860, 25985, 25990, 26075, 26095, 26110, 26125, 26165, 26170, 26285, 26310, 26320, 26340,
  26795, 26815, 26825, 26850, 26965, 26970, 27010, 27025, 27040, 27060, 27145, 27150, 28565, 28580, 28595,
  28615, 28700, 28705, 28745, 28760, 28805, 28830, 28910, 28920, 28955, 28975, 28985, 29010, 29125, 29130,
  29600, 29605, 29630, 29640, 29665, 29670, 29860, 29870, 29890, 29905, 29960, 29965, 30040, 30050, 30100,
  30120, 30170, 30180, 30250, 30265, 30280, 30300, 30385, 30390, 30680, 30685, 30710, 30720, 30745, 30750,
  31415, 31425, 31445, 31460, 31515, 31520, 31595, 31605, 31655, 31675, 31725, 31735, 31805, 31820, 31835,
  31855, 31940, 31945, 32235, 32240, 32265, 32275, 32300, 32305, 32495, 32505, 32525, 32540, 32595, 32600,
  32855, 32865, 32945, 32970, 33015, 33030, 33065, 33080, 33125, 33150, 33230, 33240, 33495, 33500, 33555,
  33570, 33590, 33600, 33755, 33765, 33815, 33835, 33885, 33895, 33935, 33945, 34025, 34050, 34095, 34110,
  34355, 34375, 34385, 34410, 34525, 34530, 34785, 34795, 34815, 34830, 34885, 34890, 35045, 35060, 35075,
  35095, 35180, 35185, 35225, 35240, 35285, 35310, 35390, 35400, 35435, 35455, 35465, 35490, 35605, 35610,
  36080, 36085, 36110, 36120, 36145, 36150, 37635, 37640, 37665, 37675, 37700, 37705, 37815, 37820, 37875,
  37890, 37910, 37920, 38025, 38035, 38055, 38070, 38125, 38130, 38240, 38245, 38270, 38280, 38305, 38310,
  39190, 39195, 39220, 39230, 39255, 39260, 39370, 39375, 39430, 39445, 39465, 39475, 39580, 39590, 39610,
  39625, 39680, 39685, 39795, 39800, 39825, 39835, 39860, 39865, 40270, 40275, 40300, 40310, 40335, 40340,
  40630, 40635, 40720, 40740, 40755, 40770, 40840, 40850, 40900, 40920, 40970, 40980, 41055, 41060, 41115,
  41130, 41150, 41160, 41530, 41535, 41590, 41605, 41625, 41635, 41710, 41715, 41800, 41820, 41835, 41850,
  42130, 42145, 42160, 42180, 42265, 42270, 42345, 42355, 42375, 42390, 42445, 42450, 42820, 42830, 42850,
  42865, 42920, 42925, 43000, 43010, 43060, 43080, 43130, 43140, 43210, 43225, 43240, 43260, 43345, 43350,
  43640, 43645, 43670, 43680, 43705, 43710, 44115, 44120, 44145, 44155, 44180, 44185, 44295, 44300, 44355,
  44370, 44390, 44400, 44505, 44515, 44535, 44550, 44605, 44610, 44720, 44725, 44750, 44760, 44785, 44790]
/-- for each of them a word of the generators 7465 (0) and 44785 (1), behind a leading 1 -/
def pg_WL : List Nat := [
  50341, 17573, 5417, 8773, 8741, 4265, 70805, 35349, 2705, 6801, 6225, 2129, 2697, 6793, 1322,
  3370, 2121, 1057, 5449, 2089, 2721, 1041, 25, 9, 21797, 8357, 10885, 4165, 101, 37,
  34965, 17061, 67732, 135828, 12882, 4690, 24901, 8517, 660, 1684, 4682, 2338, 8485, 4229, 6418,
  2322, 2314, 1108, 33941, 16917, 25673, 9289, 9257, 4433, 405, 149, 33429, 19018, 16661, 9482,
  658, 1682, 328, 840, 133778, 66888, 18729, 9353, 34069, 66600, 1106, 552, 66698, 37413, 650,
  1674, 4425, 2209, 33348, 17733, 324, 836, 37157, 66884, 322, 834, 160, 416, 66882, 33440,
  3146, 1098, 1572, 548, 546, 272, 12585, 4393, 1354, 2193, 2185, 1066, 17701, 8837, 676,
  1700, 1556, 532, 674, 1698, 336, 848, 530, 264, 1362, 522, 680, 260, 6, 2,
  25170, 8786, 2708, 4386, 4370, 2132, 35402, 17674, 1352, 3400, 3112, 1064, 1348, 3396, 672,
  1696, 1060, 528, 2724, 1044, 1360, 520, 12, 4, 10898, 4178, 5442, 2082, 50, 18,
  17482, 8530, 35146, 100682, 17546, 9381, 12450, 4258, 1321, 3369, 9365, 4677, 4242, 2114, 12837,
  4645, 4629, 2217, 16970, 8458, 12836, 4644, 4628, 2216, 202, 74, 16714, 38037, 8330, 18965,
  1317, 3365, 657, 1681, 267557, 133777, 9364, 4676, 17034, 49802, 2213, 1105, 37458, 18706, 1301,
  3349, 2212, 1104, 18514, 8866, 649, 1673, 18578, 51346, 645, 1669, 298, 810, 38036, 66858,
  6293, 2197, 3145, 1097, 1093, 545, 6292, 2196, 2709, 1096, 1092, 544, 8850, 4418, 1353,
  3401, 3113, 1065, 1349, 3397, 673, 1697, 1061, 529, 2725, 1045, 1361, 521, 13, 5,
  10897, 4177, 5418, 2081, 49, 17, 17481, 8529, 2706, 6802, 6226, 2130, 2698, 4257, 1346,
  3394, 2122, 1058, 4241, 2090, 2722, 1042, 26, 10, 5448, 2088, 2720, 1040, 24, 8,
  8740, 4264, 5413, 13605, 8772, 4261, 5397, 2128, 2693, 6789, 4245, 2117, 2120, 1056, 5445,
  2085, 53, 21, 201, 73, 16713, 9290, 8329, 4434, 100, 36, 8356, 18581, 4164, 8869,
  34121, 18762, 17060, 34964, 140585, 70292, 17033, 9354, 8516, 18709, 5285, 2642, 18513, 8865, 33833,
  67881, 4426, 2210, 9256, 4432, 16916, 33940, 8853, 4421, 297, 809, 148, 404, 66857, 33428,
  13461, 5269, 6730, 2634, 2629, 1314, 8849, 4394, 6290, 2194, 2186, 1090, 4424, 2208, 12581,
  4389, 4373, 2181, 35465, 74057, 17732, 37028, 2597, 1298, 6677, 2581, 3338, 1290, 1193, 596,
  16965, 8361, 10889, 4169, 105, 41, 197, 69, 16709, 8778, 8325, 4362, 24905, 8521, 34117,
  69925, 5194, 2596, 8489, 4233, 6676, 2580, 2386, 1192, 8482, 4180, 5444, 2084, 52, 20,
  98, 34, 8354, 17557, 4162, 8725, 12452, 4260, 17058, 34962, 10389, 5193, 4244, 2116, 8514,
  5161, 4773, 2385, 97, 33, 8353, 4170, 106, 42, 48, 16, 4176, 8341, 213, 85,
  17057, 8522, 8528, 17045, 21653, 10826, 8490, 4234, 4256, 8469, 10773, 5386, 33317, 17737, 293,
  805, 10570, 5284, 16658, 8868, 146, 402, 18580, 10569, 145, 401, 72, 200, 33425, 16712,
  75049, 136485, 37524, 68242, 68241, 34120, 17705, 8841, 13460, 5268, 5258, 2628, 8852, 4420, 17730,
  10537, 10517, 5257, 17706, 8842, 8864, 17685, 67665, 33832, 3237, 1189, 1618, 594, 593, 296,
  33957, 16933, 26705, 10321, 9545, 4769, 421, 165, 33445, 21074, 16677, 10514, 33301, 17449, 277,
  789, 35113, 66837, 6474, 2378, 3236, 1188, 1186, 592, 16978, 8466, 13352, 5160, 4772, 2384,
  210, 82, 16722, 33930, 8338, 21029, 16650, 8724, 138, 394, 17556, 33418, 10388, 4757, 6473,
  2377, 2373, 1185, 209, 81, 16721, 10322, 8337, 4770, 104, 40, 8360, 16964, 4168, 9541,
  137, 393, 68, 196, 33417, 16708, 17041, 10386, 8520, 20773, 68233, 34116, 425, 169, 133,
  389, 16681, 10772, 212, 84, 66, 194, 8340, 16706, 65, 170, 32, 96, 16682, 8352,
  34089, 21652, 17044, 34114, 34090, 17056, 42281, 21137, 70949, 133269, 3221, 1173, 21140, 10568, 35474,
  66634, 1610, 586, 35473, 21138, 17736, 33316, 585, 292, 1605, 581, 802, 290, 289, 144,
  25897, 9513, 12945, 4753, 4745, 2346, 38181, 19077, 67733, 133268, 3220, 1172, 66709, 42057, 661,
  1685, 1170, 584, 3210, 1162, 1604, 580, 578, 288, 12948, 4756, 6472, 2376, 2372, 1184,
  19090, 9538, 33866, 67914, 6441, 2345, 33354, 21028, 330, 842, 2341, 1169, 6421, 2325, 3209,
  1161, 1157, 554, 19089, 9514, 12946, 4754, 4746, 2370, 9544, 4768, 16932, 9509, 9493, 4741,
  329, 841, 164, 420, 66889, 33444, 34897, 66601, 17448, 33300, 553, 276, 33349, 19081, 325,
  837, 41289, 66885, 16674, 9540, 162, 418, 20644, 33442, 161, 417, 80, 208, 33441, 16720,
  1573, 549, 786, 274, 273, 136, 66725, 43089, 677, 1701, 1557, 533, 33362, 21544, 338,
  850, 778, 266, 337, 849, 168, 424, 265, 132, 681, 261, 340, 130, 3, 1]
set_option maxRecDepth 20000 in
theorem pg_pl_len : pg_PL.length = 720 := by decide +kernel
theorem pg_pl_ok : pg_PL.all pg_ok = true := by decide +kernel
/-- every six digits that meet all points make a code of the table -/
def pg_ch : Bool := pg_al 6 fun a => pg_al 6 fun b => pg_al 6 fun c => pg_al 6 fun d => pg_al 6 fun e => pg_al 6 fun f => !(Nat.beq (2 ^ a ||| 2 ^ b ||| 2 ^ c ||| 2 ^ d ||| 2 ^ e ||| 2 ^ f) 63) || pg_el pg_PL (a + 6 * b + 36 * c + 216 * d + 1296 * e + 7776 * f)
theorem pg_ch_t : pg_ch = true := by decide +kernel
theorem pg_pl_all {c : Nat} (h : pg_ip c) : c ∈ pg_PL := by
  have t := pg_al_s (pg_al_s (pg_al_s (pg_al_s (pg_al_s (pg_al_s pg_ch_t _ (pg_dg_lt c 0)) _ (pg_dg_lt c 1)) _ (pg_dg_lt c 2)) _ (pg_dg_lt c 3)) _ (pg_dg_lt c 4)) _ (pg_dg_lt c 5)
  have e : pg_dg c 0 + 6 * pg_dg c 1 + 36 * pg_dg c 2 + 216 * pg_dg c 3 + 1296 * pg_dg c 4 + 7776 * pg_dg c 5 = c := pg_rep h.1
  have m : 2 ^ pg_dg c 0 ||| 2 ^ pg_dg c 1 ||| 2 ^ pg_dg c 2 ||| 2 ^ pg_dg c 3 ||| 2 ^ pg_dg c 4 ||| 2 ^ pg_dg c 5 = 63 := h.2
  rw [m, e] at t
  exact pg_el_s t
theorem pg_ok_of {c : Nat} (h : pg_ip c) : pg_mul c (pg_inv c) = 44790 ∧ pg_mul (pg_inv c) c = 44790 ∧ pg_ip (pg_inv c) := by
  have t := List.all_eq_true.mp pg_pl_ok c (pg_pl_all h)
  simp only [pg_ok, Bool.and_eq_true] at t
  exact ⟨Nat.eq_of_beq_eq_true t.1, Nat.eq_of_beq_eq_true t.2.1, Nat.lt_succ_of_le (Nat.le_of_ble_eq_true t.2.2.1), Nat.eq_of_beq_eq_true t.2.2.2.1⟩
theorem pg_pl_ip {c : Nat} (h : c ∈ pg_PL) : pg_ip c := by
  have t := List.all_eq_true.mp pg_pl_ok c h
  simp only [pg_ok, Bool.and_eq_true] at t
  exact ⟨Nat.lt_succ_of_le (Nat.le_of_ble_eq_true t.2.2.2.2.1), Nat.eq_of_beq_eq_true t.2.2.2.2.2⟩
/-- the table's list rises: no code stands in it twice -/
def pg_up : Nat → List Nat → Bool
  | _, [] => true
  | a, b :: l => Nat.blt a b && pg_up b l
theorem pg_up_s : ∀ (l : List Nat) (a : Nat), pg_up a l = true → (∀ x, x ∈ l → a < x) ∧ l.Nodup := by
  intro l
  induction l with
  | nil => exact fun a _ => ⟨fun x hx => absurd hx List.not_mem_nil, List.nodup_nil⟩
  | cons b l ih =>
    intro a h
    rw [pg_up, Bool.and_eq_true] at h
    have hb : a < b := Nat.le_of_ble_eq_true h.1
    obtain ⟨h1, h2⟩ := ih b h.2
    refine ⟨fun x hx => ?_, List.nodup_cons.mpr ⟨fun hm => Nat.lt_irrefl b (h1 b hm), h2⟩⟩
    rcases List.mem_cons.mp hx with e | e
    · rw [e]; exact hb
    · exact Nat.lt_trans hb (h1 x e)
theorem pg_pl_up : pg_up 0 pg_PL = true := by decide +kernel
theorem pg_pl_nodup : pg_PL.Nodup := (pg_up_s _ _ pg_pl_up).2
/-! words of the cycle and the transposition -/
def pg_g2 (k : Nat) : Nat := if k = 0 then 7465 else 44785
def pg_ev : Nat → Nat → Nat
  | 0, _ => 44790
  | f + 1, w => if w ≤ 1 then 44790 else pg_mul (pg_ev f (w / 2)) (pg_g2 (w % 2))
theorem pg_wl_t : pg_WL.map (pg_ev 20) = pg_PL := by decide +kernel
theorem pg_ev_s {S : Nat → Prop} (h0 : S 44790) (hs : ∀ a j, S a → j < 2 → S (pg_mul a (pg_g2 j))) : ∀ f w, S (pg_ev f w) := by
  intro f
  induction f with
  | zero => exact fun _ => h0
  | succ f ih =>
    intro w
    rw [pg_ev]
    split
    · exact h0
    · exact hs _ _ (ih _) (Nat.mod_lt _ (by decide))
/-- what holds the identity and is closed under the two generators holds every permutation -/
theorem pg_all2 {S : Nat → Prop} (h0 : S 44790) (hs : ∀ a j, S a → j < 2 → S (pg_mul a (pg_g2 j))) {c : Nat} (h : pg_ip c) : S c := by
  have m := pg_pl_all h
  rw [← pg_wl_t] at m
  obtain ⟨w, _, rfl⟩ := List.mem_map.mp m
  exact pg_ev_s h0 hs 20 w
theorem pg_g2_ip : ∀ k, pg_ip (pg_g2 k) := by
  intro k
  unfold pg_g2
  split
  · exact ⟨by decide, by decide⟩
  · exact ⟨by decide, by decide⟩
end
section
/-! the search in breadth, and what its list is -/
theorem pg_len {l1 l2 : List Nat} (hn : l1.Nodup) (hs : ∀ x, x ∈ l1 → x ∈ l2) : l1.length ≤ l2.length := by
  induction l1 generalizing l2 with
  | nil => exact Nat.zero_le _
  | cons a t ih =>
    have ha : a ∈ l2 := hs a List.mem_cons_self
    obtain ⟨hn1, hn2⟩ := List.nodup_cons.mp hn
    have h := ih (l2 := l2.erase a) hn2 (fun x hx => by
      have hxa : x ≠ a := fun e => hn1 (e ▸ hx)
      exact (List.mem_erase_of_ne hxa).mpr (hs x (List.mem_cons_of_mem _ hx)))
    rw [List.length_erase_of_mem ha] at h
    have hp : 0 < l2.length := List.length_pos_of_mem ha
    rw [List.length_cons]
    omega
theorem pg_sur {l1 l2 : List Nat} (hn : l1.Nodup) (hs : ∀ x, x ∈ l1 → x ∈ l2) (hl : l2.length ≤ l1.length) {x : Nat} (hx : x ∈ l2) : x ∈ l1 := by
  refine Classical.byContradiction fun h => ?_
  have t := pg_len (l1 := x :: l1) (l2 := l2) (List.nodup_cons.mpr ⟨h, hn⟩) (fun y hy => by
    rcases List.mem_cons.mp hy with e | e
    · rw [e]; exact hx
    · exact hs y e)
  rw [List.length_cons] at t
  omega
theorem pg_same {l1 l2 : List Nat} (h1 : l1.Nodup) (h2 : l2.Nodup) (h : ∀ x, x ∈ l1 ↔ x ∈ l2) : l1.length = l2.length := Nat.le_antisymm (pg_len h1 (fun x => (h x).mp)) (pg_len h2 (fun x => (h x).mpr))
/-- put a code behind the list, if it is new and there is room -/
def pg_nt (L : List Nat) (g : Nat) : List Nat := if g ∈ L ∨ 720 ≤ L.length then L else L ++ [g]
theorem pg_nt_t {L : List Nat} {g : Nat} (h : g ∈ L ∨ 720 ≤ L.length) : pg_nt L g = L := if_pos h
theorem pg_nt_f {L : List Nat} {g : Nat} (h : ¬ (g ∈ L ∨ 720 ≤ L.length)) : pg_nt L g = L ++ [g] := if_neg h
theorem pg_nt_sub {L : List Nat} {g a : Nat} (h : a ∈ L) : a ∈ pg_nt L g := by
  unfold pg_nt
  split
  · exact h
  · exact List.mem_append_left _ h
theorem pg_nt_len {L : List Nat} {g : Nat} (h : L.length ≤ 720) : (pg_nt L g).length ≤ 720 := by
  unfold pg_nt
  split
  · exact h
  · rename_i hn
    rw [List.length_append, List.length_singleton]
    omega
theorem pg_nt_ge {L : List Nat} {g : Nat} : L.length ≤ (pg_nt L g).length := by
  unfold pg_nt
  split
  · exact Nat.le_refl _
  · rw [List.length_append]
    omega
theorem pg_get_app {L : List Nat} {g k : Nat} (h : k < L.length) : (L ++ [g]).getD k 0 = L.getD k 0 := by
  rw [List.getD_eq_getElem?_getD, List.getD_eq_getElem?_getD, List.getElem?_append_left h]
theorem pg_get_end {L : List Nat} {g : Nat} : (L ++ [g]).getD L.length 0 = g := by
  rw [List.getD_eq_getElem?_getD, List.getElem?_append_right (Nat.le_refl _), Nat.sub_self]
  rfl
theorem pg_get_mem {L : List Nat} {k : Nat} (h : k < L.length) : L.getD k 0 ∈ L := by
  rw [List.getD_eq_getElem?_getD, List.getElem?_eq_getElem h]
  exact List.getElem_mem h
theorem pg_mem_get {L : List Nat} {a : Nat} (h : a ∈ L) : ∃ k, k < L.length ∧ L.getD k 0 = a := by
  obtain ⟨k, hk, e⟩ := List.getElem_of_mem h
  refine ⟨k, hk, ?_⟩
  rw [List.getD_eq_getElem?_getD, List.getElem?_eq_getElem hk]
  exact e
theorem pg_nt_get {L : List Nat} {g k : Nat} (h : k < L.length) : (pg_nt L g).getD k 0 = L.getD k 0 := by
  unfold pg_nt
  split
  · rfl
  · exact pg_get_app h
theorem pg_nt_mem {L : List Nat} {g a : Nat} (h : a ∈ pg_nt L g) : a ∈ L ∨ a = g := by
  unfold pg_nt at h
  split at h
  · exact Or.inl h
  · rcases List.mem_append.mp h with e | e
    · exact Or.inl e
    · exact Or.inr (List.mem_singleton.mp e)
theorem pg_nt_nodup {L : List Nat} {g : Nat} (h : L.Nodup) : (pg_nt L g).Nodup := by
  unfold pg_nt
  split
  · exact h
  · rename_i hn
    refine List.nodup_append.mpr ⟨h, List.nodup_cons.mpr ⟨List.not_mem_nil, List.nodup_nil⟩, fun a ha b hb e => ?_⟩
    rw [List.mem_singleton.mp hb] at e
    exact hn (Or.inl (e ▸ ha))
theorem pg_full {L : List Nat} {g : Nat} (hn : L.Nodup) (hp : ∀ a, a ∈ L → pg_ip a) (hl : 720 ≤ L.length) (hg : pg_ip g) : g ∈ L := pg_sur hn (fun x hx => pg_pl_all (hp x hx)) (by rw [pg_pl_len]; exact hl) (pg_pl_all hg)
theorem pg_nt_in {L : List Nat} {g : Nat} (hn : L.Nodup) (hp : ∀ a, a ∈ L → pg_ip a) (hg : pg_ip g) : g ∈ pg_nt L g := by
  by_cases h : g ∈ L ∨ 720 ≤ L.length
  · rw [pg_nt_t h]
    rcases h with h | h
    · exact h
    · exact pg_full hn hp h hg
  · rw [pg_nt_f h]
    exact List.mem_append_right _ (List.mem_singleton.mpr rfl)
/-- the inner loop: r generators left, the next is number j, the element is number i -/
def pg_in (G : Nat → Nat) (i : Nat) : Nat → Nat → List Nat → List Nat
  | 0, _, L => L
  | r + 1, j, L => pg_in G i r (j + 1) (pg_nt L (pg_mul (L.getD i 0) (G j)))
def pg_bl (G : Nat → Nat) (m : Nat) : Nat → Nat → List Nat → List Nat
  | 0, _, L => L
  | f + 1, i, L => if i < L.length then pg_bl G m f (i + 1) (pg_in G i m 0 L) else L
def pg_gr (G : Nat → Nat) (m : Nat) : List Nat := pg_bl G m 720 0 [44790]
/-- a list as the search holds it -/
def pg_W (L : List Nat) : Prop := L.Nodup ∧ (∀ a, a ∈ L → pg_ip a) ∧ L.length ≤ 720 ∧ 44790 ∈ L
theorem pg_nt_W {L : List Nat} {g : Nat} (h : pg_W L) (hg : pg_ip g) : pg_W (pg_nt L g) := by
  refine ⟨pg_nt_nodup h.1, fun a ha => ?_, pg_nt_len h.2.2.1, pg_nt_sub h.2.2.2⟩
  rcases pg_nt_mem ha with e | e
  · exact h.2.1 a e
  · rw [e]; exact hg
theorem pg_in_s {G : Nat → Nat} {m i : Nat} (hG : ∀ j, j < m → pg_ip (G j)) (S : Nat → Prop) (hS : ∀ a j, S a → j < m → S (pg_mul a (G j))) : ∀ r j L, j + r = m → i < L.length → pg_W L → (∀ a, a ∈ L → S a) → pg_W (pg_in G i r j L) ∧ (∀ a, a ∈ pg_in G i r j L → S a) ∧ (∀ a, a ∈ L → a ∈ pg_in G i r j L) ∧ L.length ≤ (pg_in G i r j L).length ∧ (∀ k, k < L.length → (pg_in G i r j L).getD k 0 = L.getD k 0) ∧ (∀ q, j ≤ q → q < m → pg_mul (L.getD i 0) (G q) ∈ pg_in G i r j L) := by
  intro r
  induction r with
  | zero =>
    intro j L hj hi hW hs
    exact ⟨hW, hs, fun _ h => h, Nat.le_refl _, fun _ _ => rfl, fun q h1 h2 => absurd h1 (by omega)⟩
  | succ r ih =>
    intro j L hj hi hW hs
    have hjm : j < m := by omega
    have ha : L.getD i 0 ∈ L := pg_get_mem hi
    have hp : pg_ip (pg_mul (L.getD i 0) (G j)) := pg_ip_mul (hW.2.1 _ ha) (hG j hjm)
    have hge : L.length ≤ (pg_nt L (pg_mul (L.getD i 0) (G j))).length := pg_nt_ge
    obtain ⟨a1, a2, a3, a4, a5, a6⟩ := ih (j + 1) (pg_nt L (pg_mul (L.getD i 0) (G j))) (by omega) (by omega) (pg_nt_W hW hp) (fun a h => by
      rcases pg_nt_mem h with e | e
      · exact hs a e
      · rw [e]; exact hS _ _ (hs _ ha) hjm)
    rw [pg_in]
    refine ⟨a1, a2, fun a h => a3 a (pg_nt_sub h), by omega, fun k hk => ?_, fun q h1 h2 => ?_⟩
    · rw [a5 k (by omega), pg_nt_get hk]
    · by_cases e : q = j
      · rw [e]
        exact a3 _ (pg_nt_in hW.1 hW.2.1 hp)
      · have t := a6 q (by omega) h2
        rw [pg_nt_get hi] at t
        exact t
theorem pg_bl_s {G : Nat → Nat} {m : Nat} (hG : ∀ j, j < m → pg_ip (G j)) (S : Nat → Prop) (hS : ∀ a j, S a → j < m → S (pg_mul a (G j))) : ∀ f i L, i + f = 720 → pg_W L → (∀ a, a ∈ L → S a) → (∀ k, k < i → k < L.length → ∀ q, q < m → pg_mul (L.getD k 0) (G q) ∈ L) → pg_W (pg_bl G m f i L) ∧ (∀ a, a ∈ pg_bl G m f i L → S a) ∧ (∀ a, a ∈ pg_bl G m f i L → ∀ q, q < m → pg_mul a (G q) ∈ pg_bl G m f i L) := by
  intro f
  induction f with
  | zero =>
    intro i L hi hW hs hc
    refine ⟨hW, hs, fun a ha q hq => ?_⟩
    obtain ⟨k, hk, e⟩ := pg_mem_get (L := L) ha
    have hl := hW.2.2.1
    have t := hc k (by omega) hk q hq
    rw [e] at t
    exact t
  | succ f ih =>
    intro i L hi hW hs hc
    rw [pg_bl]
    by_cases h : i < L.length
    · rw [if_pos h]
      obtain ⟨a1, a2, a3, a4, a5, a6⟩ := pg_in_s hG S hS m 0 L (Nat.zero_add m) h hW hs
      refine ih (i + 1) _ (by omega) a1 a2 fun k hk hk2 q hq => ?_
      by_cases e : k = i
      · rw [e, a5 i h]
        exact a6 q (Nat.zero_le q) hq
      · rw [a5 k (by omega)]
        exact a3 _ (hc k (by omega) (by omega) q hq)
    · rw [if_neg h]
      refine ⟨hW, hs, fun a ha q hq => ?_⟩
      obtain ⟨k, hk, e⟩ := pg_mem_get (L := L) ha
      have t := hc k (by omega) hk q hq
      rw [e] at t
      exact t
theorem pg_W0 : pg_W [44790] := ⟨List.nodup_cons.mpr ⟨List.not_mem_nil, List.nodup_nil⟩, fun a ha => by rw [List.mem_singleton.mp ha]; exact pg_ip_id, by decide, List.mem_singleton.mpr rfl⟩
theorem pg_gr_ind {G : Nat → Nat} {m : Nat} (hG : ∀ j, j < m → pg_ip (G j)) {S : Nat → Prop} (h0 : S 44790) (hS : ∀ a j, S a → j < m → S (pg_mul a (G j))) : ∀ a, a ∈ pg_gr G m → S a := (pg_bl_s hG S hS 720 0 [44790] (by decide) pg_W0 (fun a ha => by rw [List.mem_singleton.mp ha]; exact h0) (fun k hk => absurd hk (Nat.not_lt_zero k))).2.1
theorem pg_gr_W {G : Nat → Nat} {m : Nat} (hG : ∀ j, j < m → pg_ip (G j)) : pg_W (pg_gr G m) := (pg_bl_s hG (fun _ => True) (fun _ _ _ _ => trivial) 720 0 [44790] (by decide) pg_W0 (fun _ _ => trivial) (fun k hk => absurd hk (Nat.not_lt_zero k))).1
theorem pg_gr_cl {G : Nat → Nat} {m : Nat} (hG : ∀ j, j < m → pg_ip (G j)) : ∀ a, a ∈ pg_gr G m → ∀ q, q < m → pg_mul a (G q) ∈ pg_gr G m := (pg_bl_s hG (fun _ => True) (fun _ _ _ _ => trivial) 720 0 [44790] (by decide) pg_W0 (fun _ _ => trivial) (fun k hk => absurd hk (Nat.not_lt_zero k))).2.2
/-! it is a group -/
theorem pg_gr_gen {G : Nat → Nat} {m : Nat} (hG : ∀ j, j < m → pg_ip (G j)) {q : Nat} (hq : q < m) : G q ∈ pg_gr G m := by
  have t := pg_gr_cl hG 44790 (pg_gr_W hG).2.2.2 q hq
  rw [pg_id_mul (hG q hq).1] at t
  exact t
theorem pg_gr_mul {G : Nat → Nat} {m : Nat} (hG : ∀ j, j < m → pg_ip (G j)) {a b : Nat} (ha : a ∈ pg_gr G m) (hb : b ∈ pg_gr G m) : pg_mul a b ∈ pg_gr G m := by
  refine pg_gr_ind hG (S := fun b => pg_mul a b ∈ pg_gr G m) ?_ (fun c j hc hj => ?_) b hb
  · show pg_mul a 44790 ∈ pg_gr G m
    rw [pg_mul_id ((pg_gr_W hG).2.1 a ha).1]
    exact ha
  · show pg_mul a (pg_mul c (G j)) ∈ pg_gr G m
    rw [← pg_assoc]
    exact pg_gr_cl hG _ hc j hj
theorem pg_cancel {a b c : Nat} (ha : a < 46656) (hb : b < 46656) (hc : pg_ip c) (h : pg_mul a c = pg_mul b c) : a = b := by
  have t : pg_mul (pg_mul a c) (pg_inv c) = pg_mul (pg_mul b c) (pg_inv c) := by rw [h]
  rw [pg_assoc, pg_assoc, (pg_ok_of hc).1, pg_mul_id ha, pg_mul_id hb] at t
  exact t
theorem pg_nodup_map {f : Nat → Nat} : ∀ {l : List Nat}, l.Nodup → (∀ a b, a ∈ l → b ∈ l → f a = f b → a = b) → (l.map f).Nodup := by
  intro l
  induction l with
  | nil => exact fun _ _ => List.nodup_nil
  | cons a t ih =>
    intro hn hf
    obtain ⟨h1, h2⟩ := List.nodup_cons.mp hn
    rw [List.map_cons]
    refine List.nodup_cons.mpr ⟨fun hm => ?_, ih h2 (fun x y hx hy => hf x y (List.mem_cons_of_mem _ hx) (List.mem_cons_of_mem _ hy))⟩
    obtain ⟨b, hb, e⟩ := List.mem_map.mp hm
    have eb := hf b a (List.mem_cons_of_mem _ hb) List.mem_cons_self e
    exact h1 (eb ▸ hb)
theorem pg_gr_inv {G : Nat → Nat} {m : Nat} (hG : ∀ j, j < m → pg_ip (G j)) {a : Nat} (ha : a ∈ pg_gr G m) : ∃ b, b ∈ pg_gr G m ∧ pg_mul b a = 44790 := by
  have hW := pg_gr_W hG
  have hm : 44790 ∈ (pg_gr G m).map (fun b => pg_mul b a) := by
    refine pg_sur (l2 := pg_gr G m) (pg_nodup_map hW.1 fun x y hx hy e => pg_cancel (hW.2.1 x hx).1 (hW.2.1 y hy).1 (hW.2.1 a ha) e) (fun x hx => ?_) (Nat.le_of_eq (List.length_map _).symm) hW.2.2.2
    obtain ⟨b, hb, e⟩ := List.mem_map.mp hx
    rw [← e]
    exact pg_gr_mul hG hb ha
  obtain ⟨b, hb, e⟩ := List.mem_map.mp hm
  exact ⟨b, hb, e⟩
/-! who carries x into y -/
def pg_or (L : List Nat) (x y : Nat) : Prop := ∃ a, a ∈ L ∧ pg_dg a x = y
theorem pg_or_refl {G : Nat → Nat} {m : Nat} (hG : ∀ j, j < m → pg_ip (G j)) {x : Nat} (hx : x < 6) : pg_or (pg_gr G m) x x := ⟨44790, (pg_gr_W hG).2.2.2, pg_id_dg x hx⟩
theorem pg_or_trans {G : Nat → Nat} {m : Nat} (hG : ∀ j, j < m → pg_ip (G j)) {x y z : Nat} (hx : x < 6) (h1 : pg_or (pg_gr G m) x y) (h2 : pg_or (pg_gr G m) y z) : pg_or (pg_gr G m) x z := by
  obtain ⟨a, ha, ea⟩ := h1
  obtain ⟨b, hb, eb⟩ := h2
  exact ⟨pg_mul a b, pg_gr_mul hG ha hb, by rw [pg_mul_dg _ _ hx, ea, eb]⟩
theorem pg_dg_inj {a x y : Nat} (ha : pg_ip a) (hx : x < 6) (hy : y < 6) (h : pg_dg a x = pg_dg a y) : x = y := by
  have e := (pg_ok_of ha).1
  have e1 : pg_dg (pg_mul a (pg_inv a)) x = x := by rw [e]; exact pg_id_dg x hx
  have e2 : pg_dg (pg_mul a (pg_inv a)) y = y := by rw [e]; exact pg_id_dg y hy
  rw [pg_mul_dg _ _ hx] at e1
  rw [pg_mul_dg _ _ hy, ← h] at e2
  exact e1.symm.trans e2
theorem pg_or_symm {G : Nat → Nat} {m : Nat} (hG : ∀ j, j < m → pg_ip (G j)) {x y : Nat} (hx : x < 6) (hy : y < 6) (h : pg_or (pg_gr G m) x y) : pg_or (pg_gr G m) y x := by
  obtain ⟨a, ha, ea⟩ := h
  obtain ⟨b, hb, eb⟩ := pg_gr_inv hG ha
  refine ⟨b, hb, pg_dg_inj ((pg_gr_W hG).2.1 a ha) (pg_dg_lt b y) hx ?_⟩
  rw [← pg_mul_dg _ _ hy, eb, ea, pg_id_dg y hy]
/-! conjugates -/
def pg_cj (g h : Nat) : Nat := pg_mul (pg_mul (pg_inv h) g) h
theorem pg_ip_cj {g h : Nat} (hg : pg_ip g) (hh : pg_ip h) : pg_ip (pg_cj g h) := pg_ip_mul (pg_ip_mul (pg_ok_of hh).2.2 hg) hh
theorem pg_cj_eq {g h k : Nat} (hg : g < 46656) (hh : pg_ip h) (hk : k < 46656) : pg_cj g h = k ↔ pg_mul g h = pg_mul h k := by
  obtain ⟨o1, o2, o3⟩ := pg_ok_of hh
  constructor
  · intro e
    rw [← e]
    unfold pg_cj
    rw [pg_assoc, ← pg_assoc, o1, pg_id_mul (pg_mul_lt _ _)]
  · intro e
    unfold pg_cj
    rw [pg_assoc, e, ← pg_assoc, o2, pg_id_mul hk]
/-! the centre and the generators -/
theorem pg_comm {G : Nat → Nat} {m : Nat} (hG : ∀ j, j < m → pg_ip (G j)) : (∀ i, i < m → ∀ j, j < m → pg_mul (G i) (G j) = pg_mul (G j) (G i)) ↔ (∀ a, a ∈ pg_gr G m → ∀ j, j < m → pg_mul a (G j) = pg_mul (G j) a) := by
  constructor
  · intro h
    refine pg_gr_ind hG (S := fun a => ∀ j, j < m → pg_mul a (G j) = pg_mul (G j) a) (fun j hj => ?_) (fun a i ha hi j hj => ?_)
    · rw [pg_id_mul (hG j hj).1, pg_mul_id (hG j hj).1]
    · rw [pg_assoc, h i hi j hj, ← pg_assoc, ha j hj, pg_assoc]
  · intro h i hi j hj
    exact h _ (pg_gr_gen hG hi) j hj
/-! the two generators of all -/
theorem pg_g2_all {c : Nat} : c ∈ pg_gr pg_g2 2 ↔ pg_ip c := by
  have hG : ∀ j, j < 2 → pg_ip (pg_g2 j) := fun j _ => pg_g2_ip j
  constructor
  · exact (pg_gr_W hG).2.1 c
  · exact fun h => pg_all2 (S := fun c => c ∈ pg_gr pg_g2 2) (pg_gr_W hG).2.2.2 (fun a j ha hj => pg_gr_cl hG a ha j hj) h
theorem pg_g2_len : (pg_gr pg_g2 2).length = 720 := by
  have hG : ∀ j, j < 2 → pg_ip (pg_g2 j) := fun j _ => pg_g2_ip j
  rw [← pg_pl_len]
  exact pg_same (pg_gr_W hG).1 pg_pl_nodup fun x => ⟨fun h => pg_pl_all (pg_g2_all.mp h), fun h => pg_g2_all.mpr (pg_pl_ip h)⟩
/-- the codes that are permutations, counted where p holds, over all codes and over the table -/
theorem pg_count (p : Nat → Bool) (q : Nat → Bool) (hq : ∀ c, c < 46656 → (q c = true ↔ pg_ip c ∧ p c = true)) : (List.range 46656).countP q = (pg_gr pg_g2 2).countP p := by
  have hG : ∀ j, j < 2 → pg_ip (pg_g2 j) := fun j _ => pg_g2_ip j
  rw [List.countP_eq_length_filter, List.countP_eq_length_filter]
  refine pg_same (List.Pairwise.filter _ List.nodup_range) (List.Pairwise.filter _ (pg_gr_W hG).1) fun x => ?_
  rw [List.mem_filter, List.mem_filter, pg_g2_all, List.mem_range]
  constructor
  · exact fun h => (hq x h.1).mp h.2
  · exact fun h => ⟨h.1.1, (hq x h.1.1).mpr h⟩
end
section
/-! rows pasted from kit/rows (pk_, bt, b_, s_, nx_), then this claim's own rows on bits -/
theorem pk_us {f : Nat → Int32} {k : Nat} {x : Int32} : upd f k x k = x := if_pos rfl
theorem pk_un {f : Nat → Int32} {k j : Nat} {x : Int32} (h : j ≠ k) : upd f k x j = f j := if_neg h
theorem pk_sub {a b : Nat} (h : b ≤ a) : nI a - nI b = nI (a - b) := by
  obtain ⟨c, rfl⟩ : ∃ c, a = c + b := ⟨a - b, by omega⟩
  rw [← nI_add, Int32.add_sub_cancel, Nat.add_sub_cancel]
theorem pk_m1 (n : Nat) : nI (n + 1) + (-1) = nI n := by
  rw [← nI_1, Int32.add_assoc, show (1 : Int32) + (-1) = 0 from rfl, Int32.add_zero]
theorem pk_mul (a b : Nat) : nI a * nI b = nI (a * b) := (Int32.ofNat_mul a b).symm
theorem pk_div {a d : Nat} (ha : a < 2 ^ 31) (h0 : 0 < d) (hd : d < 2 ^ 31) : nI a / nI d = nI (a / d) := by
  apply Int32.toInt_inj.mp
  rw [lg_idiv_nonneg (by rw [nI_toInt ha]; omega) (by rw [nI_toInt hd]; omega), nI_toInt ha, nI_toInt hd, nI_toInt (Nat.lt_of_le_of_lt (Nat.div_le_self a d) ha)]
  first | rfl | exact (Int.natCast_ediv _ _).symm
theorem pk_rem {a d : Nat} (ha : a < 2 ^ 31) (h0 : 0 < d) (hd : d < 2 ^ 31) : nI a - nI a / nI d * nI d = nI (a % d) := by
  rw [pk_div ha h0 hd, pk_mul, pk_sub (Nat.div_mul_le_self a d)]
  exact congrArg nI (by have := Nat.div_add_mod' a d; omega)
theorem pk_le {x y : Int32} {A B : Prop} (a b : Nat) (f : a ≤ b → A) (g : b < a → B) (hx : x = nI a := by rfl) (hy : y = nI b := by rfl) (ha : a < 2 ^ 31 := by omega) (hb : b < 2 ^ 31 := by omega) : (x ≤ y → A) ∧ (¬ x ≤ y → B) := by
  subst hx hy
  rw [nI_leI ha hb]
  exact ⟨f, fun z => g (by omega)⟩
theorem pk_lt {x y : Int32} {A B : Prop} (a b : Nat) (f : a < b → A) (g : b ≤ a → B) (hx : x = nI a := by rfl) (hy : y = nI b := by rfl) (ha : a < 2 ^ 31 := by omega) (hb : b < 2 ^ 31 := by omega) : (x < y → A) ∧ (¬ x < y → B) := by
  subst hx hy
  rw [nI_ltI ha hb]
  exact ⟨f, fun z => g (by omega)⟩
theorem pk_eq {x y : Int32} {A B : Prop} (a b : Nat) (f : a = b → A) (g : a ≠ b → B) (hx : x = nI a := by rfl) (hy : y = nI b := by rfl) (ha : a < 2 ^ 31 := by omega) (hb : b < 2 ^ 31 := by omega) : (x = y → A) ∧ (¬ x = y → B) := by
  subst hx hy
  rw [nI_eq ha hb]
  exact ⟨f, g⟩
theorem pk_in {x : Int32} (n N : Nat) (h : n < N) (hx : x = nI n := by rfl) (hN : N < 2 ^ 31 := by omega) : vp_in x N := by
  subst hx
  exact vp_in_nI h hN
theorem pk_cl {x : Int32} (n : Nat) (hx : x = nI n := by rfl) (h : n < 2 ^ 31 := by omega) : x.toNatClampNeg = n := by
  subst hx
  exact nI_clamp h
theorem pk_tn {n : Nat} (h : n < 2 ^ 32) : (nI n).toBitVec.toNat = n := Nat.mod_eq_of_lt h
def bt (x : Int32) (i : Nat) : Bool := x.toBitVec.getLsbD i
theorem b_ext {x y : Int32} (h : ∀ i, i < 32 → bt x i = bt y i) : x = y := Int32.toBitVec_inj.mp (BitVec.eq_of_getLsbD_eq (fun i hi => h i hi))
theorem b_or (x y : Int32) (i : Nat) : bt (x ||| y) i = (bt x i || bt y i) := by unfold bt; rw [Int32.toBitVec_or, BitVec.getLsbD_or]
theorem b_and (x y : Int32) (i : Nat) : bt (x &&& y) i = (bt x i && bt y i) := by unfold bt; rw [Int32.toBitVec_and, BitVec.getLsbD_and]
theorem b_big {x : Int32} {i : Nat} (h : 32 ≤ i) : bt x i = false := BitVec.getLsbD_of_ge _ _ h
theorem b_0 (i : Nat) : bt 0 i = false := BitVec.getLsbD_zero
theorem s_l : ∀ n, n < 32 → ((nI n &&& 31).toBitVec.smod 32).toNat = n := by decide +kernel
theorem b_shl (n : Nat) (hn : n < 32) (x : Int32) {i : Nat} (hi : i < 32) : bt (x <<< (nI n &&& 31)) i = (decide (n ≤ i) && bt x (i - n)) := by
  unfold bt
  rw [Int32.toBitVec_shiftLeft]
  show (x.toBitVec <<< ((nI n &&& 31).toBitVec.smod 32).toNat).getLsbD i = _
  rw [s_l n hn, BitVec.getLsbD_shiftLeft]
  rcases Nat.lt_or_ge i n with h | h
  · simp [h, Nat.not_le.mpr h]
  · simp [hi, h, Nat.not_lt.mpr h]
theorem b_sshr (n : Nat) (hn : n < 32) (x : Int32) {i : Nat} (hi : i < 32) : bt (x >>> (nI n &&& 31)) i = if n + i < 32 then bt x (n + i) else bt x 31 := by
  unfold bt
  rw [Int32.toBitVec_shiftRight]
  show (x.toBitVec.sshiftRight ((nI n &&& 31).toBitVec.smod 32).toNat).getLsbD i = _
  rw [s_l n hn, BitVec.getLsbD_sshiftRight, BitVec.msb_eq_getLsbD_last]
  simp [hi]
theorem nx_and (a b : Nat) : nI a &&& nI b = nI (a &&& b) := by
  apply Int32.toBitVec_inj.1
  show BitVec.ofNat 32 a &&& BitVec.ofNat 32 b = BitVec.ofNat 32 (a &&& b)
  apply BitVec.eq_of_getLsbD_eq
  intro i hi
  simp [hi]
/-! this claim's own -/
theorem pg_nor (a b : Nat) : nI a ||| nI b = nI (a ||| b) := by
  apply Int32.toBitVec_inj.1
  show BitVec.ofNat 32 a ||| BitVec.ofNat 32 b = BitVec.ofNat 32 (a ||| b)
  apply BitVec.eq_of_getLsbD_eq
  intro i hi
  simp [hi]
theorem pg_sh1 : ∀ d, d < 31 → (1 : Int32) <<< (nI d &&& 31) = nI (2 ^ d) := by decide +kernel
theorem pg_bt1 (i : Nat) : bt 1 i = decide (i = 0) := by
  rcases Nat.lt_or_ge i 32 with h | h
  · exact (by decide +kernel : ∀ i, i < 32 → bt 1 i = decide (i = 0)) i h
  · rw [b_big h, decide_eq_false (by omega)]
theorem pg_b1 (x : Int32) : x &&& 1 = 1 ↔ bt x 0 = true := by
  constructor
  · intro h
    have t : bt (x &&& 1) 0 = bt 1 0 := by rw [h]
    rw [b_and, pg_bt1, decide_eq_true rfl, Bool.and_true] at t
    exact t
  · intro h
    refine b_ext fun i hi => ?_
    rw [b_and, pg_bt1]
    by_cases e : i = 0
    · rw [e, h, decide_eq_true rfl]; rfl
    · rw [decide_eq_false e, Bool.and_false]
theorem pg_b0 (x : Int32) : x &&& 1 = 0 ↔ bt x 0 = false := by
  constructor
  · intro h
    have t : bt (x &&& 1) 0 = bt 0 0 := by rw [h]
    rw [b_and, pg_bt1, decide_eq_true rfl, Bool.and_true, b_0] at t
    exact t
  · intro h
    refine b_ext fun i hi => ?_
    rw [b_and, pg_bt1, b_0]
    by_cases e : i = 0
    · rw [e, h]; rfl
    · rw [decide_eq_false e, Bool.and_false]
theorem pg_bsh {n : Nat} (hn : n < 32) (x : Int32) : bt (x >>> (nI n &&& 31)) 0 = bt x n := by
  rw [b_sshr n hn x (by decide), if_pos (by omega), Nat.add_zero]
/-- bit n of x is one -/
theorem pg_bit1 {n : Nat} (hn : n < 32) (x : Int32) : (x >>> (nI n &&& 31)) &&& 1 = 1 ↔ bt x n = true := by rw [pg_b1, pg_bsh hn]
theorem pg_bit0 {n : Nat} (hn : n < 32) (x : Int32) : (x >>> (nI n &&& 31)) &&& 1 = 0 ↔ bt x n = false := by rw [pg_b0, pg_bsh hn]
theorem pg_b2 {d : Nat} (hd : d < 32) {i : Nat} (hi : i < 32) : bt ((1 : Int32) <<< (nI d &&& 31)) i = decide (d = i) := by
  rw [b_shl d hd 1 hi, pg_bt1]
  by_cases h : d = i
  · rw [h, decide_eq_true (Nat.le_refl i), Nat.sub_self]; simp
  · rw [decide_eq_false h]
    by_cases h2 : d ≤ i
    · rw [decide_eq_false (p := i - d = 0) (by omega), Bool.and_false]
    · rw [decide_eq_false h2, Bool.false_and]
/-- the mask of the points below x -/
theorem pg_low : ∀ x, x < 6 → ∀ i, i < 32 → bt (((1 : Int32) <<< (nI x &&& 31)) - 1) i = decide (i < x) := by decide +kernel
theorem pg_and0 (x y : Int32) : x &&& y = 0 ↔ ∀ i, i < 32 → ¬ (bt x i = true ∧ bt y i = true) := by
  constructor
  · intro h i hi hb
    have t : bt (x &&& y) i = bt 0 i := by rw [h]
    rw [b_and, b_0, hb.1, hb.2] at t
    exact absurd t (by decide)
  · intro h
    refine b_ext fun i hi => ?_
    rw [b_and, b_0]
    have t := h i hi
    revert t
    cases bt x i <;> cases bt y i <;> simp
/-! bits of a long -/
theorem pg_l64 : ∀ n, n < 64 → (((nI n).toInt64 &&& 63).toBitVec.smod 64).toNat = n := by decide +kernel
theorem pg_u64 : ∀ n, n < 64 → (((nI n).toInt64.toUInt64 &&& Int64.toUInt64 63).toBitVec % 64).toNat = n := by decide +kernel
theorem pg_lsh {n : Nat} (hn : n < 64) (x : Int64) : (x.toUInt64 >>> ((nI n).toInt64.toUInt64 &&& Int64.toUInt64 63)).toInt64 &&& 1 = (x >>> ((nI n).toInt64 &&& 63)) &&& 1 := by
  apply Int64.toBitVec_inj.mp
  rw [Int64.toBitVec_and, Int64.toBitVec_and, Int64.toBitVec_shiftRight]
  have e1 : ((x.toUInt64 >>> ((nI n).toInt64.toUInt64 &&& Int64.toUInt64 63)).toInt64).toBitVec = x.toBitVec >>> n := by
    show x.toBitVec >>> (((nI n).toInt64.toUInt64 &&& Int64.toUInt64 63).toBitVec % 64) = x.toBitVec >>> n
    rw [BitVec.ushiftRight_eq', pg_u64 n hn]
  have e2 : x.toBitVec.sshiftRight' (((nI n).toInt64 &&& 63).toBitVec.smod 64) = x.toBitVec.sshiftRight n := by
    show x.toBitVec.sshiftRight (((nI n).toInt64 &&& 63).toBitVec.smod 64).toNat = _
    rw [pg_l64 n hn]
  rw [e1, e2]
  apply BitVec.eq_of_getLsbD_eq
  intro i hi
  show ((x.toBitVec >>> n) &&& 1#64).getLsbD i = ((x.toBitVec.sshiftRight n) &&& 1#64).getLsbD i
  rw [BitVec.getLsbD_and, BitVec.getLsbD_and]
  by_cases h : i = 0
  · rw [h, BitVec.getLsbD_ushiftRight, BitVec.getLsbD_sshiftRight]
    simp [hn]
  · have z : (1#64).getLsbD i = false := by
      rw [BitVec.getLsbD_one]
      simp [h]
    rw [z, Bool.and_false, Bool.and_false]
end
section
/-! loops, once for all -/
def pg_fo {σ : Type} (st : Nat → σ → σ) : Nat → σ → σ
  | 0, s => s
  | i + 1, s => st i (pg_fo st i s)
theorem pg_fl {σ : Type} (W : Nat → Nat → σ → Prop) (st : Nat → σ → σ) (N : Nat) (s0 : σ) (hs : ∀ n i s, i < N → W n (i + 1) (st i s) → W (n + 1) i s) (hx : ∀ n, W (n + 1) N (pg_fo st N s0)) : ∃ n, W n 0 s0 := by
  have key : ∀ d i n, i + d = N → d < n → W n i (pg_fo st i s0) := by
    intro d
    induction d with
    | zero =>
      intro i n hi hn
      obtain ⟨n', rfl⟩ : ∃ n', n = n' + 1 := ⟨n - 1, by omega⟩
      have e : i = N := by omega
      rw [e]
      exact hx n'
    | succ d ih =>
      intro i n hi hn
      obtain ⟨n', rfl⟩ : ∃ n', n = n' + 1 := ⟨n - 1, by omega⟩
      exact hs n' i _ (by omega) (ih (i + 1) n' (by omega) (by omega))
  exact ⟨N + 1, key N 0 (N + 1) (by omega) (by omega)⟩
theorem pg_ul (W : Nat → Nat → Prop) (N : Nat) (hs : ∀ n i, i < N → W n (i + 1) → W (n + 1) i) (hx : ∀ n, W (n + 1) N) : ∃ n, W n 0 := pg_fl (fun n i (_ : Unit) => W n i) (fun _ s => s) N () (fun n i _ h w => hs n i h w) hx
/-- a loop that goes on while P holds: A at its end, B where P fails -/
theorem pg_al2 (W : Nat → Nat → Prop) (P : Nat → Prop) (N : Nat) (A B : Prop) (hx : ∀ n, A → W (n + 1) N) (ht : ∀ n i, i < N → P i → W n (i + 1) → W (n + 1) i) (hf : ∀ n i, i < N → ¬ P i → B → W (n + 1) i) (hA : (∀ i, i < N → P i) → A) (hB : (¬ ∀ i, i < N → P i) → B) : ∃ n, W n 0 := by
  have key : ∀ d i n, i + d = N → d < n → (∀ j, j < i → P j) → W n i := by
    intro d
    induction d with
    | zero =>
      intro i n hi hn hp
      obtain ⟨n', rfl⟩ : ∃ n', n = n' + 1 := ⟨n - 1, by omega⟩
      have e : i = N := by omega
      rw [e] at hp
      rw [e]
      exact hx n' (hA hp)
    | succ d ih =>
      intro i n hi hn hp
      obtain ⟨n', rfl⟩ : ∃ n', n = n' + 1 := ⟨n - 1, by omega⟩
      by_cases h : P i
      · refine ht n' i (by omega) h (ih (i + 1) n' (by omega) (by omega) fun j hj => ?_)
        by_cases e : j = i
        · rw [e]; exact h
        · exact hp j (by omega)
      · exact hf n' i (by omega) h (hB fun z => h (z i (by omega)))
  exact ⟨N + 1, key N 0 (N + 1) (by omega) (by omega) (fun j hj => absurd hj (Nat.not_lt_zero j))⟩
/-- how many i below N have p -/
def pg_cn (p : Nat → Bool) (N : Nat) : Nat := pg_fo (fun i s => if p i = true then s + 1 else s) N 0
theorem pg_cnl (W : Nat → Nat → Nat → Prop) (p : Nat → Bool) (N : Nat) (ht : ∀ n i s, i < N → p i = true → W n (i + 1) (s + 1) → W (n + 1) i s) (hf : ∀ n i s, i < N → p i = false → W n (i + 1) s → W (n + 1) i s) (hx : ∀ n, W (n + 1) N (pg_cn p N)) : ∃ n, W n 0 0 := by
  refine pg_fl W (fun i s => if p i = true then s + 1 else s) N 0 (fun n i s hi hw => ?_) hx
  cases hp : p i
  · rw [if_neg (by rw [hp]; decide)] at hw
    exact hf n i s hi hp hw
  · rw [if_pos hp] at hw
    exact ht n i s hi hp hw
theorem pg_cn_range (p : Nat → Bool) : ∀ N, pg_cn p N = (List.range N).countP p := by
  intro N
  induction N with
  | zero => rfl
  | succ N ih =>
    rw [List.range_succ, List.countP_append, ← ih]
    show (if p N = true then pg_cn p N + 1 else pg_cn p N) = _
    rw [List.countP_singleton]
    split <;> rfl
theorem pg_list_range (L : List Nat) : L = (List.range L.length).map (fun i => L.getD i 0) := by
  refine List.ext_getElem (by rw [List.length_map, List.length_range]) fun i h1 h2 => ?_
  rw [List.getElem_map, List.getElem_range, List.getD_eq_getElem?_getD, List.getElem?_eq_getElem h1]
  rfl
theorem pg_cn_list (p : Nat → Bool) (L : List Nat) : pg_cn (fun i => p (L.getD i 0)) L.length = L.countP p := by
  have e := congrArg (List.countP p) (pg_list_range L)
  rw [List.countP_map] at e
  rw [pg_cn_range, e]
  rfl
theorem pg_cn_le (p : Nat → Bool) (N : Nat) : pg_cn p N ≤ N := by
  rw [pg_cn_range]
  exact Nat.le_trans List.countP_le_length (Nat.le_of_eq List.length_range)
theorem pg_cn_congr {p q : Nat → Bool} {N : Nat} (h : ∀ i, i < N → p i = q i) : pg_cn p N = pg_cn q N := by
  rw [pg_cn_range, pg_cn_range]
  refine List.countP_congr fun x hx => ?_
  rw [h x (List.mem_range.mp hx)]
/-! numbers -/
theorem pg_div6 {a : Nat} (ha : a < 2 ^ 31) : nI a / 6 = nI (a / 6) := pk_div (d := 6) ha (by decide) (by decide)
theorem pg_rem6 {a : Nat} (ha : a < 2 ^ 31) : nI a - nI a / 6 * 6 = nI (a % 6) := pk_rem (d := 6) ha (by decide) (by decide)
theorem pg_div32 {a : Nat} (ha : a < 2 ^ 31) : nI a / 32 = nI (a / 32) := pk_div (d := 32) ha (by decide) (by decide)
theorem pg_rem32 {a : Nat} (ha : a < 2 ^ 31) : nI a - nI a / 32 * 32 = nI (a % 32) := pk_rem (d := 32) ha (by decide) (by decide)
theorem pg_60 : ¬ (6 : Int32) = 0 := by decide
theorem pg_320 : ¬ (32 : Int32) = 0 := by decide
theorem pg_10 : ¬ (1 : Int32) = 0 := by decide
theorem pg_dvlt {g : Nat} (hg : g < 2 ^ 31) (i : Nat) : g / 6 ^ i < 2 ^ 31 := Nat.lt_of_le_of_lt (Nat.div_le_self _ _) hg
theorem pg_dvs (g i : Nat) : g / 6 ^ i / 6 = g / 6 ^ (i + 1) := by rw [Nat.div_div_eq_div_mul, ← Nat.pow_succ]
theorem pg_dv0 (g : Nat) : g / 6 ^ 0 = g := by rw [Nat.pow_zero, Nat.div_one]
theorem pg_31 {a : Nat} (h : a < 46656) : a < 2 ^ 31 := Nat.lt_trans h (by decide)
theorem pg_le6 {i : Nat} (h : i < 6) : ¬ (6 : Int32) ≤ nI i := nI_ge (b := 6) h (by decide)
theorem pg_ge6 : (6 : Int32) ≤ nI 6 := by decide
def pg_b (b : Bool) : Int32 := if b = true then 1 else 0
theorem pg_cl5 {j : Nat} (h : j < 5) : (nI j).toNatClampNeg = j := nI_clamp (by omega)
theorem pg_cl720 {j : Nat} (h : j < 720) : (nI j).toNatClampNeg = j := nI_clamp (by omega)
end
section
/-! the component's own small methods -/
theorem pg_xim {post : Int32 → Prop} {g x : Nat} (hg : g < 2 ^ 31) (hx : x < 6) {A B : Int32} (eA : A = nI g) (eB : B = nI x) (h : post (nI (pg_dg g x))) : wpX_imageOfPoint post A B := by
  subst eA eB
  have t := pg_ul (fun n i => wX_imageOfPoint_4 post (nI x) n (nI (g / 6 ^ i)) (nI i)) x (fun n i hi w => ?_) (fun n => ?_)
  · rw [pg_dv0] at t
    exact t
  · refine br_f (nI_ge hi (by omega)) ⟨pg_60, nm_r (pg_div6 (pg_dvlt hg i)) (nm_r (nI_1 i) ?_)⟩
    rw [pg_dvs]
    exact w
  · refine br_t (nI_le (Nat.le_refl x) (by omega)) ⟨pg_60, ?_⟩
    rw [pg_rem6 (pg_dvlt hg x)]
    exact h
theorem pg_xcm {post : Int32 → Prop} {g k : Nat} (hg : g < 2 ^ 31) (hk : k < 2 ^ 31) {A B : Int32} (eA : A = nI g) (eB : B = nI k) (h : post (nI (pg_mul g k))) : wpX_compose post A B := by
  subst eA eB
  have t := pg_fl (fun n i s => wX_compose_10 post (nI k) n (nI s) (nI (6 ^ i)) (nI (g / 6 ^ i)) (nI i)) (fun i s => s + 6 ^ i * pg_dg k (pg_dg g i)) 6 0 (fun n i s hi w => ?_) (fun n => ?_)
  · rw [pg_dv0] at t
    exact t
  · refine br_f (pg_le6 hi) ⟨pg_60, pg_xim hk (pg_dg_lt g i) rfl (pg_rem6 (pg_dvlt hg i)) ?_⟩
    refine nm_r (e' := nI (s + 6 ^ i * pg_dg k (pg_dg g i))) (by rw [pk_mul, nI_add]) (nm_r (e' := nI (6 ^ (i + 1))) (pk_mul (6 ^ i) 6) ⟨pg_60, nm_r (pg_div6 (pg_dvlt hg i)) (nm_r (nI_1 i) ?_)⟩)
    rw [pg_dvs]
    exact w
  · refine br_t pg_ge6 ?_
    have e : pg_fo (fun i s => s + 6 ^ i * pg_dg k (pg_dg g i)) 6 0 = pg_mul g k := by
      simp only [pg_fo, pg_mul, pg_en]
      omega
    rw [e]
    exact h
/-- what both sides' test of a permutation asks -/
def pg_iv (v : Int32) : Prop := ∃ c, v = nI c ∧ pg_ip c
theorem pg_ms_lt (c : Nat) : pg_ms c < 64 := by
  have p : ∀ x, 2 ^ pg_dg c x < 2 ^ 6 := fun x => Nat.pow_lt_pow_right (by decide) (pg_dg_lt c x)
  exact Nat.or_lt_two_pow (Nat.or_lt_two_pow (Nat.or_lt_two_pow (Nat.or_lt_two_pow (Nat.or_lt_two_pow (p 0) (p 1)) (p 2)) (p 3)) (p 4)) (p 5)
theorem pg_ms_fo (c : Nat) : pg_fo (fun i s => s ||| 2 ^ pg_dg c i) 6 0 = pg_ms c := by
  simp only [pg_fo, pg_ms, Nat.zero_or]
theorem pg_nms (c : Nat) : nI (pg_ms c) = 63 ↔ pg_ms c = 63 := nI_eq (b := 63) (Nat.lt_trans (pg_ms_lt c) (by decide)) (by decide)
theorem pg_xipl {post : Int32 → Prop} {c : Nat} (hc : c < 46656) (ht : pg_ms c = 63 → post 1) (hf : ¬ pg_ms c = 63 → post 0) : wpX_isPermutation post (nI c) := by
  refine br_f (nI_pos (pg_31 hc)) (br_t (nI_lt (b := 46656) hc (by decide)) ?_)
  have t := pg_fl (fun n i s => wX_isPermutation_18 post n (nI s) (nI (c / 6 ^ i)) (nI i)) (fun i s => s ||| 2 ^ pg_dg c i) 6 0 (fun n i s hi w => ?_) (fun n => ?_)
  · rw [pg_dv0] at t
    exact t
  · refine br_f (pg_le6 hi) ⟨pg_60, nm_r (e' := nI (s ||| 2 ^ pg_dg c i)) ?_ ⟨pg_60, nm_r (pg_div6 (pg_dvlt (pg_31 hc) i)) (nm_r (nI_1 i) ?_)⟩⟩
    · rw [pg_rem6 (pg_dvlt (pg_31 hc) i), ← pg_nor, ← pg_sh1 _ (Nat.lt_trans (pg_dg_lt c i) (by decide))]
      rfl
    · rw [pg_dvs]
      exact w
  · refine br_t pg_ge6 ?_
    rw [pg_ms_fo]
    exact br_c (fun z => ht ((pg_nms c).mp z)) (fun z => hf fun y => z ((pg_nms c).mpr y))
theorem pg_xip_t {post : Int32 → Prop} {c : Nat} (hc : pg_ip c) (h : post 1) : wpX_isPermutation post (nI c) := pg_xipl hc.1 (fun _ => h) (fun z => absurd hc.2 z)
theorem pg_xip_f {post : Int32 → Prop} {v : Int32} (hv : ¬ pg_iv v) (h : post 0) : wpX_isPermutation post v := by
  by_cases h0 : v < 0
  · exact br_t h0 h
  · obtain ⟨c, hc, rfl⟩ := nI_of h0
    by_cases h1 : c < 46656
    · exact pg_xipl h1 (fun z => absurd ⟨c, rfl, h1, z⟩ hv) (fun _ => h)
    · exact br_f h0 (br_f (nI_nlt (b := 46656) (by omega) hc) h)
theorem pg_xwt {post : Int32 → Prop} {x : Nat} (hx : x < 6) {A : Int32} (eA : A = nI x) (h : post (nI (6 ^ x))) : wpX_weightOf post A := by
  subst eA
  refine pg_ul (fun n i => wX_weightOf_4 post (nI x) n (nI (6 ^ i)) (nI i)) x (fun n i hi w => ?_) (fun n => ?_)
  · exact br_f (nI_ge hi (by omega)) (nm_r (e' := nI (6 ^ (i + 1))) (pk_mul (6 ^ i) 6) (nm_r (nI_1 i) w))
  · exact br_t (nI_le (Nat.le_refl x) (by omega)) h
theorem pg_xiv {post : Int32 → Prop} {g : Nat} (hg : g < 2 ^ 31) {A : Int32} (eA : A = nI g) (h : post (nI (pg_inv g))) : wpX_invert post A := by
  subst eA
  have t := pg_fl (fun n i s => wX_invert_6 post n (nI s) (nI (g / 6 ^ i)) (nI i)) (fun i s => s + i * 6 ^ pg_dg g i) 6 0 (fun n i s hi w => ?_) (fun n => ?_)
  · rw [pg_dv0] at t
    exact t
  · refine br_f (pg_le6 hi) ⟨pg_60, pg_xwt (pg_dg_lt g i) (pg_rem6 (pg_dvlt hg i)) ?_⟩
    refine nm_r (e' := nI (s + i * 6 ^ pg_dg g i)) (by rw [pk_mul, nI_add]) ⟨pg_60, nm_r (pg_div6 (pg_dvlt hg i)) (nm_r (nI_1 i) ?_)⟩
    rw [pg_dvs]
    exact w
  · refine br_t pg_ge6 ?_
    have e : pg_fo (fun i s => s + i * 6 ^ pg_dg g i) 6 0 = pg_inv g := by
      simp only [pg_fo, pg_inv]
      omega
    rw [e]
    exact h
theorem pg_xcj {post : Int32 → Prop} {g k : Nat} (hg : g < 46656) (hk : pg_ip k) {A B : Int32} (eA : A = nI g) (eB : B = nI k) (h : post (nI (pg_cj g k))) : wpX_conjugate post A B := by
  unfold wpX_conjugate
  refine pg_xiv (pg_31 hk.1) eB ?_
  refine pg_xcm (pg_31 (pg_ok_of hk).2.2.1) (pg_31 hg) rfl eA ?_
  exact pg_xcm (pg_31 (pg_mul_lt _ _)) (pg_31 hk.1) rfl eB h
theorem pg_xco {post : Int32 → Prop} {g k : Nat} (hg : g < 46656) (hk : k < 46656) {A B : Int32} (eA : A = nI g) (eB : B = nI k) (h : post (pg_b (decide (pg_mul g k = pg_mul k g)))) : wpX_commute post A B := by
  unfold wpX_commute
  refine pg_xcm (pg_31 hg) (pg_31 hk) eA eB ?_
  refine pg_xcm (pg_31 hk) (pg_31 hg) eB eA ?_
  by_cases e : pg_mul g k = pg_mul k g
  · rw [decide_eq_true e] at h
    exact br_t (congrArg nI e) h
  · rw [decide_eq_false e] at h
    exact br_f (fun z => e ((nI_eq (pg_31 (pg_mul_lt _ _)) (pg_31 (pg_mul_lt _ _))).mp z)) h
/-- both sides' image of a set -/
def pg_im (S : Int32) (g : Nat) : Int32 := pg_fo (fun i s => if (S >>> (nI i &&& 31)) &&& 1 = 1 then s ||| ((1 : Int32) <<< (nI (pg_dg g i) &&& 31)) else s) 6 0
theorem pg_xis {post : Int32 → Prop} {g : Nat} (hg : g < 2 ^ 31) {A S : Int32} (eA : A = nI g) (h : post (pg_im S g)) : wpX_imageOfSet post A S := by
  subst eA
  have t := pg_fl (fun n i s => wX_imageOfSet_7 post S n s (nI (g / 6 ^ i)) (nI i)) (fun i s => if (S >>> (nI i &&& 31)) &&& 1 = 1 then s ||| ((1 : Int32) <<< (nI (pg_dg g i) &&& 31)) else s) 6 0 (fun n i s hi w => ?_) (fun n => ?_)
  · rw [pg_dv0] at t
    exact t
  · refine br_f (pg_le6 hi) (br_c (fun z => ?_) (fun z => ?_))
    · rw [if_pos z] at w
      refine ⟨pg_60, nm_r (by rw [pg_rem6 (pg_dvlt hg i)]) ⟨pg_60, nm_r (pg_div6 (pg_dvlt hg i)) (nm_r (nI_1 i) ?_)⟩⟩
      rw [pg_dvs]
      exact w
    · rw [if_neg z] at w
      refine ⟨pg_60, nm_r (pg_div6 (pg_dvlt hg i)) (nm_r (nI_1 i) ?_)⟩
      rw [pg_dvs]
      exact w
  · exact br_t pg_ge6 h
/-- both sides' test that a set is fixed point by point -/
def pg_fx (S : Int32) (g : Nat) : Prop := ∀ i, i < 6 → ((S >>> (nI i &&& 31)) &&& 1 = 1 → pg_dg g i = i)
theorem pg_xfx {post : Int32 → Prop} {g : Nat} (hg : g < 2 ^ 31) {A S : Int32} (eA : A = nI g) (ht : pg_fx S g → post 1) (hf : ¬ pg_fx S g → post 0) : wpX_fixesEachPoint post A S := by
  subst eA
  have t := pg_al2 (fun n i => wX_fixesEachPoint_4 post S n (nI (g / 6 ^ i)) (nI i)) (fun i => (S >>> (nI i &&& 31)) &&& 1 = 1 → pg_dg g i = i) 6 (post 1) (post 0) (fun n h => br_t pg_ge6 h) (fun n i hi hP w => ?_) (fun n i hi hP h => ?_) ht hf
  · rw [pg_dv0] at t
    exact t
  · refine br_f (pg_le6 hi) (br_c (fun z => ⟨pg_60, br_t ?_ ⟨pg_60, nm_r (pg_div6 (pg_dvlt hg i)) (nm_r (nI_1 i) ?_)⟩⟩) (fun z => ⟨pg_60, nm_r (pg_div6 (pg_dvlt hg i)) (nm_r (nI_1 i) ?_)⟩))
    · rw [pg_rem6 (pg_dvlt hg i)]
      exact congrArg nI (hP z)
    · rw [pg_dvs]
      exact w
    · rw [pg_dvs]
      exact w
  · refine br_f (pg_le6 hi) (br_c (fun z => ⟨pg_60, br_f ?_ h⟩) (fun z => absurd (fun y => absurd y z) hP))
    rw [pg_rem6 (pg_dvlt hg i)]
    exact fun e => hP fun _ => (nI_eq (Nat.lt_trans (pg_dg_lt g i) (by decide)) (by omega)).mp e
theorem pg_xcb {post : Int32 → Prop} {w : Int64} (h : post (nI (pg_cn (fun i => decide ((w >>> ((nI i).toInt64 &&& 63)) &&& 1 = 1)) 64))) : wpX_countBits post w := by
  refine pg_cnl (fun n i s => wX_countBits_4 post w n (nI s) (nI i)) (fun i => decide ((w >>> ((nI i).toInt64 &&& 63)) &&& 1 = 1)) 64 (fun n i s hi hp W => ?_) (fun n i s hi hp W => ?_) (fun n => br_t (by decide) h)
  · refine br_f (nI_ge (b := 64) hi (by decide)) (br_t ?_ (nm_r (nI_1 s) (nm_r (nI_1 i) W)))
    rw [pg_lsh hi]
    exact of_decide_eq_true hp
  · refine br_f (nI_ge (b := 64) hi (by decide)) (br_f ?_ (nm_r (nI_1 i) W))
    rw [pg_lsh hi]
    exact of_decide_eq_false hp
end
section
/-! the component's list and marks -/
def pg_XL (L : List Nat) (ae ai : Nat → Int32) : Prop := (∀ i, i < L.length → ae i = nI (L.getD i 0)) ∧ (∀ c, c < 46656 → (ai c = 0 ↔ c ∉ L))
theorem pg_nar1 : vp_nar .boolean 1 = 1 := rfl
theorem pg_nar0 : vp_nar .boolean 0 = 0 := rfl
theorem pg_xinc {post : SX → Prop} {L : List Nat} {gc : Int32} {ag ae ai : Nat → Int32} {g : Nat} (hX : pg_XL L ae ai) (hl : L.length ≤ 720) (hg : g < 46656) (hp : ∀ ae' ai', pg_XL (pg_nt L g) ae' ai' → post (gc, nI (pg_nt L g).length, ag, ae', ai', 46656)) : wpX_include post (gc, nI L.length, ag, ae, ai, 46656) (nI g) := by
  have hin : vp_in (nI g) 46656 := vp_in_nI hg (by decide)
  have hcl : (nI g).toNatClampNeg = g := nI_clamp (pg_31 hg)
  unfold wpX_include
  refine ⟨hin, ?_⟩
  rw [hcl]
  by_cases hm : g ∈ L
  · refine br_f (fun z => (hX.2 g hg).mp z hm) ?_
    have e := pg_nt_t (L := L) (g := g) (Or.inl hm)
    rw [e] at hp
    exact hp ae ai hX
  · refine br_t ((hX.2 g hg).mpr hm) ?_
    by_cases hf : 720 ≤ L.length
    · have e := pg_nt_t (L := L) (g := g) (Or.inr hf)
      rw [e] at hp
      exact br_t (nI_le (a := 720) hf (by omega)) (hp ae ai hX)
    · have e := pg_nt_f (L := L) (g := g) (fun z => z.elim hm hf)
      rw [e, List.length_append] at hp
      have hl' : L.length < 720 := by omega
      refine br_f (nI_ge (b := 720) hl' (by decide)) ⟨hin, nm_r (e' := upd ai g 1) (by rw [pg_nar1]) ⟨vp_in_nI hl' (by decide), nm_r (e' := upd ae L.length (nI g)) (by rw [nI_clamp (by omega)]) (nm_r (nI_1 L.length) (hp _ _ ⟨fun i hi => ?_, fun c hc => ?_⟩))⟩⟩
      · rw [List.length_append, List.length_singleton] at hi
        by_cases h : i = L.length
        · rw [h, pk_us, pg_get_end]
        · rw [pk_un h, pg_get_app (by omega)]
          exact hX.1 i (by omega)
      · rw [List.mem_append, List.mem_singleton]
        by_cases h : c = g
        · rw [h, pk_us]
          exact ⟨fun z => absurd z pg_10, fun z => absurd (Or.inr rfl) z⟩
        · rw [pk_un h, hX.2 c hc]
          exact ⟨fun z y => y.elim z h, fun z y => z (Or.inl y)⟩
/-- the inner loop of the search -/
theorem pg_xin {post : SX → Prop} {J : Int32 → Int32 → Int32 → (Nat → Int32) → (Nat → Int32) → (Nat → Int32) → Nat → Prop} {G : Nat → Nat} {m i : Nat} {ag : Nat → Int32} (hm : m ≤ 5) (hG : ∀ j, j < m → pg_ip (G j)) (hag : ∀ j, j < m → ag j = nI (G j)) : ∀ r j n L ae ai, j + r = m → r < n → i < L.length → pg_W L → pg_XL L ae ai → (∀ ae' ai', pg_XL (pg_in G i r j L) ae' ai' → J (nI (i + 1)) (nI m) (nI (pg_in G i r j L).length) ag ae' ai' 46656) → wX_rebuildGroup_58 post J (nI i) n (nI j) (nI m) (nI L.length) ag ae ai 46656 := by
  intro r
  induction r with
  | zero =>
    intro j n L ae ai hj hn hi hW hX hp
    obtain ⟨n', rfl⟩ : ∃ n', n = n' + 1 := ⟨n - 1, by omega⟩
    refine br_t (nI_le (by omega) (by omega)) (nm_r (nI_1 i) (hp ae ai hX))
  | succ r ih =>
    intro j n L ae ai hj hn hi hW hX hp
    obtain ⟨n', rfl⟩ : ∃ n', n = n' + 1 := ⟨n - 1, by omega⟩
    have hl := hW.2.2.1
    have hjm : j < m := by omega
    have ha : pg_ip (L.getD i 0) := hW.2.1 _ (pg_get_mem hi)
    have hq : pg_ip (pg_mul (L.getD i 0) (G j)) := pg_ip_mul ha (hG j hjm)
    refine br_f (nI_ge hjm (by omega)) ⟨vp_in_nI (by omega) (by decide), vp_in_nI (by omega) (by decide), ?_⟩
    refine pg_xcm (pg_31 ha.1) (pg_31 (hG j hjm).1) (by rw [pg_cl720 (by omega)]; exact hX.1 i hi) (by rw [pg_cl5 (by omega)]; exact hag j hjm) ?_
    refine pg_xinc hX hl hq.1 fun ae' ai' hX' => ?_
    refine nm_r (nI_1 j) ?_
    exact ih (j + 1) n' _ ae' ai' (by omega) (by omega) (Nat.lt_of_lt_of_le hi pg_nt_ge) (pg_nt_W hW hq) hX' hp
theorem pg_in_W {G : Nat → Nat} {m i : Nat} (hG : ∀ j, j < m → pg_ip (G j)) {L : List Nat} (hi : i < L.length) (hW : pg_W L) : pg_W (pg_in G i m 0 L) := (pg_in_s hG (fun _ => True) (fun _ _ _ _ => trivial) m 0 L (Nat.zero_add m) hi hW (fun _ _ => trivial)).1
theorem pg_xbl {post : SX → Prop} {G : Nat → Nat} {m : Nat} {ag : Nat → Int32} (hm : m ≤ 5) (hG : ∀ j, j < m → pg_ip (G j)) (hag : ∀ j, j < m → ag j = nI (G j)) : ∀ f i n L ae ai, i + f = 720 → f < n → pg_W L → pg_XL L ae ai → (∀ ae' ai', pg_XL (pg_bl G m f i L) ae' ai' → post (nI m, nI (pg_bl G m f i L).length, ag, ae', ai', 46656)) → wX_rebuildGroup_41 post n (nI i) (nI m) (nI L.length) ag ae ai 46656 := by
  intro f
  induction f with
  | zero =>
    intro i n L ae ai hi hn hW hX hp
    obtain ⟨n', rfl⟩ : ∃ n', n = n' + 1 := ⟨n - 1, by omega⟩
    exact br_t (nI_le (a := 720) (by omega) (by omega)) (hp ae ai hX)
  | succ f ih =>
    intro i n L ae ai hi hn hW hX hp
    obtain ⟨n', rfl⟩ : ∃ n', n = n' + 1 := ⟨n - 1, by omega⟩
    have hl := hW.2.2.1
    refine br_f (nI_ge (b := 720) (by omega) (by decide)) ?_
    by_cases h : i < L.length
    · rw [pg_bl, if_pos h] at hp
      refine br_f (nI_ge h (by omega)) ⟨m + 1, ?_⟩
      refine pg_xin (i := i) (J := wX_rebuildGroup_41 post n') hm hG hag m 0 (m + 1) L ae ai (by omega) (by omega) h hW hX fun ae' ai' hX' => ?_
      exact ih (i + 1) n' _ ae' ai' (by omega) (by omega) (pg_in_W hG h hW) hX' hp
    · rw [pg_bl, if_neg h] at hp
      exact br_t (nI_le (by omega) (by omega)) (hp ae ai hX)
/-- the component's search: from any old list to the list of the generators -/
theorem pg_xre {post : SX → Prop} {G : Nat → Nat} {m : Nat} {L : List Nat} {ag ae ai : Nat → Int32} (hm : m ≤ 5) (hG : ∀ j, j < m → pg_ip (G j)) (hag : ∀ j, j < m → ag j = nI (G j)) (hL : ∀ a, a ∈ L → a < 46656) (hl : L.length ≤ 720) (hX : pg_XL L ae ai) (hp : ∀ ae' ai', pg_XL (pg_gr G m) ae' ai' → post (nI m, nI (pg_gr G m).length, ag, ae', ai', 46656)) : wpX_rebuildGroup post (nI m, nI L.length, ag, ae, ai, 46656) := by
  unfold wpX_rebuildGroup
  refine loop_0 (fun n i s => wX_rebuildGroup_2 post (nI m) (nI L.length) 46656 n (nI i) ag ae s) (fun i s => ∀ c, c < 46656 → (∀ k, i ≤ k → k < L.length → L.getD k 0 ≠ c) → s c = 0) L.length ai ?_ ?_ ?_
  · intro c hc hk
    refine (hX.2 c hc).mpr fun hm => ?_
    obtain ⟨k, hk1, hk2⟩ := pg_mem_get hm
    exact hk k (Nat.zero_le k) hk1 hk2
  · intro n s hs
    refine br_t (nI_le (Nat.le_refl _) (by omega)) ?_
    refine pg_xinc (L := []) (g := 44790) ⟨fun i hi => absurd hi (Nat.not_lt_zero i), fun c hc => ⟨fun _ => List.not_mem_nil, fun _ => hs c hc fun k h1 h2 => absurd h1 (by omega)⟩⟩ (by decide) (by decide) fun ae' ai' hX' => ?_
    exact ⟨721, pg_xbl hm hG hag 720 0 721 [44790] ae' ai' (by decide) (by decide) pg_W0 hX' hp⟩
  · intro n i s hi hs hw
    have hc := hL _ (pg_get_mem hi)
    have e : ae (nI i).toNatClampNeg = nI (L.getD i 0) := by rw [pg_cl720 (by omega)]; exact hX.1 i hi
    refine br_f (nI_ge hi (by omega)) ⟨vp_in_nI (by omega) (by decide), ?_⟩
    rw [e]
    refine ⟨vp_in_nI hc (by decide), nm_r (e' := upd s (L.getD i 0) 0) (by rw [pg_nar0, nI_clamp (pg_31 hc)]) (nm_r (nI_1 i) (hw _ fun c hc hk => ?_))⟩
    by_cases h : c = L.getD i 0
    · rw [h, pk_us]
    · rw [pk_un h]
      refine hs c hc fun k h1 h2 => ?_
      by_cases hki : k = i
      · rw [hki]; exact fun z => h z.symm
      · exact hk k (by omega) h2
end
section
/-! the reference's own small methods: its state is fc fo ag al am ap aa -/
def pg_YP (ap : Nat → Int32) : Prop := ∀ x, x < 6 → ap x = nI (6 ^ x)
theorem pg_cl6 {j : Nat} (h : j < 6) : (nI j).toNatClampNeg = j := nI_clamp (by omega)
theorem pg_p6 {x : Nat} (hx : x < 6) : 6 ^ x < 2 ^ 31 := Nat.lt_of_lt_of_le (Nat.pow_lt_pow_right (by decide) hx) (by decide)
section
variable {fc fo : Int32} {ag al am ap aa : Nat → Int32}
theorem pg_yca {post : Int32 → Prop} {g x : Nat} (hP : pg_YP ap) (hg : g < 2 ^ 31) (hx : x < 6) {A B : Int32} (eA : A = nI g) (eB : B = nI x) (h : post (nI (pg_dg g x))) : wpY_carried post (fc, fo, ag, al, am, ap, aa) A B := by
  subst eA eB
  unfold wpY_carried
  refine ⟨vp_in_nI hx (by decide), ?_⟩
  rw [pg_cl6 hx, hP x hx]
  refine ⟨nI_ne0 (Nat.pow_pos (by decide)) (pg_p6 hx), pg_60, ?_⟩
  rw [pk_div hg (Nat.pow_pos (by decide)) (pg_p6 hx), pg_rem6 (pg_dvlt hg x)]
  exact h
theorem pg_yti {post : Int32 → Prop} {g k : Nat} (hP : pg_YP ap) (hg : g < 2 ^ 31) (hk : k < 2 ^ 31) {A B : Int32} (eA : A = nI g) (eB : B = nI k) (h : post (nI (pg_mul g k))) : wpY_times post (fc, fo, ag, al, am, ap, aa) A B := by
  subst eA eB
  unfold wpY_times
  refine pg_fl (fun n i s => wY_times_5 post (nI g) (nI k) fc fo ag al am ap aa n (nI s) (nI i)) (fun i s => s + 6 ^ i * pg_dg k (pg_dg g i)) 6 0 (fun n i s hi w => ?_) (fun n => ?_)
  · refine br_f (pg_le6 hi) (pg_yca hP hg hi rfl rfl ⟨vp_in_nI hi (by decide), pg_yca hP hk (pg_dg_lt g i) rfl rfl (nm_r (e' := nI (s + 6 ^ i * pg_dg k (pg_dg g i))) ?_ (nm_r (nI_1 i) w))⟩)
    rw [pg_cl6 hi, hP i hi, pk_mul, nI_add]
  · refine br_t pg_ge6 ?_
    have e : pg_fo (fun i s => s + 6 ^ i * pg_dg k (pg_dg g i)) 6 0 = pg_mul g k := by
      simp only [pg_fo, pg_mul, pg_en]
      omega
    rw [e]
    exact h
theorem pg_yipl {post : Int32 → Prop} {c : Nat} (hP : pg_YP ap) (hc : c < 46656) (ht : pg_ms c = 63 → post 1) (hf : ¬ pg_ms c = 63 → post 0) : wpY_isPermutation post (fc, fo, ag, al, am, ap, aa) (nI c) := by
  unfold wpY_isPermutation
  refine br_f (nI_pos (pg_31 hc)) (br_t (nI_le (b := 46655) (by omega) (by decide)) ?_)
  refine pg_fl (fun n i s => wY_isPermutation_16 post (nI c) fc fo ag al am ap aa n (nI s) (nI i)) (fun i s => s ||| 2 ^ pg_dg c i) 6 0 (fun n i s hi w => ?_) (fun n => ?_)
  · refine br_f (pg_le6 hi) (pg_yca hP (pg_31 hc) hi rfl rfl (nm_r (e' := nI (s ||| 2 ^ pg_dg c i)) ?_ (nm_r (nI_1 i) w)))
    rw [← pg_nor, ← pg_sh1 _ (Nat.lt_trans (pg_dg_lt c i) (by decide))]
  · refine br_t pg_ge6 ?_
    rw [pg_ms_fo]
    exact br_c (fun z => ht ((pg_nms c).mp z)) (fun z => hf fun y => z ((pg_nms c).mpr y))
theorem pg_yip_t {post : Int32 → Prop} {c : Nat} (hP : pg_YP ap) (hc : pg_ip c) (h : post 1) : wpY_isPermutation post (fc, fo, ag, al, am, ap, aa) (nI c) := pg_yipl hP hc.1 (fun _ => h) (fun z => absurd hc.2 z)
theorem pg_yip_f {post : Int32 → Prop} {v : Int32} (hP : pg_YP ap) (hv : ¬ pg_iv v) (h : post 0) : wpY_isPermutation post (fc, fo, ag, al, am, ap, aa) v := by
  by_cases h0 : v < 0
  · exact br_t h0 h
  · obtain ⟨c, hc, rfl⟩ := nI_of h0
    by_cases h1 : c < 46656
    · exact pg_yipl hP h1 (fun z => absurd ⟨c, rfl, h1, z⟩ hv) (fun _ => h)
    · exact br_f h0 (br_f (nI_ge (a := 46655) (by omega) hc) h)
theorem pg_yiv {post : Int32 → Prop} {g : Nat} (hP : pg_YP ap) (hg : g < 2 ^ 31) {A : Int32} (eA : A = nI g) (h : post (nI (pg_inv g))) : wpY_inverted post (fc, fo, ag, al, am, ap, aa) A := by
  subst eA
  unfold wpY_inverted
  refine pg_fl (fun n i s => wY_inverted_4 post (nI g) fc fo ag al am ap aa n (nI s) (nI i)) (fun i s => s + 6 ^ pg_dg g i * i) 6 0 (fun n i s hi w => ?_) (fun n => ?_)
  · refine br_f (pg_le6 hi) (pg_yca hP hg hi rfl rfl ⟨vp_in_nI (pg_dg_lt g i) (by decide), nm_r (e' := nI (s + 6 ^ pg_dg g i * i)) ?_ (nm_r (nI_1 i) w)⟩)
    rw [pg_cl6 (pg_dg_lt g i), hP _ (pg_dg_lt g i), pk_mul, nI_add]
  · refine br_t pg_ge6 ?_
    have e : pg_fo (fun i s => s + 6 ^ pg_dg g i * i) 6 0 = pg_inv g := by
      simp only [pg_fo, pg_inv]
      omega
    rw [e]
    exact h
theorem pg_ycj {post : Int32 → Prop} {g k : Nat} (hP : pg_YP ap) (hg : g < 46656) (hk : pg_ip k) {A B : Int32} (eA : A = nI g) (eB : B = nI k) (h : post (nI (pg_cj g k))) : wpY_conjugate post (fc, fo, ag, al, am, ap, aa) A B := by
  unfold wpY_conjugate
  refine pg_yiv hP (pg_31 hk.1) eB ?_
  refine pg_yti hP (pg_31 (pg_ok_of hk).2.2.1) (pg_31 hg) rfl eA ?_
  exact pg_yti hP (pg_31 (pg_mul_lt _ _)) (pg_31 hk.1) rfl eB h
theorem pg_yis {post : Int32 → Prop} {g : Nat} (hP : pg_YP ap) (hg : g < 2 ^ 31) {A S : Int32} (eA : A = nI g) (h : post (pg_im S g)) : wpY_image post (fc, fo, ag, al, am, ap, aa) S A := by
  subst eA
  unfold wpY_image
  refine pg_fl (fun n i s => wY_image_5 post S (nI g) fc fo ag al am ap aa n s (nI i)) (fun i s => if (S >>> (nI i &&& 31)) &&& 1 = 1 then s ||| ((1 : Int32) <<< (nI (pg_dg g i) &&& 31)) else s) 6 0 (fun n i s hi w => ?_) (fun n => ?_)
  · refine br_f (pg_le6 hi) (br_c (fun z => ?_) (fun z => ?_))
    · rw [if_pos z] at w
      exact pg_yca hP hg hi rfl rfl (nm_e (nm_r (nI_1 i) w))
    · rw [if_neg z] at w
      exact nm_r (nI_1 i) w
  · exact br_t pg_ge6 h
theorem pg_yfx {post : Int32 → Prop} {g : Nat} (hP : pg_YP ap) (hg : g < 2 ^ 31) {A S : Int32} (eA : A = nI g) (ht : pg_fx S g → post 1) (hf : ¬ pg_fx S g → post 0) : wpY_fixes post (fc, fo, ag, al, am, ap, aa) S A := by
  subst eA
  unfold wpY_fixes
  refine pg_al2 (fun n i => wY_fixes_2 post S (nI g) fc fo ag al am ap aa n (nI i)) (fun i => (S >>> (nI i &&& 31)) &&& 1 = 1 → pg_dg g i = i) 6 (post 1) (post 0) (fun n h => br_t pg_ge6 h) (fun n i hi hQ w => ?_) (fun n i hi hQ h => ?_) ht hf
  · exact br_f (pg_le6 hi) (br_c (fun z => pg_yca hP hg hi rfl rfl (br_t (congrArg nI (hQ z)) (nm_r (nI_1 i) w))) (fun z => nm_r (nI_1 i) w))
  · exact br_f (pg_le6 hi) (br_c (fun z => pg_yca hP hg hi rfl rfl (br_f (fun e => hQ fun _ => (nI_eq (Nat.lt_trans (pg_dg_lt g i) (by decide)) (by omega)).mp e) h)) (fun z => absurd (fun y => absurd y z) hQ))
end
/-! the reference's list and marks -/
def pg_YL (L : List Nat) (al am : Nat → Int32) : Prop := (∀ i, i < L.length → al i = nI (L.getD i 0)) ∧ (∀ c, c < 46656 → (bt (am (c / 32)) (c % 32) = true ↔ c ∈ L))
section
variable {fc fo : Int32} {ag al am ap aa : Nat → Int32}
theorem pg_yim {post : Int32 → Prop} {L : List Nat} {g : Nat} (hY : pg_YL L al am) (hg : g < 46656) {A : Int32} (eA : A = nI g) (ht : g ∈ L → post 1) (hf : g ∉ L → post 0) : wpY_isMarked post (fc, fo, ag, al, am, ap, aa) A := by
  subst eA
  unfold wpY_isMarked
  refine ⟨pg_320, ?_⟩
  rw [pg_rem32 (pg_31 hg), pg_div32 (pg_31 hg), nI_clamp (by omega)]
  refine ⟨vp_in_nI (by omega) (by decide), pg_320, ?_⟩
  rw [pg_bit1 (Nat.mod_lt g (by decide)), hY.2 g hg]
  exact br_c ht hf
theorem pg_yno {post : SY → Prop} {L : List Nat} {g : Nat} (hY : pg_YL L al am) (hl : L.length ≤ 720) (hg : g < 46656) (hp : ∀ al' am', pg_YL (pg_nt L g) al' am' → post (fc, nI (pg_nt L g).length, ag, al', am', ap, aa)) : wpY_note post (fc, nI L.length, ag, al, am, ap, aa) (nI g) := by
  unfold wpY_note
  refine pg_yim hY hg rfl (fun hm => br_f pg_10 ?_) (fun hm => br_t rfl ?_)
  · have e := pg_nt_t (L := L) (g := g) (Or.inl hm)
    rw [e] at hp
    exact hp al am hY
  · by_cases hf : 720 ≤ L.length
    · have e := pg_nt_t (L := L) (g := g) (Or.inr hf)
      rw [e] at hp
      exact br_t (nI_le (a := 720) hf (by omega)) (hp al am hY)
    · have e := pg_nt_f (L := L) (g := g) (fun z => z.elim hm hf)
      rw [e, List.length_append] at hp
      have hl' : L.length < 720 := by omega
      have hin : vp_in (nI g / 32) 1458 := by
        rw [pg_div32 (pg_31 hg)]
        exact vp_in_nI (by omega) (by decide)
      refine br_f (nI_ge (b := 720) hl' (by decide)) ⟨pg_320, pg_320, hin, pg_320, hin, nm_r (e' := upd am (g / 32) (am (g / 32) ||| ((1 : Int32) <<< (nI (g % 32) &&& 31)))) ?_ ⟨vp_in_nI hl' (by decide), nm_r (e' := upd al L.length (nI g)) (by rw [nI_clamp (by omega)]) (nm_r (nI_1 L.length) (hp _ _ ⟨fun i hi => ?_, fun c hc => ?_⟩))⟩⟩
      · rw [pg_rem32 (pg_31 hg), pg_div32 (pg_31 hg), nI_clamp (by omega)]
      · rw [List.length_append, List.length_singleton] at hi
        by_cases h : i = L.length
        · rw [h, pk_us, pg_get_end]
        · rw [pk_un h, pg_get_app (by omega)]
          exact hY.1 i (by omega)
      · rw [List.mem_append, List.mem_singleton, ← hY.2 c hc]
        by_cases h : c / 32 = g / 32
        · rw [h, pk_us, b_or, pg_b2 (Nat.mod_lt g (by decide)) (Nat.mod_lt c (by decide)), Bool.or_eq_true, decide_eq_true_eq]
          have t : g % 32 = c % 32 ↔ c = g := by omega
          rw [t]
        · rw [pk_un h]
          exact ⟨fun z => Or.inl z, fun z => z.elim id fun y => absurd (by rw [y]) h⟩
end
end
section
/-! the reference's search -/
theorem pg_yin {post : SY → Prop} {J : Int32 → Int32 → Int32 → (Nat → Int32) → (Nat → Int32) → (Nat → Int32) → (Nat → Int32) → (Nat → Int32) → Prop} {G : Nat → Nat} {m i : Nat} {ag ap aa : Nat → Int32} (hP : pg_YP ap) (hm : m ≤ 5) (hG : ∀ j, j < m → pg_ip (G j)) (hag : ∀ j, j < m → ag j = nI (G j)) : ∀ r j n L al am, j + r = m → r < n → i < L.length → pg_W L → pg_YL L al am → (∀ al' am', pg_YL (pg_in G i r j L) al' am' → J (nI (i + 1)) (nI m) (nI (pg_in G i r j L).length) ag al' am' ap aa) → wY_listGroup_71 post J (nI i) n (nI j) (nI m) (nI L.length) ag al am ap aa := by
  intro r
  induction r with
  | zero =>
    intro j n L al am hj hn hi hW hY hp
    obtain ⟨n', rfl⟩ : ∃ n', n = n' + 1 := ⟨n - 1, by omega⟩
    refine br_t (nI_le (by omega) (by omega)) (nm_r (nI_1 i) (hp al am hY))
  | succ r ih =>
    intro j n L al am hj hn hi hW hY hp
    obtain ⟨n', rfl⟩ : ∃ n', n = n' + 1 := ⟨n - 1, by omega⟩
    have hl := hW.2.2.1
    have hjm : j < m := by omega
    have ha : pg_ip (L.getD i 0) := hW.2.1 _ (pg_get_mem hi)
    have hq : pg_ip (pg_mul (L.getD i 0) (G j)) := pg_ip_mul ha (hG j hjm)
    refine br_f (nI_ge hjm (by omega)) ⟨vp_in_nI (by omega) (by decide), vp_in_nI (by omega) (by decide), ?_⟩
    refine pg_yti hP (pg_31 ha.1) (pg_31 (hG j hjm).1) (by rw [pg_cl720 (by omega)]; exact hY.1 i hi) (by rw [pg_cl5 (by omega)]; exact hag j hjm) ?_
    refine pg_yno hY hl hq.1 fun al' am' hY' => ?_
    refine nm_r (nI_1 j) ?_
    exact ih (j + 1) n' _ al' am' (by omega) (by omega) (Nat.lt_of_lt_of_le hi pg_nt_ge) (pg_nt_W hW hq) hY' hp
theorem pg_ybl {post : SY → Prop} {G : Nat → Nat} {m : Nat} {ag ap aa : Nat → Int32} (hP : pg_YP ap) (hm : m ≤ 5) (hG : ∀ j, j < m → pg_ip (G j)) (hag : ∀ j, j < m → ag j = nI (G j)) : ∀ f i n L al am, i + f = 720 → f < n → pg_W L → pg_YL L al am → (∀ al' am', pg_YL (pg_bl G m f i L) al' am' → post (nI m, nI (pg_bl G m f i L).length, ag, al', am', ap, aa)) → wY_listGroup_61 post n (nI i) (nI m) (nI L.length) ag al am ap aa := by
  intro f
  induction f with
  | zero =>
    intro i n L al am hi hn hW hY hp
    obtain ⟨n', rfl⟩ : ∃ n', n = n' + 1 := ⟨n - 1, by omega⟩
    have hl := hW.2.2.1
    exact br_t (nI_le (by omega) (by omega)) (hp al am hY)
  | succ f ih =>
    intro i n L al am hi hn hW hY hp
    obtain ⟨n', rfl⟩ : ∃ n', n = n' + 1 := ⟨n - 1, by omega⟩
    have hl := hW.2.2.1
    by_cases h : i < L.length
    · rw [pg_bl, if_pos h] at hp
      refine br_f (nI_ge h (by omega)) ⟨m + 1, ?_⟩
      refine pg_yin (i := i) (J := wY_listGroup_61 post n') hP hm hG hag m 0 (m + 1) L al am (by omega) (by omega) h hW hY fun al' am' hY' => ?_
      exact ih (i + 1) n' _ al' am' (by omega) (by omega) (pg_in_W hG h hW) hY' hp
    · rw [pg_bl, if_neg h] at hp
      exact br_t (nI_le (by omega) (by omega)) (hp al am hY)
theorem pg_yre {post : SY → Prop} {G : Nat → Nat} {m : Nat} {fo : Int32} {ag al am ap aa : Nat → Int32} (hP : pg_YP ap) (hm : m ≤ 5) (hG : ∀ j, j < m → pg_ip (G j)) (hag : ∀ j, j < m → ag j = nI (G j)) (hp : ∀ al' am', pg_YL (pg_gr G m) al' am' → post (nI m, nI (pg_gr G m).length, ag, al', am', ap, aa)) : wpY_listGroup post (nI m, fo, ag, al, am, ap, aa) := by
  unfold wpY_listGroup
  refine loop_0 (fun n i s => wY_listGroup_2 post (nI m) fo n (nI i) ag al s ap aa) (fun i s => ∀ k, k < i → s k = 0) 1458 am (fun k hk => absurd hk (Nat.not_lt_zero k)) ?_ ?_
  · intro n s hs
    refine br_t (by decide) ?_
    refine pg_fl (fun n i t => wY_listGroup_31 post (nI m) 0 ag al s ap aa n (nI t) (nI i)) (fun i t => t + 6 ^ i * i) 6 0 (fun n i t hi w => ?_) (fun n => ?_)
    · refine br_f (pg_le6 hi) ⟨vp_in_nI hi (by decide), nm_r (e' := nI (t + 6 ^ i * i)) ?_ (nm_r (nI_1 i) w)⟩
      rw [pg_cl6 hi, hP i hi, pk_mul, nI_add]
    · refine br_t pg_ge6 ?_
      refine pg_yno (L := []) (g := 44790) ⟨fun i hi => absurd hi (Nat.not_lt_zero i), fun c hc => ?_⟩ (by decide) (by decide) fun al' am' hY' => ?_
      · rw [hs (c / 32) (by omega), b_0]
        exact ⟨fun z => absurd z (by decide), fun z => absurd z List.not_mem_nil⟩
      · exact ⟨721, pg_ybl hP hm hG hag 720 0 721 [44790] al' am' (by decide) (by decide) pg_W0 hY' hp⟩
  · intro n i s hi hs hw
    refine br_f (nI_ge (b := 1458) hi (by decide)) ⟨vp_in_nI hi (by decide), nm_r (e' := upd s i 0) (by rw [nI_clamp (by omega)]) (nm_r (nI_1 i) (hw _ fun k hk => ?_))⟩
    by_cases h : k = i
    · rw [h, pk_us]
    · rw [pk_un h]
      exact hs k (by omega)
/-! the reference's constructor -/
def pg_YA (aa : Nat → Int32) : Prop := ∀ i, i < 720 → aa i = nI ((pg_gr pg_g2 2).getD i 0)
theorem pg_yi3 {post : SY → Prop} {fc fo : Int32} {ag al am ap aa : Nat → Int32} (hP : pg_YP ap) (hY : pg_YL (pg_gr pg_g2 2) al am) (hp : ∀ al' am' aa', pg_YL (pg_gr (fun _ => 0) 0) al' am' → pg_YA aa' → post (nI 0, nI (pg_gr (fun _ => 0) 0).length, ag, al', am', ap, aa')) : ∃ n, wY_init_157 post fc fo n 0 ag al am ap aa := by
  refine loop_0 (fun n i s => wY_init_157 post fc fo n (nI i) ag al am ap s) (fun i s => ∀ k, k < i → s k = nI ((pg_gr pg_g2 2).getD k 0)) 720 aa (fun k hk => absurd hk (Nat.not_lt_zero k)) ?_ ?_
  · intro n s hs
    refine br_t (by decide) ?_
    exact pg_yre (G := fun _ => 0) (m := 0) hP (by decide) (fun j hj => absurd hj (Nat.not_lt_zero j)) (fun j hj => absurd hj (Nat.not_lt_zero j)) fun al' am' hY' => hp al' am' s hY' hs
  · intro n i s hi hs hw
    have hin : vp_in (nI i) 720 := vp_in_nI hi (by decide)
    refine br_f (nI_ge (b := 720) hi (by decide)) ⟨hin, hin, nm_r (e' := upd s i (nI ((pg_gr pg_g2 2).getD i 0))) ?_ (nm_r (nI_1 i) (hw _ fun k hk => ?_))⟩
    · rw [pg_cl720 hi, hY.1 i (by rw [pg_g2_len]; exact hi)]
    · by_cases h : k = i
      · rw [h, pk_us]
      · rw [pk_un h]
        exact hs k (by omega)
def pg_s0 (i : Nat) : Nat := pg_fo (fun i s => s + 6 ^ i * ((i + 1) % 6)) i 0
def pg_s1 (i : Nat) : Nat := pg_fo (fun i s => s + 6 ^ i * (if i < 2 then 1 - i else i)) i 0
theorem pg_yi2 {post : SY → Prop} {fc fo : Int32} {ag al am ap aa : Nat → Int32} (hP : pg_YP ap) (h0 : ag 0 = 0) (h1 : ag 1 = 0) (hp : ∀ ag' al' am' aa', pg_YL (pg_gr (fun _ => 0) 0) al' am' → pg_YA aa' → post (nI 0, nI (pg_gr (fun _ => 0) 0).length, ag', al', am', ap, aa')) : ∃ n, wY_init_76 post fc fo n 0 ag al am ap aa := by
  refine loop_0 (fun n i s => wY_init_76 post fc fo n (nI i) s al am ap aa) (fun i s => s 0 = nI (pg_s0 i) ∧ s 1 = nI (pg_s1 i)) 6 ag ⟨h0, h1⟩ ?_ ?_
  · intro n s hs
    refine br_t pg_ge6 ?_
    refine pg_yre (G := pg_g2) (m := 2) hP (by decide) (fun j _ => pg_g2_ip j) (fun j hj => ?_) fun al' am' hY' => ?_
    · match j, hj with
      | 0, _ => exact hs.1
      | 1, _ => exact hs.2
      | j + 2, h => exact absurd h (by omega)
    · exact pg_yi3 hP hY' (hp s)
  · intro n i s hi hs hw
    have hin : vp_in (nI i) 6 := vp_in_nI hi (by decide)
    refine br_f (pg_le6 hi) ⟨hin, pg_60, nm_r (e' := upd s 0 (nI (pg_s0 (i + 1)))) ?_ ⟨hin, ?_⟩⟩
    · rw [nI_1, pg_rem6 (by omega), pg_cl6 hi, hP i hi, pk_mul, hs.1, nI_add]
      rfl
    · have e1 : upd s 0 (nI (pg_s0 (i + 1))) 1 = nI (pg_s1 i) := by
        rw [pk_un (by decide)]
        exact hs.2
      rw [e1, pg_cl6 hi, hP i hi]
      by_cases h : i < 2
      · refine br_f (nI_ge (b := 2) h (by decide)) (nm_r (e' := upd (upd s 0 (nI (pg_s0 (i + 1)))) 1 (nI (pg_s1 (i + 1)))) ?_ (nm_r (nI_1 i) (hw _ ⟨?_, pk_us⟩)))
        · have e2 : (1 : Int32) - nI i = nI (1 - i) := pk_sub (a := 1) (by omega)
          rw [e2, pk_mul, nI_add]
          show _ = upd _ 1 (nI (pg_s1 i + 6 ^ i * (if i < 2 then 1 - i else i)))
          rw [if_pos h]
        · rw [pk_un (by decide), pk_us]
      · refine br_t (nI_le (a := 2) (by omega) (by omega)) (nm_r (e' := upd (upd s 0 (nI (pg_s0 (i + 1)))) 1 (nI (pg_s1 (i + 1)))) ?_ (nm_r (nI_1 i) (hw _ ⟨?_, pk_us⟩)))
        · rw [pk_mul, nI_add]
          show _ = upd _ 1 (nI (pg_s1 i + 6 ^ i * (if i < 2 then 1 - i else i)))
          rw [if_neg h]
        · rw [pk_un (by decide), pk_us]
theorem pg_yi1 {post : SY → Prop} (hp : ∀ ag' al' am' ap' aa', pg_YP ap' → pg_YL (pg_gr (fun _ => 0) 0) al' am' → pg_YA aa' → post (nI 0, nI (pg_gr (fun _ => 0) 0).length, ag', al', am', ap', aa')) : wpY_init post := by
  unfold wpY_init
  refine loop_0 (fun n i s => wY_init_50 post 0 0 n (nI (6 ^ i)) (nI i) (fun _ => 0) (fun _ => 0) (fun _ => 0) s (fun _ => 0)) (fun i s => ∀ x, x < i → s x = nI (6 ^ x)) 6 (fun _ => 0) (fun k hk => absurd hk (Nat.not_lt_zero k)) ?_ ?_
  · intro n s hs
    exact br_t pg_ge6 (pg_yi2 hs rfl rfl fun ag' al' am' aa' => hp ag' al' am' s aa' hs)
  · intro n i s hi hs hw
    refine br_f (pg_le6 hi) ⟨vp_in_nI hi (by decide), nm_r (e' := upd s i (nI (6 ^ i))) (by rw [pg_cl6 hi]) (nm_r (e' := nI (6 ^ (i + 1))) ?_ (nm_r (nI_1 i) (hw _ fun x hx => ?_)))⟩
    · show nI 6 * nI (6 ^ i) = _
      rw [pk_mul, Nat.mul_comm, ← Nat.pow_succ]
    · by_cases h : x = i
      · rw [h, pk_us]
      · rw [pk_un h]
        exact hs x (by omega)
/-! the relation -/
/-- the generators G 0 .. G (m - 1); both sides hold the same list, found by the same search -/
def pg_R (G : Nat → Nat) (m : Nat) (ag ae ai bg bl bm bp ba : Nat → Int32) : Prop := m ≤ 5 ∧ (∀ j, j < m → pg_ip (G j)) ∧ (∀ j, j < m → ag j = nI (G j)) ∧ (∀ j, j < m → bg j = nI (G j)) ∧ pg_XL (pg_gr G m) ae ai ∧ pg_YL (pg_gr G m) bl bm ∧ pg_YP bp ∧ pg_YA ba
def i_Rel (_ : Nat) (u : SX) (v : SY) : Prop := ∃ (G : Nat → Nat) (m : Nat) (ag ae ai bg bl bm bp ba : Nat → Int32), u = (nI m, nI (pg_gr G m).length, ag, ae, ai, 46656) ∧ v = (nI m, nI (pg_gr G m).length, bg, bl, bm, bp, ba) ∧ pg_R G m ag ae ai bg bl bm bp ba
theorem i_up {k : Nat} {u : SX} {v : SY} (h : i_Rel k u v) : i_Rel (k + 3) u v := h
theorem i_vc0 : wpX_init (fun u => wpY_init (fun v => i_Rel 0 u v)) := by
  refine ⟨by decide, nm_r (e' := 46656) (by decide) ⟨Nat.le_refl _, ?_⟩⟩
  refine pg_xre (G := fun _ => 0) (m := 0) (L := []) (by decide) (fun j hj => absurd hj (Nat.not_lt_zero j)) (fun j hj => absurd hj (Nat.not_lt_zero j)) (fun a ha => absurd ha List.not_mem_nil) (by decide) ⟨fun i hi => absurd hi (Nat.not_lt_zero i), fun c hc => ⟨fun _ => List.not_mem_nil, fun _ => rfl⟩⟩ fun ae' ai' hX => ?_
  refine pg_yi1 fun ag' al' am' ap' aa' hP hY hA => ?_
  exact ⟨fun _ => 0, 0, _, ae', ai', ag', al', am', ap', aa', rfl, rfl, by decide, fun j hj => absurd hj (Nat.not_lt_zero j), fun j hj => absurd hj (Nat.not_lt_zero j), fun j hj => absurd hj (Nat.not_lt_zero j), hX, hY, hP, hA⟩
end
section
/-! the methods that change the generators -/
/-- G with c behind its first m -/
def pg_ad (G : Nat → Nat) (m c : Nat) : Nat → Nat := fun j => if j = m then c else G j
theorem pg_ad_ip {G : Nat → Nat} {m c : Nat} (hG : ∀ j, j < m → pg_ip (G j)) (hc : pg_ip c) : ∀ j, j < m + 1 → pg_ip (pg_ad G m c j) := by
  intro j hj
  unfold pg_ad
  split
  · exact hc
  · exact hG j (by omega)
theorem pg_ad_ar {G : Nat → Nat} {m c : Nat} {ag : Nat → Int32} (h : ∀ j, j < m → ag j = nI (G j)) : ∀ j, j < m + 1 → upd ag m (nI c) j = nI (pg_ad G m c j) := by
  intro j hj
  unfold pg_ad
  by_cases e : j = m
  · rw [e, pk_us, if_pos rfl]
  · rw [pk_un e, if_neg e]
    exact h j (by omega)
theorem pg_W_lt {L : List Nat} (h : pg_W L) : ∀ a, a ∈ L → a < 46656 := fun a ha => (h.2.1 a ha).1
theorem i_vc_add {k : Nat} {u : SX} {v : SY} (I : i_Rel k u v) (hk : k + 3 ≤ 1536) (v1 : Int32) : wpX_add (fun r u' => wpY_add (fun r' v' => r' = r ∧ i_Rel (k + 3) u' v') v v1) u v1 := by
  obtain ⟨G, m, ag, ae, ai, bg, bl, bm, bp, ba, rfl, rfl, hR⟩ := I
  have hR' := hR
  obtain ⟨hm, hG, hag, hbg, hX, hY, hP, hA⟩ := hR'
  have hW := pg_gr_W hG
  by_cases hv : pg_iv v1
  · obtain ⟨c, rfl, hc⟩ := hv
    unfold wpX_add
    refine pg_xip_t hc (br_f pg_10 ?_)
    by_cases h5 : m < 5
    · refine br_t (nI_lt (b := 5) h5 (by decide)) ⟨vp_in_nI h5 (by decide), nm_r (e' := upd ag m (nI c)) (by rw [pg_cl5 h5]) (nm_r (nI_1 m) ?_)⟩
      refine pg_xre (G := pg_ad G m c) (m := m + 1) (L := pg_gr G m) (by omega) (pg_ad_ip hG hc) (pg_ad_ar hag) (pg_W_lt hW) hW.2.2.1 hX fun ae' ai' hX' => ?_
      unfold wpY_add
      refine pg_yip_t hP hc (br_f pg_10 (br_f (fun z => ?_) ⟨vp_in_nI h5 (by decide), nm_r (e' := upd bg m (nI c)) (by rw [pg_cl5 h5]) (nm_r (nI_1 m) ?_)⟩))
      · have e := (nI_eq (b := 5) (by omega) (by decide)).mp z
        omega
      · exact pg_yre (G := pg_ad G m c) (m := m + 1) hP (by omega) (pg_ad_ip hG hc) (pg_ad_ar hbg) fun bl' bm' hY' => ⟨rfl, _, _, _, _, _, _, _, _, _, _, rfl, rfl, by omega, pg_ad_ip hG hc, pg_ad_ar hag, pg_ad_ar hbg, hX', hY', hP, hA⟩
    · refine br_f (nI_nlt (b := 5) (by omega) (by omega)) ?_
      unfold wpY_add
      have e : m = 5 := by omega
      exact pg_yip_t hP hc (br_f pg_10 (br_t (congrArg nI e) ⟨rfl, _, _, _, _, _, _, _, _, _, _, rfl, rfl, hR⟩))
  · unfold wpX_add
    refine pg_xip_f hv (br_t rfl ?_)
    unfold wpY_add
    exact pg_yip_f hP hv (br_t rfl ⟨rfl, _, _, _, _, _, _, _, _, _, _, rfl, rfl, hR⟩)
theorem i_vc_remove {k : Nat} {u : SX} {v : SY} (I : i_Rel k u v) (hk : k + 3 ≤ 1536) : wpX_remove (fun r u' => wpY_remove (fun r' v' => r' = r ∧ i_Rel (k + 3) u' v') v) u := by
  obtain ⟨G, m, ag, ae, ai, bg, bl, bm, bp, ba, rfl, rfl, hR⟩ := I
  have hR' := hR
  obtain ⟨hm, hG, hag, hbg, hX, hY, hP, hA⟩ := hR'
  have hW := pg_gr_W hG
  unfold wpX_remove
  match m, hm, hG, hag, hbg, hX, hY, hW, hR with
  | 0, hm, hG, hag, hbg, hX, hY, hW, hR =>
    refine br_f (by decide) ?_
    unfold wpY_remove
    exact br_t rfl ⟨rfl, _, _, _, _, _, _, _, _, _, _, rfl, rfl, hR⟩
  | m + 1, hm, hG, hag, hbg, hX, hY, hW, hR =>
    have hG' : ∀ j, j < m → pg_ip (G j) := fun j hj => hG j (by omega)
    have hag' : ∀ j, j < m → ag j = nI (G j) := fun j hj => hag j (by omega)
    have hbg' : ∀ j, j < m → bg j = nI (G j) := fun j hj => hbg j (by omega)
    have h5 : m < 5 := by omega
    refine br_t (nI_lt (a := 0) (by omega) (by omega)) (nm_r (nI_pred m) ⟨vp_in_nI h5 (by decide), nm_r (e' := nI (G m)) (by rw [pg_cl5 h5]; exact hag m (by omega)) ?_⟩)
    refine pg_xre (G := G) (m := m) (L := pg_gr G (m + 1)) (by omega) hG' hag' (pg_W_lt hW) hW.2.2.1 hX fun ae' ai' hX' => ?_
    unfold wpY_remove
    refine br_f (nI_ne0 (by omega) (by omega)) (nm_r (nI_pred m) ?_)
    refine pg_yre (G := G) (m := m) hP (by omega) hG' hbg' fun bl' bm' hY' => ⟨vp_in_nI h5 (by decide), ?_, _, _, _, _, _, _, _, _, _, _, rfl, rfl, by omega, hG', hag', hbg', hX', hY', hP, hA⟩
    rw [pg_cl5 h5]
    exact hbg m (by omega)
/-- all generators carried by h -/
def pg_gc (G : Nat → Nat) (h : Nat) : Nat → Nat := fun j => pg_cj (G j) h
theorem i_vc_conjugateAll {k : Nat} {u : SX} {v : SY} (I : i_Rel k u v) (hk : k + 3 ≤ 1536) (v1 : Int32) : wpX_conjugateAll (fun r u' => wpY_conjugateAll (fun r' v' => r' = r ∧ i_Rel (k + 3) u' v') v v1) u v1 := by
  obtain ⟨G, m, ag, ae, ai, bg, bl, bm, bp, ba, rfl, rfl, hR⟩ := I
  have hR' := hR
  obtain ⟨hm, hG, hag, hbg, hX, hY, hP, hA⟩ := hR'
  have hW := pg_gr_W hG
  by_cases hv : pg_iv v1
  · obtain ⟨c, rfl, hc⟩ := hv
    have hG' : ∀ j, j < m → pg_ip (pg_gc G c j) := fun j hj => pg_ip_cj (hG j hj) hc
    unfold wpX_conjugateAll
    refine pg_xip_t hc (br_f pg_10 ?_)
    refine loop_0 (fun n i s => wX_conjugateAll_11 _ (nI c) (nI m) (nI (pg_gr G m).length) 46656 n (nI i) s ae ai) (fun i s => (∀ j, j < i → s j = nI (pg_gc G c j)) ∧ (∀ j, i ≤ j → j < m → s j = nI (G j))) m ag ⟨fun j hj => absurd hj (Nat.not_lt_zero j), fun j _ hj => hag j hj⟩ ?_ ?_
    · intro n s hs
      refine br_t (nI_le (Nat.le_refl m) (by omega)) ?_
      refine pg_xre (G := pg_gc G c) (m := m) (L := pg_gr G m) hm hG' hs.1 (pg_W_lt hW) hW.2.2.1 hX fun ae' ai' hX' => ?_
      unfold wpY_conjugateAll
      refine pg_yip_t hP hc (br_f pg_10 ?_)
      refine loop_0 (fun n i t => wY_conjugateAll_12 _ (nI c) (nI m) (nI (pg_gr G m).length) n (nI i) t bl bm bp ba) (fun i t => (∀ j, j < i → t j = nI (pg_gc G c j)) ∧ (∀ j, i ≤ j → j < m → t j = nI (G j))) m bg ⟨fun j hj => absurd hj (Nat.not_lt_zero j), fun j _ hj => hbg j hj⟩ ?_ ?_
      · intro n t ht
        refine br_t (nI_le (Nat.le_refl m) (by omega)) ?_
        exact pg_yre (G := pg_gc G c) (m := m) hP hm hG' ht.1 fun bl' bm' hY' => ⟨rfl, _, _, _, _, _, _, _, _, _, _, rfl, rfl, hm, hG', hs.1, ht.1, hX', hY', hP, hA⟩
      · intro n i t hi ht hw
        have hin : vp_in (nI i) 5 := vp_in_nI (by omega) (by decide)
        refine br_f (nI_ge hi (by omega)) ⟨hin, pg_ycj hP (hG i hi).1 hc (by rw [pg_cl5 (by omega)]; exact ht.2 i (Nat.le_refl i) hi) rfl ⟨hin, nm_r (e' := upd t i (nI (pg_gc G c i))) (by rw [pg_cl5 (by omega)]; rfl) (nm_r (nI_1 i) (hw _ ⟨fun j hj => ?_, fun j h1 h2 => ?_⟩))⟩⟩
        · by_cases e : j = i
          · rw [e, pk_us]
          · rw [pk_un e]; exact ht.1 j (by omega)
        · rw [pk_un (by omega)]; exact ht.2 j (by omega) h2
    · intro n i s hi hs hw
      have hin : vp_in (nI i) 5 := vp_in_nI (by omega) (by decide)
      refine br_f (nI_ge hi (by omega)) ⟨hin, pg_xcj (hG i hi).1 hc (by rw [pg_cl5 (by omega)]; exact hs.2 i (Nat.le_refl i) hi) rfl ⟨hin, nm_r (e' := upd s i (nI (pg_gc G c i))) (by rw [pg_cl5 (by omega)]; rfl) (nm_r (nI_1 i) (hw _ ⟨fun j hj => ?_, fun j h1 h2 => ?_⟩))⟩⟩
      · by_cases e : j = i
        · rw [e, pk_us]
        · rw [pk_un e]; exact hs.1 j (by omega)
      · rw [pk_un (by omega)]; exact hs.2 j (by omega) h2
  · unfold wpX_conjugateAll
    refine pg_xip_f hv (br_t rfl ?_)
    unfold wpY_conjugateAll
    exact pg_yip_f hP hv (br_t rfl ⟨rfl, _, _, _, _, _, _, _, _, _, _, rfl, rfl, hR⟩)
end
section
/-! generators, product, inverse, order, has -/
theorem i_vc_generators {k : Nat} {u : SX} {v : SY} (I : i_Rel k u v) (hk : k + 3 ≤ 1536) : wpX_generators (fun r => wpY_generators (fun r' => r' = r ∧ i_Rel (k + 3) u v) v) u := by
  have I' := I
  obtain ⟨G, m, ag, ae, ai, bg, bl, bm, bp, ba, rfl, rfl, hR⟩ := I'
  exact ⟨rfl, I⟩
theorem i_vc_order {k : Nat} {u : SX} {v : SY} (I : i_Rel k u v) (hk : k + 3 ≤ 1536) : wpX_order (fun r => wpY_order (fun r' => r' = r ∧ i_Rel (k + 3) u v) v) u := by
  have I' := I
  obtain ⟨G, m, ag, ae, ai, bg, bl, bm, bp, ba, rfl, rfl, hR⟩ := I'
  exact ⟨rfl, I⟩
theorem i_vc_product {k : Nat} {u : SX} {v : SY} (I : i_Rel k u v) (hk : k + 3 ≤ 1536) (v1 : Int32) (v2 : Int32) : wpX_product (fun r => wpY_product (fun r' => r' = r ∧ i_Rel (k + 3) u v) v v1 v2) u v1 v2 := by
  have I' := I
  obtain ⟨G, m, ag, ae, ai, bg, bl, bm, bp, ba, rfl, rfl, hm, hG, hag, hbg, hX, hY, hP, hA⟩ := I'
  unfold wpX_product
  by_cases h1 : pg_iv v1
  · obtain ⟨c, rfl, hc⟩ := h1
    refine pg_xip_t hc (br_f pg_10 ?_)
    by_cases h2 : pg_iv v2
    · obtain ⟨d, rfl, hd⟩ := h2
      refine pg_xip_t hd (br_f pg_10 (pg_xcm (pg_31 hc.1) (pg_31 hd.1) rfl rfl ?_))
      unfold wpY_product
      exact pg_yip_t hP hc (br_f pg_10 (pg_yip_t hP hd (br_f pg_10 (pg_yti hP (pg_31 hc.1) (pg_31 hd.1) rfl rfl ⟨rfl, I⟩))))
    · refine pg_xip_f h2 (br_t rfl ?_)
      unfold wpY_product
      exact pg_yip_t hP hc (br_f pg_10 (pg_yip_f hP h2 (br_t rfl ⟨rfl, I⟩)))
  · refine pg_xip_f h1 (br_t rfl ?_)
    unfold wpY_product
    exact pg_yip_f hP h1 (br_t rfl ⟨rfl, I⟩)
theorem i_vc_inverse {k : Nat} {u : SX} {v : SY} (I : i_Rel k u v) (hk : k + 3 ≤ 1536) (v1 : Int32) : wpX_inverse (fun r => wpY_inverse (fun r' => r' = r ∧ i_Rel (k + 3) u v) v v1) u v1 := by
  have I' := I
  obtain ⟨G, m, ag, ae, ai, bg, bl, bm, bp, ba, rfl, rfl, hm, hG, hag, hbg, hX, hY, hP, hA⟩ := I'
  unfold wpX_inverse
  by_cases h1 : pg_iv v1
  · obtain ⟨c, rfl, hc⟩ := h1
    refine pg_xip_t hc (br_f pg_10 (pg_xiv (pg_31 hc.1) rfl ?_))
    unfold wpY_inverse
    exact pg_yip_t hP hc (br_f pg_10 (pg_yiv hP (pg_31 hc.1) rfl ⟨rfl, I⟩))
  · refine pg_xip_f h1 (br_t rfl ?_)
    unfold wpY_inverse
    exact pg_yip_f hP h1 (br_t rfl ⟨rfl, I⟩)
theorem i_vc_has {k : Nat} {u : SX} {v : SY} (I : i_Rel k u v) (hk : k + 3 ≤ 1536) (v1 : Int32) : wpX_has (fun r => wpY_has (fun r' => r' = r ∧ i_Rel (k + 3) u v) v v1) u v1 := by
  have I' := I
  obtain ⟨G, m, ag, ae, ai, bg, bl, bm, bp, ba, rfl, rfl, hm, hG, hag, hbg, hX, hY, hP, hA⟩ := I'
  unfold wpX_has
  by_cases h1 : pg_iv v1
  · obtain ⟨c, rfl, hc⟩ := h1
    refine pg_xip_t hc (br_f pg_10 ⟨vp_in_nI hc.1 (by decide), ?_⟩)
    rw [nI_clamp (pg_31 hc.1)]
    by_cases hm : c ∈ pg_gr G m
    · refine br_f (fun z => (hX.2 c hc.1).mp z hm) ?_
      unfold wpY_has
      exact pg_yip_t hP hc (br_f pg_10 (pg_yim hY hc.1 rfl (fun _ => br_f pg_10 ⟨rfl, I⟩) (fun z => absurd hm z)))
    · refine br_t ((hX.2 c hc.1).mpr hm) ?_
      unfold wpY_has
      exact pg_yip_t hP hc (br_f pg_10 (pg_yim hY hc.1 rfl (fun z => absurd z hm) (fun _ => br_t rfl ⟨rfl, I⟩)))
  · refine pg_xip_f h1 (br_t rfl ?_)
    unfold wpY_has
    exact pg_yip_f hP h1 (br_t rfl ⟨rfl, I⟩)
end
section
/-! orbit and orbits -/
def pg_ob (L : List Nat) (x : Nat) : Int32 := pg_fo (fun i s => s ||| ((1 : Int32) <<< (nI (pg_dg (L.getD i 0) x) &&& 31))) L.length 0
theorem pg_ob_n (L : List Nat) (x : Nat) {y : Nat} (hy : y < 32) : ∀ N, bt (pg_fo (fun i s => s ||| ((1 : Int32) <<< (nI (pg_dg (L.getD i 0) x) &&& 31))) N 0) y = true ↔ ∃ i, i < N ∧ pg_dg (L.getD i 0) x = y := by
  intro N
  induction N with
  | zero =>
    show bt 0 y = true ↔ _
    rw [b_0]
    exact ⟨fun z => absurd z (by decide), fun ⟨i, hi, _⟩ => absurd hi (Nat.not_lt_zero i)⟩
  | succ N ih =>
    rw [pg_fo, b_or, pg_b2 (Nat.lt_trans (pg_dg_lt _ x) (by decide)) hy, Bool.or_eq_true, ih, decide_eq_true_eq]
    constructor
    · rintro (⟨i, hi, e⟩ | e)
      · exact ⟨i, by omega, e⟩
      · exact ⟨N, by omega, e⟩
    · rintro ⟨i, hi, e⟩
      by_cases h : i = N
      · exact Or.inr (h ▸ e)
      · exact Or.inl ⟨i, by omega, e⟩
theorem pg_ob_b (L : List Nat) (x : Nat) {y : Nat} (hy : y < 32) : bt (pg_ob L x) y = true ↔ pg_or L x y := by
  unfold pg_ob
  rw [pg_ob_n L x hy]
  constructor
  · exact fun ⟨i, hi, e⟩ => ⟨_, pg_get_mem hi, e⟩
  · rintro ⟨a, ha, e⟩
    obtain ⟨i, hi, ei⟩ := pg_mem_get ha
    exact ⟨i, hi, by rw [ei]; exact e⟩
theorem pg_xob {post : Int32 → Prop} {L : List Nat} {gc : Int32} {ag ae ai : Nat → Int32} {ni x : Nat} (hW : pg_W L) (hX : pg_XL L ae ai) (hx : x < 6) {B : Int32} (eB : B = nI x) (h : post (pg_ob L x)) : wpX_orbitOf post (gc, nI L.length, ag, ae, ai, ni) B := by
  subst eB
  have hl := hW.2.2.1
  unfold wpX_orbitOf
  refine pg_fl (fun n i s => wX_orbitOf_4 post (nI x) gc (nI L.length) ag ae ai ni n s (nI i)) (fun i s => s ||| ((1 : Int32) <<< (nI (pg_dg (L.getD i 0) x) &&& 31))) L.length 0 (fun n i s hi w => ?_) (fun n => ?_)
  · exact br_f (nI_ge hi (by omega)) ⟨vp_in_nI (by omega) (by decide), pg_xim (pg_31 (hW.2.1 _ (pg_get_mem hi)).1) hx (by rw [pg_cl720 (by omega)]; exact hX.1 i hi) rfl (nm_e (nm_r (nI_1 i) w))⟩
  · exact br_t (nI_le (Nat.le_refl _) (by omega)) h
theorem pg_yob {post : Int32 → Prop} {L : List Nat} {gc : Int32} {ag al am ap aa : Nat → Int32} {x : Nat} (hP : pg_YP ap) (hW : pg_W L) (hY : pg_YL L al am) (hx : x < 6) {B : Int32} (eB : B = nI x) (h : post (pg_ob L x)) : wpY_orbitOf post (gc, nI L.length, ag, al, am, ap, aa) B := by
  subst eB
  have hl := hW.2.2.1
  unfold wpY_orbitOf
  refine pg_fl (fun n i s => wY_orbitOf_4 post (nI x) gc (nI L.length) ag al am ap aa n s (nI i)) (fun i s => s ||| ((1 : Int32) <<< (nI (pg_dg (L.getD i 0) x) &&& 31))) L.length 0 (fun n i s hi w => ?_) (fun n => ?_)
  · exact br_f (nI_ge hi (by omega)) ⟨vp_in_nI (by omega) (by decide), pg_yca hP (pg_31 (hW.2.1 _ (pg_get_mem hi)).1) hx (by rw [pg_cl720 (by omega)]; exact hY.1 i hi) rfl (nm_e (nm_r (nI_1 i) w))⟩
  · exact br_t (nI_le (Nat.le_refl _) (by omega)) h
theorem pg_xpt {post : Int32 → Prop} {x : Nat} (hx : x < 6) (h : post 1) : wpX_isPoint post (nI x) := br_f (nI_pos (by omega)) (br_f (pg_le6 hx) h)
theorem pg_pt (v : Int32) : v < 0 ∨ (¬ v < 0 ∧ (6 : Int32) ≤ v ∧ ¬ v ≤ 5 ∧ 5 < v) ∨ ∃ x, x < 6 ∧ v = nI x := by
  by_cases h0 : v < 0
  · exact Or.inl h0
  · obtain ⟨x, hx, rfl⟩ := nI_of h0
    by_cases h : x < 6
    · exact Or.inr (Or.inr ⟨x, h, rfl⟩)
    · exact Or.inr (Or.inl ⟨h0, nI_le (a := 6) (by omega) hx, nI_ge (a := 5) (by omega) hx, nI_lt (a := 5) (by omega) hx⟩)
theorem i_vc_orbit {k : Nat} {u : SX} {v : SY} (I : i_Rel k u v) (hk : k + 3 ≤ 1536) (v1 : Int32) : wpX_orbit (fun r => wpY_orbit (fun r' => r' = r ∧ i_Rel (k + 3) u v) v v1) u v1 := by
  have I' := I
  obtain ⟨G, m, ag, ae, ai, bg, bl, bm, bp, ba, rfl, rfl, hm, hG, hag, hbg, hX, hY, hP, hA⟩ := I'
  have hW := pg_gr_W hG
  unfold wpX_orbit
  rcases pg_pt v1 with h | ⟨h0, h6, h5, _⟩ | ⟨x, hx, rfl⟩
  · refine br_t h (br_t rfl ?_)
    unfold wpY_orbit
    exact br_t h ⟨rfl, I⟩
  · refine br_f h0 (br_t h6 (br_t rfl ?_))
    unfold wpY_orbit
    exact br_f h0 (br_f h5 ⟨rfl, I⟩)
  · refine pg_xpt hx (br_f pg_10 (pg_xob hW hX hx rfl ?_))
    unfold wpY_orbit
    exact br_f (nI_pos (by omega)) (br_t (nI_le (b := 5) (by omega) (by decide)) (pg_yob hP hW hY hx rfl ⟨rfl, I⟩))
/-- the least point of its orbit -/
def pg_lp (L : List Nat) (x : Nat) : Bool := decide (pg_ob L x &&& (((1 : Int32) <<< (nI x &&& 31)) - 1) = 0)
theorem pg_lp_s {L : List Nat} {x : Nat} (hx : x < 6) : pg_lp L x = true ↔ ¬ ∃ y, y < x ∧ pg_or L x y := by
  unfold pg_lp
  rw [decide_eq_true_eq, pg_and0]
  constructor
  · rintro h ⟨y, hy, ho⟩
    exact h y (by omega) ⟨(pg_ob_b L x (by omega)).mpr ho, by rw [pg_low x hx y (by omega)]; exact decide_eq_true hy⟩
  · rintro h i hi ⟨h1, h2⟩
    rw [pg_low x hx i hi, decide_eq_true_eq] at h2
    exact h ⟨i, h2, (pg_ob_b L x hi).mp h1⟩
theorem pg_xos {post : Int32 → Prop} {G : Nat → Nat} {m : Nat} {gc : Int32} {ag ae ai : Nat → Int32} {ni : Nat} (hG : ∀ j, j < m → pg_ip (G j)) (hX : pg_XL (pg_gr G m) ae ai) (h : post (nI (pg_cn (pg_lp (pg_gr G m)) 6))) : wpX_orbits post (gc, nI (pg_gr G m).length, ag, ae, ai, ni) := by
  have hW := pg_gr_W hG
  unfold wpX_orbits
  refine loop_0 (fun n i (s : Nat × Int32) => wX_orbits_6 post gc (nI (pg_gr G m).length) ag ae ai ni n (nI s.1) s.2 (nI i)) (fun i s => s.1 = pg_cn (pg_lp (pg_gr G m)) i ∧ ∀ z, z < 6 → (bt s.2 z = true ↔ ∃ y, y < i ∧ pg_or (pg_gr G m) y z)) 6 (0, 0) ⟨rfl, fun z hz => ?_⟩ ?_ ?_
  · show bt 0 z = true ↔ _
    rw [b_0]
    exact ⟨fun z => absurd z (by decide), fun ⟨y, hy, _⟩ => absurd hy (Nat.not_lt_zero y)⟩
  · intro n s hs
    refine br_t pg_ge6 ?_
    show post (nI s.1)
    rw [hs.1]
    exact h
  · intro n i s hi hs hw
    have hlp : pg_lp (pg_gr G m) i = true ↔ ¬ ∃ y, y < i ∧ pg_or (pg_gr G m) y i := by
      rw [pg_lp_s hi]
      constructor
      · exact fun h ⟨y, hy, ho⟩ => h ⟨y, hy, pg_or_symm hG (by omega) hi ho⟩
      · exact fun h ⟨y, hy, ho⟩ => h ⟨y, hy, pg_or_symm hG hi (by omega) ho⟩
    refine br_f (pg_le6 hi) (br_c (fun z => ?_) (fun z => ?_))
    · have hb := (pg_bit0 (by omega) s.2).mp z
      have hn : ¬ ∃ y, y < i ∧ pg_or (pg_gr G m) y i := fun h => by
        rw [(hs.2 i hi).mpr h] at hb
        exact absurd hb (by decide)
      refine pg_xob hW hX hi rfl (nm_e (nm_r (nI_1 s.1) (nm_r (nI_1 i) (hw (s.1 + 1, s.2 ||| pg_ob (pg_gr G m) i) ⟨?_, fun y hy => ?_⟩))))
      · show s.1 + 1 = if pg_lp (pg_gr G m) i = true then pg_cn (pg_lp (pg_gr G m)) i + 1 else pg_cn (pg_lp (pg_gr G m)) i
        rw [if_pos (hlp.mpr hn), hs.1]
      · show bt (s.2 ||| pg_ob (pg_gr G m) i) y = true ↔ _
        rw [b_or, Bool.or_eq_true, hs.2 y hy, pg_ob_b _ _ (by omega)]
        constructor
        · rintro (⟨w, hw, ho⟩ | ho)
          · exact ⟨w, by omega, ho⟩
          · exact ⟨i, by omega, ho⟩
        · rintro ⟨w, hw, ho⟩
          by_cases e : w = i
          · exact Or.inr (e ▸ ho)
          · exact Or.inl ⟨w, by omega, ho⟩
    · have hn : ∃ y, y < i ∧ pg_or (pg_gr G m) y i := by
        refine Classical.byContradiction fun h => z ((pg_bit0 (by omega) s.2).mpr (Bool.eq_false_iff.mpr fun hb => h ((hs.2 i hi).mp hb)))
      refine nm_r (nI_1 i) (hw s ⟨?_, fun y hy => ?_⟩)
      · show s.1 = if pg_lp (pg_gr G m) i = true then pg_cn (pg_lp (pg_gr G m)) i + 1 else pg_cn (pg_lp (pg_gr G m)) i
        rw [if_neg (fun t => hlp.mp t hn), hs.1]
      · rw [hs.2 y hy]
        constructor
        · rintro ⟨w, hw, ho⟩
          exact ⟨w, by omega, ho⟩
        · rintro ⟨w, hw, ho⟩
          by_cases e : w = i
          · obtain ⟨t, ht, hto⟩ := hn
            exact ⟨t, ht, pg_or_trans hG (by omega) hto (e ▸ ho)⟩
          · exact ⟨w, by omega, ho⟩
theorem pg_yos {post : Int32 → Prop} {L : List Nat} {gc : Int32} {ag al am ap aa : Nat → Int32} (hP : pg_YP ap) (hW : pg_W L) (hY : pg_YL L al am) (h : post (nI (pg_cn (pg_lp L) 6))) : wpY_orbits post (gc, nI L.length, ag, al, am, ap, aa) := by
  unfold wpY_orbits
  refine pg_cnl (fun n i s => wY_orbits_4 post gc (nI L.length) ag al am ap aa n (nI s) (nI i)) (pg_lp L) 6 (fun n i s hi hp w => ?_) (fun n i s hi hp w => ?_) (fun n => br_t pg_ge6 h)
  · exact br_f (pg_le6 hi) (pg_yob hP hW hY hi rfl (nm_e (br_t (of_decide_eq_true hp) (nm_r (nI_1 s) (nm_r (nI_1 i) w)))))
  · exact br_f (pg_le6 hi) (pg_yob hP hW hY hi rfl (nm_e (br_f (of_decide_eq_false hp) (nm_r (nI_1 i) w))))
theorem i_vc_orbits {k : Nat} {u : SX} {v : SY} (I : i_Rel k u v) (hk : k + 3 ≤ 1536) : wpX_orbits (fun r => wpY_orbits (fun r' => r' = r ∧ i_Rel (k + 3) u v) v) u := by
  have I' := I
  obtain ⟨G, m, ag, ae, ai, bg, bl, bm, bp, ba, rfl, rfl, hm, hG, hag, hbg, hX, hY, hP, hA⟩ := I'
  exact pg_xos hG hX (pg_yos hP (pg_gr_W hG) hY ⟨rfl, I⟩)
end
section
/-! fixing, keeping, images -/
theorem pg_st (v : Int32) : v < 0 ∨ (¬ v < 0 ∧ (64 : Int32) ≤ v ∧ 63 < v) ∨ (¬ v < 0 ∧ ¬ (64 : Int32) ≤ v ∧ ¬ 63 < v) := by
  by_cases h0 : v < 0
  · exact Or.inl h0
  · obtain ⟨x, hx, rfl⟩ := nI_of h0
    by_cases h : x < 64
    · exact Or.inr (Or.inr ⟨h0, nI_ge (b := 64) h (by decide), nI_nlt (a := 63) (by omega) (by decide)⟩)
    · exact Or.inr (Or.inl ⟨h0, nI_le (a := 64) (by omega) hx, nI_lt (a := 63) (by omega) hx⟩)
noncomputable def pg_cd (P : Prop) : Bool := @decide P (Classical.propDecidable P)
theorem pg_cd_t {P : Prop} (h : pg_cd P = true) : P := @of_decide_eq_true P (Classical.propDecidable P) h
theorem pg_cd_f {P : Prop} (h : pg_cd P = false) : ¬ P := @of_decide_eq_false P (Classical.propDecidable P) h
theorem pg_cd_i {P : Prop} : pg_cd P = true ↔ P := ⟨pg_cd_t, fun h => @decide_eq_true P (Classical.propDecidable P) h⟩
theorem i_vc_fixing {k : Nat} {u : SX} {v : SY} (I : i_Rel k u v) (hk : k + 3 ≤ 1536) (v1 : Int32) : wpX_fixing (fun r => wpY_fixing (fun r' => r' = r ∧ i_Rel (k + 3) u v) v v1) u v1 := by
  have I' := I
  obtain ⟨G, m, ag, ae, ai, bg, bl, bm, bp, ba, rfl, rfl, hm, hG, hag, hbg, hX, hY, hP, hA⟩ := I'
  have hW := pg_gr_W hG
  have hl := hW.2.2.1
  have hlt := pg_W_lt hW
  unfold wpX_fixing
  rcases pg_st v1 with h | ⟨h0, h6, h5⟩ | ⟨h0, h6, h5⟩
  · refine br_t h (br_t rfl ?_)
    unfold wpY_fixing
    exact br_t h (br_t rfl ⟨rfl, I⟩)
  · refine br_f h0 (br_t h6 (br_t rfl ?_))
    unfold wpY_fixing
    exact br_f h0 (br_t h5 (br_t rfl ⟨rfl, I⟩))
  · refine br_f h0 (br_f h6 (br_f pg_10 ?_))
    refine pg_cnl (fun n i s => wX_fixing_13 _ v1 (nI m) (nI (pg_gr G m).length) ag ae ai 46656 n (nI s) (nI i)) (fun i => pg_cd (pg_fx v1 ((pg_gr G m).getD i 0))) (pg_gr G m).length (fun n i s hi hp w => ?_) (fun n i s hi hp w => ?_) (fun n => br_t (nI_le (Nat.le_refl _) (by omega)) ?_)
    · exact br_f (nI_ge hi (by omega)) ⟨vp_in_nI (by omega) (by decide), pg_xfx (pg_31 (hlt _ (pg_get_mem hi))) (by rw [pg_cl720 (by omega)]; exact hX.1 i hi) (fun _ => br_f pg_10 (nm_r (nI_1 s) (nm_r (nI_1 i) w))) (fun z => absurd (pg_cd_t hp) z)⟩
    · exact br_f (nI_ge hi (by omega)) ⟨vp_in_nI (by omega) (by decide), pg_xfx (pg_31 (hlt _ (pg_get_mem hi))) (by rw [pg_cl720 (by omega)]; exact hX.1 i hi) (fun z => absurd z (pg_cd_f hp)) (fun _ => br_t rfl (nm_r (nI_1 i) w))⟩
    · unfold wpY_fixing
      refine br_f h0 (br_f h5 (br_f pg_10 ?_))
      refine pg_cnl (fun n i s => wY_fixing_14 _ v1 (nI m) (nI (pg_gr G m).length) bg bl bm bp ba n (nI s) (nI i)) (fun i => pg_cd (pg_fx v1 ((pg_gr G m).getD i 0))) (pg_gr G m).length (fun n i s hi hp w => ?_) (fun n i s hi hp w => ?_) (fun n => br_t (nI_le (Nat.le_refl _) (by omega)) ⟨rfl, I⟩)
      · exact br_f (nI_ge hi (by omega)) ⟨vp_in_nI (by omega) (by decide), pg_yfx hP (pg_31 (hlt _ (pg_get_mem hi))) (by rw [pg_cl720 (by omega)]; exact hY.1 i hi) (fun _ => br_f pg_10 (nm_r (nI_1 s) (nm_r (nI_1 i) w))) (fun z => absurd (pg_cd_t hp) z)⟩
      · exact br_f (nI_ge hi (by omega)) ⟨vp_in_nI (by omega) (by decide), pg_yfx hP (pg_31 (hlt _ (pg_get_mem hi))) (by rw [pg_cl720 (by omega)]; exact hY.1 i hi) (fun z => absurd z (pg_cd_f hp)) (fun _ => br_t rfl (nm_r (nI_1 i) w))⟩
theorem i_vc_keeping {k : Nat} {u : SX} {v : SY} (I : i_Rel k u v) (hk : k + 3 ≤ 1536) (v1 : Int32) : wpX_keeping (fun r => wpY_keeping (fun r' => r' = r ∧ i_Rel (k + 3) u v) v v1) u v1 := by
  have I' := I
  obtain ⟨G, m, ag, ae, ai, bg, bl, bm, bp, ba, rfl, rfl, hm, hG, hag, hbg, hX, hY, hP, hA⟩ := I'
  have hW := pg_gr_W hG
  have hl := hW.2.2.1
  have hlt := pg_W_lt hW
  unfold wpX_keeping
  rcases pg_st v1 with h | ⟨h0, h6, h5⟩ | ⟨h0, h6, h5⟩
  · refine br_t h (br_t rfl ?_)
    unfold wpY_keeping
    exact br_t h (br_t rfl ⟨rfl, I⟩)
  · refine br_f h0 (br_t h6 (br_t rfl ?_))
    unfold wpY_keeping
    exact br_f h0 (br_t h5 (br_t rfl ⟨rfl, I⟩))
  · refine br_f h0 (br_f h6 (br_f pg_10 ?_))
    refine pg_cnl (fun n i s => wX_keeping_13 _ v1 (nI m) (nI (pg_gr G m).length) ag ae ai 46656 n (nI s) (nI i)) (fun i => decide (pg_im v1 ((pg_gr G m).getD i 0) = v1)) (pg_gr G m).length (fun n i s hi hp w => ?_) (fun n i s hi hp w => ?_) (fun n => br_t (nI_le (Nat.le_refl _) (by omega)) ?_)
    · exact br_f (nI_ge hi (by omega)) ⟨vp_in_nI (by omega) (by decide), pg_xis (pg_31 (hlt _ (pg_get_mem hi))) (by rw [pg_cl720 (by omega)]; exact hX.1 i hi) (br_t (of_decide_eq_true hp) (nm_r (nI_1 s) (nm_r (nI_1 i) w)))⟩
    · exact br_f (nI_ge hi (by omega)) ⟨vp_in_nI (by omega) (by decide), pg_xis (pg_31 (hlt _ (pg_get_mem hi))) (by rw [pg_cl720 (by omega)]; exact hX.1 i hi) (br_f (of_decide_eq_false hp) (nm_r (nI_1 i) w))⟩
    · unfold wpY_keeping
      refine br_f h0 (br_f h5 (br_f pg_10 ?_))
      refine pg_cnl (fun n i s => wY_keeping_14 _ v1 (nI m) (nI (pg_gr G m).length) bg bl bm bp ba n (nI s) (nI i)) (fun i => decide (pg_im v1 ((pg_gr G m).getD i 0) = v1)) (pg_gr G m).length (fun n i s hi hp w => ?_) (fun n i s hi hp w => ?_) (fun n => br_t (nI_le (Nat.le_refl _) (by omega)) ⟨rfl, I⟩)
      · exact br_f (nI_ge hi (by omega)) ⟨vp_in_nI (by omega) (by decide), pg_yis hP (pg_31 (hlt _ (pg_get_mem hi))) (by rw [pg_cl720 (by omega)]; exact hY.1 i hi) (br_t (of_decide_eq_true hp) (nm_r (nI_1 s) (nm_r (nI_1 i) w)))⟩
      · exact br_f (nI_ge hi (by omega)) ⟨vp_in_nI (by omega) (by decide), pg_yis hP (pg_31 (hlt _ (pg_get_mem hi))) (by rw [pg_cl720 (by omega)]; exact hY.1 i hi) (br_f (of_decide_eq_false hp) (nm_r (nI_1 i) w))⟩
/-- the sets met, as the bits of a long -/
def pg_ig (S : Int32) (L : List Nat) (i : Nat) (s : Int64) : Int64 := s ||| ((1 : Int64) <<< ((pg_im S (L.getD i 0)).toInt64 &&& 63))
theorem i_vc_images {k : Nat} {u : SX} {v : SY} (I : i_Rel k u v) (hk : k + 3 ≤ 1536) (v1 : Int32) : wpX_images (fun r => wpY_images (fun r' => r' = r ∧ i_Rel (k + 3) u v) v v1) u v1 := by
  have I' := I
  obtain ⟨G, m, ag, ae, ai, bg, bl, bm, bp, ba, rfl, rfl, hm, hG, hag, hbg, hX, hY, hP, hA⟩ := I'
  have hW := pg_gr_W hG
  have hl := hW.2.2.1
  have hlt := pg_W_lt hW
  unfold wpX_images
  rcases pg_st v1 with h | ⟨h0, h6, h5⟩ | ⟨h0, h6, h5⟩
  · refine br_t h (br_t rfl ?_)
    unfold wpY_images
    exact br_t h (br_t rfl ⟨rfl, I⟩)
  · refine br_f h0 (br_t h6 (br_t rfl ?_))
    unfold wpY_images
    exact br_f h0 (br_t h5 (br_t rfl ⟨rfl, I⟩))
  · refine br_f h0 (br_f h6 (br_f pg_10 ?_))
    refine pg_fl (fun n i s => wX_images_14 _ v1 (nI m) (nI (pg_gr G m).length) ag ae ai 46656 n s (nI i)) (pg_ig v1 (pg_gr G m)) (pg_gr G m).length 0 (fun n i s hi w => ?_) (fun n => br_t (nI_le (Nat.le_refl _) (by omega)) (pg_xcb ?_))
    · exact br_f (nI_ge hi (by omega)) ⟨vp_in_nI (by omega) (by decide), pg_xis (pg_31 (hlt _ (pg_get_mem hi))) (by rw [pg_cl720 (by omega)]; exact hX.1 i hi) (nm_e (nm_r (nI_1 i) w))⟩
    · unfold wpY_images
      refine br_f h0 (br_f h5 (br_f pg_10 ?_))
      refine pg_fl (fun n i s => wY_images_15 _ v1 (nI m) (nI (pg_gr G m).length) bg bl bm bp ba n s (nI i)) (pg_ig v1 (pg_gr G m)) (pg_gr G m).length 0 (fun n i s hi w => ?_) (fun n => br_t (nI_le (Nat.le_refl _) (by omega)) ?_)
      · exact br_f (nI_ge hi (by omega)) ⟨vp_in_nI (by omega) (by decide), pg_yis hP (pg_31 (hlt _ (pg_get_mem hi))) (by rw [pg_cl720 (by omega)]; exact hY.1 i hi) (nm_e (nm_r (nI_1 i) w))⟩
      · refine pg_cnl (fun n i s => wY_images_57 _ (pg_fo (pg_ig v1 (pg_gr G m)) (pg_gr G m).length 0) (nI m) (nI (pg_gr G m).length) bg bl bm bp ba n (nI s) (nI i)) (fun i => decide (((pg_fo (pg_ig v1 (pg_gr G m)) (pg_gr G m).length 0) >>> ((nI i).toInt64 &&& 63)) &&& 1 = 1)) 64 (fun n i s hi hp w => ?_) (fun n i s hi hp w => ?_) (fun n => br_t (by decide) ⟨rfl, I⟩)
        · exact br_f (nI_ge (b := 64) hi (by decide)) (br_t (of_decide_eq_true hp) (nm_r (nI_1 s) (nm_r (nI_1 i) w)))
        · exact br_f (nI_ge (b := 64) hi (by decide)) (br_f (of_decide_eq_false hp) (nm_r (nI_1 i) w))
end
section
/-! commuting, alike, centre, commutative, carrier -/
theorem i_vc_commuting {k : Nat} {u : SX} {v : SY} (I : i_Rel k u v) (hk : k + 3 ≤ 1536) (v1 : Int32) : wpX_commuting (fun r => wpY_commuting (fun r' => r' = r ∧ i_Rel (k + 3) u v) v v1) u v1 := by
  have I' := I
  obtain ⟨G, m, ag, ae, ai, bg, bl, bm, bp, ba, rfl, rfl, hm, hG, hag, hbg, hX, hY, hP, hA⟩ := I'
  have hW := pg_gr_W hG
  have hl := hW.2.2.1
  have hlt := pg_W_lt hW
  unfold wpX_commuting
  by_cases h1 : pg_iv v1
  · obtain ⟨c, rfl, hc⟩ := h1
    refine pg_xip_t hc (br_f pg_10 ?_)
    refine pg_cnl (fun n i s => wX_commuting_13 _ (nI c) (nI m) (nI (pg_gr G m).length) ag ae ai 46656 n (nI s) (nI i)) (fun i => decide (pg_mul c ((pg_gr G m).getD i 0) = pg_mul ((pg_gr G m).getD i 0) c)) (pg_gr G m).length (fun n i s hi hp w => ?_) (fun n i s hi hp w => ?_) (fun n => br_t (nI_le (Nat.le_refl _) (by omega)) ?_)
    · refine br_f (nI_ge hi (by omega)) ⟨vp_in_nI (by omega) (by decide), pg_xco hc.1 (hlt _ (pg_get_mem hi)) rfl (by rw [pg_cl720 (by omega)]; exact hX.1 i hi) ?_⟩
      rw [hp]
      exact br_f pg_10 (nm_r (nI_1 s) (nm_r (nI_1 i) w))
    · refine br_f (nI_ge hi (by omega)) ⟨vp_in_nI (by omega) (by decide), pg_xco hc.1 (hlt _ (pg_get_mem hi)) rfl (by rw [pg_cl720 (by omega)]; exact hX.1 i hi) ?_⟩
      rw [hp]
      exact br_t rfl (nm_r (nI_1 i) w)
    · unfold wpY_commuting
      refine pg_yip_t hP hc (br_f pg_10 ?_)
      refine pg_cnl (fun n i s => wY_commuting_14 _ (nI c) (nI m) (nI (pg_gr G m).length) bg bl bm bp ba n (nI s) (nI i)) (fun i => decide (pg_mul c ((pg_gr G m).getD i 0) = pg_mul ((pg_gr G m).getD i 0) c)) (pg_gr G m).length (fun n i s hi hp w => ?_) (fun n i s hi hp w => ?_) (fun n => br_t (nI_le (Nat.le_refl _) (by omega)) ⟨rfl, I⟩)
      · have hin : vp_in (nI i) 720 := vp_in_nI (by omega) (by decide)
        have e : bl (nI i).toNatClampNeg = nI ((pg_gr G m).getD i 0) := by rw [pg_cl720 (by omega)]; exact hY.1 i hi
        have ha := pg_31 (hlt _ (pg_get_mem hi))
        exact br_f (nI_ge hi (by omega)) ⟨hin, pg_yti hP (pg_31 hc.1) ha rfl e ⟨hin, pg_yti hP ha (pg_31 hc.1) e rfl (br_t (congrArg nI (of_decide_eq_true hp)) (nm_r (nI_1 s) (nm_r (nI_1 i) w)))⟩⟩
      · have hin : vp_in (nI i) 720 := vp_in_nI (by omega) (by decide)
        have e : bl (nI i).toNatClampNeg = nI ((pg_gr G m).getD i 0) := by rw [pg_cl720 (by omega)]; exact hY.1 i hi
        have ha := pg_31 (hlt _ (pg_get_mem hi))
        exact br_f (nI_ge hi (by omega)) ⟨hin, pg_yti hP (pg_31 hc.1) ha rfl e ⟨hin, pg_yti hP ha (pg_31 hc.1) e rfl (br_f (fun z => of_decide_eq_false hp ((nI_eq (pg_31 (pg_mul_lt _ _)) (pg_31 (pg_mul_lt _ _))).mp z)) (nm_r (nI_1 i) w))⟩⟩
  · refine pg_xip_f h1 (br_t rfl ?_)
    unfold wpY_commuting
    exact pg_yip_f hP h1 (br_t rfl ⟨rfl, I⟩)
theorem i_vc_alike {k : Nat} {u : SX} {v : SY} (I : i_Rel k u v) (hk : k + 3 ≤ 1536) (v1 : Int32) (v2 : Int32) : wpX_alike (fun r => wpY_alike (fun r' => r' = r ∧ i_Rel (k + 3) u v) v v1 v2) u v1 v2 := by
  have I' := I
  obtain ⟨G, m, ag, ae, ai, bg, bl, bm, bp, ba, rfl, rfl, hm, hG, hag, hbg, hX, hY, hP, hA⟩ := I'
  have hW := pg_gr_W hG
  have hl := hW.2.2.1
  have hlt := pg_W_lt hW
  unfold wpX_alike
  by_cases h1 : pg_iv v1
  · obtain ⟨c, rfl, hc⟩ := h1
    refine pg_xip_t hc (br_f pg_10 ?_)
    by_cases h2 : pg_iv v2
    · obtain ⟨d, rfl, hd⟩ := h2
      have hY2 : ∀ (post : Int32 → Prop), ((∀ i, i < (pg_gr G m).length → ¬ pg_mul c ((pg_gr G m).getD i 0) = pg_mul ((pg_gr G m).getD i 0) d) → post 0) → ((¬ ∀ i, i < (pg_gr G m).length → ¬ pg_mul c ((pg_gr G m).getD i 0) = pg_mul ((pg_gr G m).getD i 0) d) → post 1) → wpY_alike post (nI m, nI (pg_gr G m).length, bg, bl, bm, bp, ba) (nI c) (nI d) := by
        intro post hA1 hB1
        unfold wpY_alike
        refine pg_yip_t hP hc (br_f pg_10 (pg_yip_t hP hd (br_f pg_10 ?_)))
        refine pg_al2 (fun n i => wY_alike_20 post (nI c) (nI d) (nI m) (nI (pg_gr G m).length) bg bl bm bp ba n (nI i)) (fun i => ¬ pg_mul c ((pg_gr G m).getD i 0) = pg_mul ((pg_gr G m).getD i 0) d) (pg_gr G m).length (post 0) (post 1) (fun n h => br_t (nI_le (Nat.le_refl _) (by omega)) h) (fun n i hi hp w => ?_) (fun n i hi hp h => ?_) hA1 hB1
        · have hin : vp_in (nI i) 720 := vp_in_nI (by omega) (by decide)
          have e : bl (nI i).toNatClampNeg = nI ((pg_gr G m).getD i 0) := by rw [pg_cl720 (by omega)]; exact hY.1 i hi
          have ha := pg_31 (hlt _ (pg_get_mem hi))
          exact br_f (nI_ge hi (by omega)) ⟨hin, pg_yti hP (pg_31 hc.1) ha rfl e ⟨hin, pg_yti hP ha (pg_31 hd.1) e rfl (br_f (fun z => hp ((nI_eq (pg_31 (pg_mul_lt _ _)) (pg_31 (pg_mul_lt _ _))).mp z)) (nm_r (nI_1 i) w))⟩⟩
        · have hin : vp_in (nI i) 720 := vp_in_nI (by omega) (by decide)
          have e : bl (nI i).toNatClampNeg = nI ((pg_gr G m).getD i 0) := by rw [pg_cl720 (by omega)]; exact hY.1 i hi
          have ha := pg_31 (hlt _ (pg_get_mem hi))
          exact br_f (nI_ge hi (by omega)) ⟨hin, pg_yti hP (pg_31 hc.1) ha rfl e ⟨hin, pg_yti hP ha (pg_31 hd.1) e rfl (br_t (congrArg nI (Classical.not_not.mp hp)) h)⟩⟩
      have hX2 : ∀ (post : Int32 → Prop), ((∀ i, i < (pg_gr G m).length → ¬ pg_mul c ((pg_gr G m).getD i 0) = pg_mul ((pg_gr G m).getD i 0) d) → post 0) → ((¬ ∀ i, i < (pg_gr G m).length → ¬ pg_mul c ((pg_gr G m).getD i 0) = pg_mul ((pg_gr G m).getD i 0) d) → post 1) → ∃ n, wX_alike_18 post (nI c) (nI d) (nI m) (nI (pg_gr G m).length) ag ae ai 46656 n 0 := by
        intro post hA1 hB1
        refine pg_al2 (fun n i => wX_alike_18 post (nI c) (nI d) (nI m) (nI (pg_gr G m).length) ag ae ai 46656 n (nI i)) (fun i => ¬ pg_mul c ((pg_gr G m).getD i 0) = pg_mul ((pg_gr G m).getD i 0) d) (pg_gr G m).length (post 0) (post 1) (fun n h => br_t (nI_le (Nat.le_refl _) (by omega)) h) (fun n i hi hp w => ?_) (fun n i hi hp h => ?_) hA1 hB1
        · have ha := hW.2.1 _ (pg_get_mem hi)
          exact br_f (nI_ge hi (by omega)) ⟨vp_in_nI (by omega) (by decide), pg_xcj hc.1 ha rfl (by rw [pg_cl720 (by omega)]; exact hX.1 i hi) (br_f (fun z => hp ((pg_cj_eq hc.1 ha hd.1).mp ((nI_eq (pg_31 (pg_mul_lt _ _)) (pg_31 hd.1)).mp z))) (nm_r (nI_1 i) w))⟩
        · have ha := hW.2.1 _ (pg_get_mem hi)
          exact br_f (nI_ge hi (by omega)) ⟨vp_in_nI (by omega) (by decide), pg_xcj hc.1 ha rfl (by rw [pg_cl720 (by omega)]; exact hX.1 i hi) (br_t (congrArg nI ((pg_cj_eq hc.1 ha hd.1).mpr (Classical.not_not.mp hp))) h)⟩
      exact pg_xip_t hd (br_f pg_10 (hX2 _ (fun hall => hY2 _ (fun _ => ⟨rfl, I⟩) (fun z => absurd hall z)) (fun hno => hY2 _ (fun z => absurd z hno) (fun _ => ⟨rfl, I⟩))))
    · refine pg_xip_f h2 (br_t rfl ?_)
      unfold wpY_alike
      exact pg_yip_t hP hc (br_f pg_10 (pg_yip_f hP h2 (br_t rfl ⟨rfl, I⟩)))
  · refine pg_xip_f h1 (br_t rfl ?_)
    unfold wpY_alike
    exact pg_yip_f hP h1 (br_t rfl ⟨rfl, I⟩)
/-- g commutes with all generators -/
def pg_ce (G : Nat → Nat) (m g : Nat) : Prop := ∀ j, j < m → pg_mul g (G j) = pg_mul (G j) g
theorem pg_xcg {post : Int32 → Prop} {G : Nat → Nat} {m g : Nat} {ec : Int32} {ag ae ai : Nat → Int32} {ni : Nat} (hm : m ≤ 5) (hG : ∀ j, j < m → pg_ip (G j)) (hag : ∀ j, j < m → ag j = nI (G j)) (hg : g < 46656) {A : Int32} (eA : A = nI g) (ht : pg_ce G m g → post 1) (hf : ¬ pg_ce G m g → post 0) : wpX_commutesWithGenerators post (nI m, ec, ag, ae, ai, ni) A := by
  subst eA
  unfold wpX_commutesWithGenerators
  refine pg_al2 (fun n i => wX_commutesWithGenerators_2 post (nI g) (nI m) ec ag ae ai ni n (nI i)) (fun j => pg_mul g (G j) = pg_mul (G j) g) m (post 1) (post 0) (fun n h => br_t (nI_le (Nat.le_refl _) (by omega)) h) (fun n i hi hp w => ?_) (fun n i hi hp h => ?_) ht hf
  · refine br_f (nI_ge hi (by omega)) ⟨vp_in_nI (by omega) (by decide), pg_xco hg (hG i hi).1 rfl (by rw [pg_cl5 (by omega)]; exact hag i hi) ?_⟩
    rw [decide_eq_true hp]
    exact br_f pg_10 (nm_r (nI_1 i) w)
  · refine br_f (nI_ge hi (by omega)) ⟨vp_in_nI (by omega) (by decide), pg_xco hg (hG i hi).1 rfl (by rw [pg_cl5 (by omega)]; exact hag i hi) ?_⟩
    rw [decide_eq_false hp]
    exact br_t rfl h
theorem pg_ycg {post : Int32 → Prop} {G : Nat → Nat} {m g : Nat} {fo : Int32} {bg bl bm bp ba : Nat → Int32} (hP : pg_YP bp) (hm : m ≤ 5) (hG : ∀ j, j < m → pg_ip (G j)) (hbg : ∀ j, j < m → bg j = nI (G j)) (hg : g < 46656) {A : Int32} (eA : A = nI g) (ht : pg_ce G m g → post 1) (hf : ¬ pg_ce G m g → post 0) : wpY_isCentral post (nI m, fo, bg, bl, bm, bp, ba) A := by
  subst eA
  unfold wpY_isCentral
  refine pg_al2 (fun n i => wY_isCentral_2 post (nI g) (nI m) fo bg bl bm bp ba n (nI i)) (fun j => pg_mul g (G j) = pg_mul (G j) g) m (post 1) (post 0) (fun n h => br_t (nI_le (Nat.le_refl _) (by omega)) h) (fun n i hi hp w => ?_) (fun n i hi hp h => ?_) ht hf
  · have hin : vp_in (nI i) 5 := vp_in_nI (by omega) (by decide)
    have e : bg (nI i).toNatClampNeg = nI (G i) := by rw [pg_cl5 (by omega)]; exact hbg i hi
    exact br_f (nI_ge hi (by omega)) ⟨hin, pg_yti hP (pg_31 hg) (pg_31 (hG i hi).1) rfl e ⟨hin, pg_yti hP (pg_31 (hG i hi).1) (pg_31 hg) e rfl (br_t (congrArg nI hp) (nm_r (nI_1 i) w))⟩⟩
  · have hin : vp_in (nI i) 5 := vp_in_nI (by omega) (by decide)
    have e : bg (nI i).toNatClampNeg = nI (G i) := by rw [pg_cl5 (by omega)]; exact hbg i hi
    exact br_f (nI_ge hi (by omega)) ⟨hin, pg_yti hP (pg_31 hg) (pg_31 (hG i hi).1) rfl e ⟨hin, pg_yti hP (pg_31 (hG i hi).1) (pg_31 hg) e rfl (br_f (fun z => hp ((nI_eq (pg_31 (pg_mul_lt _ _)) (pg_31 (pg_mul_lt _ _))).mp z)) h)⟩⟩
noncomputable def pg_cc (G : Nat → Nat) (m : Nat) : Nat := pg_cn (fun i => pg_cd (pg_ce G m ((pg_gr G m).getD i 0))) (pg_gr G m).length
theorem pg_yce {post : Int32 → Prop} {G : Nat → Nat} {m : Nat} {bg bl bm bp ba : Nat → Int32} (hP : pg_YP bp) (hm : m ≤ 5) (hG : ∀ j, j < m → pg_ip (G j)) (hbg : ∀ j, j < m → bg j = nI (G j)) (hY : pg_YL (pg_gr G m) bl bm) (h : post (nI (pg_cc G m))) : wpY_centre post (nI m, nI (pg_gr G m).length, bg, bl, bm, bp, ba) := by
  have hW := pg_gr_W hG
  have hl := hW.2.2.1
  have hlt := pg_W_lt hW
  unfold wpY_centre
  refine pg_cnl (fun n i s => wY_centre_4 post (nI m) (nI (pg_gr G m).length) bg bl bm bp ba n (nI s) (nI i)) (fun i => pg_cd (pg_ce G m ((pg_gr G m).getD i 0))) (pg_gr G m).length (fun n i s hi hp w => ?_) (fun n i s hi hp w => ?_) (fun n => br_t (nI_le (Nat.le_refl _) (by omega)) h)
  · exact br_f (nI_ge hi (by omega)) ⟨vp_in_nI (by omega) (by decide), pg_ycg hP hm hG hbg (hlt _ (pg_get_mem hi)) (by rw [pg_cl720 (by omega)]; exact hY.1 i hi) (fun _ => br_f pg_10 (nm_r (nI_1 s) (nm_r (nI_1 i) w))) (fun z => absurd (pg_cd_t hp) z)⟩
  · exact br_f (nI_ge hi (by omega)) ⟨vp_in_nI (by omega) (by decide), pg_ycg hP hm hG hbg (hlt _ (pg_get_mem hi)) (by rw [pg_cl720 (by omega)]; exact hY.1 i hi) (fun z => absurd z (pg_cd_f hp)) (fun _ => br_t rfl (nm_r (nI_1 i) w))⟩
theorem i_vc_centre {k : Nat} {u : SX} {v : SY} (I : i_Rel k u v) (hk : k + 3 ≤ 1536) : wpX_centre (fun r => wpY_centre (fun r' => r' = r ∧ i_Rel (k + 3) u v) v) u := by
  have I' := I
  obtain ⟨G, m, ag, ae, ai, bg, bl, bm, bp, ba, rfl, rfl, hm, hG, hag, hbg, hX, hY, hP, hA⟩ := I'
  have hW := pg_gr_W hG
  have hl := hW.2.2.1
  have hlt := pg_W_lt hW
  unfold wpX_centre
  refine pg_cnl (fun n i s => wX_centre_4 _ (nI m) (nI (pg_gr G m).length) ag ae ai 46656 n (nI s) (nI i)) (fun i => pg_cd (pg_ce G m ((pg_gr G m).getD i 0))) (pg_gr G m).length (fun n i s hi hp w => ?_) (fun n i s hi hp w => ?_) (fun n => br_t (nI_le (Nat.le_refl _) (by omega)) (pg_yce hP hm hG hbg hY ⟨rfl, I⟩))
  · exact br_f (nI_ge hi (by omega)) ⟨vp_in_nI (by omega) (by decide), pg_xcg hm hG hag (hlt _ (pg_get_mem hi)) (by rw [pg_cl720 (by omega)]; exact hX.1 i hi) (fun _ => br_f pg_10 (nm_r (nI_1 s) (nm_r (nI_1 i) w))) (fun z => absurd (pg_cd_t hp) z)⟩
  · exact br_f (nI_ge hi (by omega)) ⟨vp_in_nI (by omega) (by decide), pg_xcg hm hG hag (hlt _ (pg_get_mem hi)) (by rw [pg_cl720 (by omega)]; exact hX.1 i hi) (fun z => absurd z (pg_cd_f hp)) (fun _ => br_t rfl (nm_r (nI_1 i) w))⟩
theorem pg_cc_all {G : Nat → Nat} {m : Nat} : pg_cc G m = (pg_gr G m).length ↔ ∀ a, a ∈ pg_gr G m → pg_ce G m a := by
  have e : pg_cc G m = (pg_gr G m).countP (fun a => pg_cd (pg_ce G m a)) := pg_cn_list (fun a => pg_cd (pg_ce G m a)) (pg_gr G m)
  rw [e, List.countP_eq_length]
  exact ⟨fun h a ha => pg_cd_t (h a ha), fun h a ha => pg_cd_i.mpr (h a ha)⟩
theorem pg_yct {post : Int32 → Prop} {G : Nat → Nat} {m : Nat} {bg bl bm bp ba : Nat → Int32} (hP : pg_YP bp) (hm : m ≤ 5) (hG : ∀ j, j < m → pg_ip (G j)) (hbg : ∀ j, j < m → bg j = nI (G j)) (hY : pg_YL (pg_gr G m) bl bm) (ht : (∀ i, i < m → pg_ce G m (G i)) → post 1) (hf : (¬ ∀ i, i < m → pg_ce G m (G i)) → post 0) : wpY_commutative post (nI m, nI (pg_gr G m).length, bg, bl, bm, bp, ba) := by
  have hl := (pg_gr_W hG).2.2.1
  have hc : pg_cc G m ≤ (pg_gr G m).length := pg_cn_le _ _
  have key : nI (pg_cc G m) = nI (pg_gr G m).length ↔ ∀ i, i < m → pg_ce G m (G i) := by
    rw [nI_eq (by omega) (by omega), pg_cc_all]
    exact (pg_comm hG).symm
  unfold wpY_commutative
  exact pg_yce hP hm hG hbg hY (br_c (fun z => ht (key.mp z)) (fun z => hf fun y => z (key.mpr y)))
theorem pg_xct {post : Int32 → Prop} {G : Nat → Nat} {m : Nat} {ec : Int32} {ag ae ai : Nat → Int32} {ni : Nat} (hm : m ≤ 5) (hG : ∀ j, j < m → pg_ip (G j)) (hag : ∀ j, j < m → ag j = nI (G j)) (ht : (∀ i, i < m → pg_ce G m (G i)) → post 1) (hf : (¬ ∀ i, i < m → pg_ce G m (G i)) → post 0) : wpX_commutative post (nI m, ec, ag, ae, ai, ni) := by
  unfold wpX_commutative
  refine pg_al2 (fun n i => wX_commutative_2 post (nI m) ec ag ae ai ni n (nI i)) (fun i => pg_ce G m (G i)) m (post 1) (post 0) (fun n h => br_t (nI_le (Nat.le_refl _) (by omega)) h) (fun n i hi hp w => ?_) (fun n i hi hp h => ?_) ht hf
  · exact br_f (nI_ge hi (by omega)) ⟨vp_in_nI (by omega) (by decide), pg_xcg hm hG hag (hG i hi).1 (by rw [pg_cl5 (by omega)]; exact hag i hi) (fun _ => br_f pg_10 (nm_r (nI_1 i) w)) (fun z => absurd hp z)⟩
  · exact br_f (nI_ge hi (by omega)) ⟨vp_in_nI (by omega) (by decide), pg_xcg hm hG hag (hG i hi).1 (by rw [pg_cl5 (by omega)]; exact hag i hi) (fun z => absurd z hp) (fun _ => br_t rfl h)⟩
theorem i_vc_commutative {k : Nat} {u : SX} {v : SY} (I : i_Rel k u v) (hk : k + 3 ≤ 1536) : wpX_commutative (fun r => wpY_commutative (fun r' => r' = r ∧ i_Rel (k + 3) u v) v) u := by
  have I' := I
  obtain ⟨G, m, ag, ae, ai, bg, bl, bm, bp, ba, rfl, rfl, hm, hG, hag, hbg, hX, hY, hP, hA⟩ := I'
  refine pg_xct hm hG hag (fun hall => ?_) (fun hno => ?_)
  · exact pg_yct hP hm hG hbg hY (fun _ => ⟨rfl, I⟩) (fun z => absurd hall z)
  · exact pg_yct hP hm hG hbg hY (fun z => absurd z hno) (fun _ => ⟨rfl, I⟩)
/-- the least element met so far that carries x into y, or -4 -/
def pg_ca (L : List Nat) (x y i : Nat) (s : Int32) : Int32 := if pg_dg (L.getD i 0) x = y then (if s = -4 then nI (L.getD i 0) else if s ≤ nI (L.getD i 0) then s else nI (L.getD i 0)) else s
theorem i_vc_carrier {k : Nat} {u : SX} {v : SY} (I : i_Rel k u v) (hk : k + 3 ≤ 1536) (v1 : Int32) (v2 : Int32) : wpX_carrier (fun r => wpY_carrier (fun r' => r' = r ∧ i_Rel (k + 3) u v) v v1 v2) u v1 v2 := by
  have I' := I
  obtain ⟨G, m, ag, ae, ai, bg, bl, bm, bp, ba, rfl, rfl, hm, hG, hag, hbg, hX, hY, hP, hA⟩ := I'
  have hW := pg_gr_W hG
  have hl := hW.2.2.1
  have hlt := pg_W_lt hW
  unfold wpX_carrier
  rcases pg_pt v1 with h | ⟨h0, h6, _, h5⟩ | ⟨x, hx, rfl⟩
  · refine br_t h (br_t rfl ?_)
    unfold wpY_carrier
    exact br_t h ⟨rfl, I⟩
  · refine br_f h0 (br_t h6 (br_t rfl ?_))
    unfold wpY_carrier
    exact br_f h0 (br_t h5 ⟨rfl, I⟩)
  · refine pg_xpt hx (br_f pg_10 ?_)
    have hx0 : ¬ nI x < 0 := nI_pos (by omega)
    have hx5 : ¬ (5 : Int32) < nI x := nI_nlt (a := 5) (by omega) (by decide)
    rcases pg_pt v2 with h | ⟨h0, h6, h5, _⟩ | ⟨y, hy, rfl⟩
    · refine br_t h (br_t rfl ?_)
      unfold wpY_carrier
      exact br_f hx0 (br_f hx5 (br_t h ⟨rfl, I⟩))
    · refine br_f h0 (br_t h6 (br_t rfl ?_))
      unfold wpY_carrier
      exact br_f hx0 (br_f hx5 (br_f h0 (br_f h5 ⟨rfl, I⟩)))
    · refine pg_xpt hy (br_f pg_10 ?_)
      refine pg_fl (fun n i s => wX_carrier_22 _ (nI x) (nI y) (nI m) (nI (pg_gr G m).length) ag ae ai 46656 n s (nI i)) (pg_ca (pg_gr G m) x y) (pg_gr G m).length (-4) (fun n i s hi w => ?_) (fun n => br_t (nI_le (Nat.le_refl _) (by omega)) ?_)
      · have e : ae (nI i).toNatClampNeg = nI ((pg_gr G m).getD i 0) := by rw [pg_cl720 (by omega)]; exact hX.1 i hi
        refine br_f (nI_ge hi (by omega)) ⟨vp_in_nI (by omega) (by decide), nm_r e (pg_xim (pg_31 (hlt _ (pg_get_mem hi))) hx rfl rfl ?_)⟩
        unfold pg_ca at w
        by_cases hd : pg_dg ((pg_gr G m).getD i 0) x = y
        · rw [if_pos hd] at w
          refine br_t (congrArg nI hd) ?_
          by_cases h4 : s = -4
          · rw [if_pos h4] at w
            exact br_t h4 (nm_r (nI_1 i) w)
          · rw [if_neg h4] at w
            refine br_f h4 ?_
            by_cases hs : s ≤ nI ((pg_gr G m).getD i 0)
            · rw [if_pos hs] at w
              exact br_t hs (nm_r (nI_1 i) w)
            · rw [if_neg hs] at w
              exact br_f hs (nm_r (nI_1 i) w)
        · rw [if_neg hd] at w
          exact br_f (fun z => hd ((nI_eq (Nat.lt_trans (pg_dg_lt _ x) (by decide)) (by omega)).mp z)) (nm_r (nI_1 i) w)
      · unfold wpY_carrier
        refine br_f hx0 (br_f hx5 (br_f (nI_pos (by omega)) (br_t (nI_le (b := 5) (by omega) (by decide)) ?_)))
        refine pg_fl (fun n i s => wY_carrier_26 _ (nI x) (nI y) (nI m) (nI (pg_gr G m).length) bg bl bm bp ba n s (nI i)) (pg_ca (pg_gr G m) x y) (pg_gr G m).length (-4) (fun n i s hi w => ?_) (fun n => br_t (nI_le (Nat.le_refl _) (by omega)) ⟨rfl, I⟩)
        have e : bl (nI i).toNatClampNeg = nI ((pg_gr G m).getD i 0) := by rw [pg_cl720 (by omega)]; exact hY.1 i hi
        have hin : vp_in (nI i) 720 := vp_in_nI (by omega) (by decide)
        refine br_f (nI_ge hi (by omega)) ⟨hin, pg_yca hP (pg_31 (hlt _ (pg_get_mem hi))) hx e rfl ?_⟩
        rw [e]
        unfold pg_ca at w
        by_cases hd : pg_dg ((pg_gr G m).getD i 0) x = y
        · rw [if_pos hd] at w
          refine br_t (congrArg nI hd) ?_
          by_cases h4 : s = -4
          · rw [if_pos h4] at w
            exact br_t h4 ⟨hin, nm_e (nm_r (nI_1 i) w)⟩
          · rw [if_neg h4] at w
            refine br_f h4 ⟨hin, ?_⟩
            by_cases hs : s ≤ nI ((pg_gr G m).getD i 0)
            · rw [if_pos hs] at w
              exact br_t hs (nm_r (nI_1 i) w)
            · rw [if_neg hs] at w
              exact br_f hs ⟨hin, nm_e (nm_r (nI_1 i) w)⟩
        · rw [if_neg hd] at w
          exact br_f (fun z => hd ((nI_eq (Nat.lt_trans (pg_dg_lt _ x) (by decide)) (by omega)).mp z)) (nm_r (nI_1 i) w)
end
section
/-! normaliser -/
def pg_no (G : Nat → Nat) (m h : Nat) : Prop := ∀ j, j < m → pg_cj (G j) h ∈ pg_gr G m
theorem pg_cj_lt (g h : Nat) : pg_cj g h < 46656 := pg_mul_lt _ _
theorem pg_xno {post : Int32 → Prop} {G : Nat → Nat} {m h : Nat} {ec : Int32} {ag ae ai : Nat → Int32} (hm : m ≤ 5) (hG : ∀ j, j < m → pg_ip (G j)) (hag : ∀ j, j < m → ag j = nI (G j)) (hX : pg_XL (pg_gr G m) ae ai) (hh : pg_ip h) (ht : pg_no G m h → post 1) (hf : ¬ pg_no G m h → post 0) : wpX_carriesGroupIntoItself post (nI m, ec, ag, ae, ai, 46656) (nI h) := by
  unfold wpX_carriesGroupIntoItself
  refine pg_al2 (fun n i => wX_carriesGroupIntoItself_2 post (nI h) (nI m) ec ag ae ai 46656 n (nI i)) (fun j => pg_cj (G j) h ∈ pg_gr G m) m (post 1) (post 0) (fun n h => br_t (nI_le (Nat.le_refl _) (by omega)) h) (fun n i hi hp w => ?_) (fun n i hi hp hq => ?_) ht hf
  · refine br_f (nI_ge hi (by omega)) ⟨vp_in_nI (by omega) (by decide), pg_xcj (hG i hi).1 hh (by rw [pg_cl5 (by omega)]; exact hag i hi) rfl ⟨vp_in_nI (pg_mul_lt _ _) (by decide), br_f (fun z => ?_) (nm_r (nI_1 i) w)⟩⟩
    rw [nI_clamp (pg_31 (pg_cj_lt _ _))] at z
    exact (hX.2 _ (pg_cj_lt _ _)).mp z hp
  · refine br_f (nI_ge hi (by omega)) ⟨vp_in_nI (by omega) (by decide), pg_xcj (hG i hi).1 hh (by rw [pg_cl5 (by omega)]; exact hag i hi) rfl ⟨vp_in_nI (pg_mul_lt _ _) (by decide), br_t ?_ hq⟩⟩
    rw [nI_clamp (pg_31 (pg_cj_lt _ _))]
    exact (hX.2 _ (pg_cj_lt _ _)).mpr hp
theorem pg_yno2 {post : Int32 → Prop} {G : Nat → Nat} {m h : Nat} {fo : Int32} {bg bl bm bp ba : Nat → Int32} (hP : pg_YP bp) (hm : m ≤ 5) (hG : ∀ j, j < m → pg_ip (G j)) (hbg : ∀ j, j < m → bg j = nI (G j)) (hY : pg_YL (pg_gr G m) bl bm) (hh : pg_ip h) {A : Int32} (eA : A = nI h) (ht : pg_no G m h → post 1) (hf : ¬ pg_no G m h → post 0) : wpY_normalises post (nI m, fo, bg, bl, bm, bp, ba) A := by
  subst eA
  unfold wpY_normalises
  refine pg_al2 (fun n i => wY_normalises_2 post (nI h) (nI m) fo bg bl bm bp ba n (nI i)) (fun j => pg_cj (G j) h ∈ pg_gr G m) m (post 1) (post 0) (fun n h => br_t (nI_le (Nat.le_refl _) (by omega)) h) (fun n i hi hp w => ?_) (fun n i hi hp hq => ?_) ht hf
  · exact br_f (nI_ge hi (by omega)) ⟨vp_in_nI (by omega) (by decide), pg_ycj hP (hG i hi).1 hh (by rw [pg_cl5 (by omega)]; exact hbg i hi) rfl (pg_yim hY (pg_mul_lt _ _) rfl (fun _ => br_f pg_10 (nm_r (nI_1 i) w)) (fun z => absurd hp z))⟩
  · exact br_f (nI_ge hi (by omega)) ⟨vp_in_nI (by omega) (by decide), pg_ycj hP (hG i hi).1 hh (by rw [pg_cl5 (by omega)]; exact hbg i hi) rfl (pg_yim hY (pg_mul_lt _ _) rfl (fun z => absurd z hp) (fun _ => br_t rfl hq))⟩
noncomputable def pg_nn (G : Nat → Nat) (m : Nat) : Nat := pg_cn (fun h => pg_cd (pg_ip h ∧ pg_no G m h)) 46656
theorem pg_nn_e (G : Nat → Nat) (m : Nat) : pg_cn (fun i => pg_cd (pg_no G m ((pg_gr pg_g2 2).getD i 0))) 720 = pg_nn G m := by
  have e1 : pg_cn (fun i => pg_cd (pg_no G m ((pg_gr pg_g2 2).getD i 0))) (pg_gr pg_g2 2).length = (pg_gr pg_g2 2).countP (fun h => pg_cd (pg_no G m h)) := pg_cn_list (fun h => pg_cd (pg_no G m h)) (pg_gr pg_g2 2)
  rw [pg_g2_len] at e1
  unfold pg_nn
  rw [e1, pg_cn_range]
  refine (pg_count (fun h => pg_cd (pg_no G m h)) (fun h => pg_cd (pg_ip h ∧ pg_no G m h)) fun c hc => ?_).symm
  rw [pg_cd_i, pg_cd_i]
theorem pg_niv {h : Nat} (hh : h < 46656) (hn : ¬ pg_ip h) : ¬ pg_iv (nI h) := by
  rintro ⟨c, e, hc⟩
  have t := (nI_eq (pg_31 hh) (pg_31 hc.1)).mp e
  exact hn (t ▸ hc)
theorem i_vc_normaliser {k : Nat} {u : SX} {v : SY} (I : i_Rel k u v) (hk : k + 3 ≤ 1536) : wpX_normaliser (fun r => wpY_normaliser (fun r' => r' = r ∧ i_Rel (k + 3) u v) v) u := by
  have I' := I
  obtain ⟨G, m, ag, ae, ai, bg, bl, bm, bp, ba, rfl, rfl, hm, hG, hag, hbg, hX, hY, hP, hA⟩ := I'
  unfold wpX_normaliser
  refine pg_cnl (fun n i s => wX_normaliser_4 _ (nI m) (nI (pg_gr G m).length) ag ae ai 46656 n (nI s) (nI i)) (fun h => pg_cd (pg_ip h ∧ pg_no G m h)) 46656 (fun n i s hi hp w => ?_) (fun n i s hi hp w => ?_) (fun n => br_t (by decide) ?_)
  · have hp' := pg_cd_t hp
    exact br_f (nI_ge (b := 46656) hi (by decide)) (pg_xip_t hp'.1 (br_f pg_10 (pg_xno hm hG hag hX hp'.1 (fun _ => br_f pg_10 (nm_r (nI_1 s) (nm_r (nI_1 i) w))) (fun z => absurd hp'.2 z))))
  · have hp' := pg_cd_f hp
    refine br_f (nI_ge (b := 46656) hi (by decide)) ?_
    by_cases hip : pg_ip i
    · exact pg_xip_t hip (br_f pg_10 (pg_xno hm hG hag hX hip (fun z => absurd ⟨hip, z⟩ hp') (fun _ => br_t rfl (nm_r (nI_1 i) w))))
    · exact pg_xip_f (pg_niv hi hip) (br_t rfl (nm_r (nI_1 i) w))
  · unfold wpY_normaliser
    have hall : ∀ i, i < 720 → pg_ip ((pg_gr pg_g2 2).getD i 0) := fun i hi => pg_g2_all.mp (pg_get_mem (by rw [pg_g2_len]; exact hi))
    refine pg_cnl (fun n i s => wY_normaliser_4 _ (nI m) (nI (pg_gr G m).length) bg bl bm bp ba n (nI s) (nI i)) (fun i => pg_cd (pg_no G m ((pg_gr pg_g2 2).getD i 0))) 720 (fun n i s hi hp w => ?_) (fun n i s hi hp w => ?_) (fun n => br_t (by decide) ⟨congrArg nI (pg_nn_e G m), I⟩)
    · exact br_f (nI_ge (b := 720) hi (by decide)) ⟨vp_in_nI hi (by decide), pg_yno2 hP hm hG hbg hY (hall i hi) (by rw [pg_cl720 hi]; exact hA i hi) (fun _ => br_f pg_10 (nm_r (nI_1 s) (nm_r (nI_1 i) w))) (fun z => absurd (pg_cd_t hp) z)⟩
    · exact br_f (nI_ge (b := 720) hi (by decide)) ⟨vp_in_nI hi (by decide), pg_yno2 hP hm hG hbg hY (hall i hi) (by rw [pg_cl720 hi]; exact hA i hi) (fun z => absurd z (pg_cd_f hp)) (fun _ => br_t rfl (nm_r (nI_1 i) w))⟩
end
