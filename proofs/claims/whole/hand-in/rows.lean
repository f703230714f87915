section
theorem pk_us {f : Nat → Int32} {k : Nat} {x : Int32} : upd f k x k = x := if_pos rfl
theorem pk_un {f : Nat → Int32} {k j : Nat} {x : Int32} (h : j ≠ k) : upd f k x j = f j := if_neg h
theorem pk_sub {a b : Nat} (h : b ≤ a) : nI a - nI b = nI (a - b) := by
  obtain ⟨c, rfl⟩ : ∃ c, a = c + b := ⟨a - b, by omega⟩
  rw [← nI_add, Int32.add_sub_cancel, Nat.add_sub_cancel]
theorem pk_m1 (n : Nat) : nI (n + 1) + (-1) = nI n := by
  rw [← nI_1, Int32.add_assoc, show (1 : Int32) + (-1) = 0 from rfl, Int32.add_zero]
theorem pk_mul (a b : Nat) : nI a * nI b = nI (a * b) := (Int32.ofNat_mul a b).symm
theorem pk_div {a d : Nat} (ha : a < 2 ^ 31) (h0 : 0 < d) (hd : d < 2 ^ 31) : nI a / nI d = nI (a / d) := by
  apply Int32.toInt_inj.mp
  rw [lg_idiv_nonneg (by rw [nI_toInt ha]; omega) (by rw [nI_toInt hd]; omega), nI_toInt ha, nI_toInt hd, nI_toInt (Nat.lt_of_le_of_lt (Nat.div_le_self a d) ha)]
  first | rfl | exact (Int.natCast_ediv _ _).symm
theorem pk_rem {a d : Nat} (ha : a < 2 ^ 31) (h0 : 0 < d) (hd : d < 2 ^ 31) : nI a - nI a / nI d * nI d = nI (a % d) := by
  rw [pk_div ha h0 hd, pk_mul, pk_sub (Nat.div_mul_le_self a d)]
  exact congrArg nI (by have := Nat.div_add_mod' a d; omega)
theorem pk_ix (x : Int32) {n : Nat} (hn : n < 2 ^ 31) : x < 0 ∨ nI n ≤ x ∨ ∃ j : Nat, j < n ∧ x = nI j := by
  by_cases h : x < 0
  · exact Or.inl h
  · obtain ⟨j, hj, rfl⟩ := nI_of h
    by_cases h2 : j < n
    · exact Or.inr (Or.inr ⟨j, h2, rfl⟩)
    · exact Or.inr (Or.inl (nI_le (by omega) hj))
theorem pk_le {x y : Int32} {A B : Prop} (a b : Nat) (f : a ≤ b → A) (g : b < a → B) (hx : x = nI a := by rfl) (hy : y = nI b := by rfl) (ha : a < 2 ^ 31 := by omega) (hb : b < 2 ^ 31 := by omega) : (x ≤ y → A) ∧ (¬ x ≤ y → B) := by
  subst hx hy
  rw [nI_leI ha hb]
  exact ⟨f, fun z => g (by omega)⟩
theorem pk_lt {x y : Int32} {A B : Prop} (a b : Nat) (f : a < b → A) (g : b ≤ a → B) (hx : x = nI a := by rfl) (hy : y = nI b := by rfl) (ha : a < 2 ^ 31 := by omega) (hb : b < 2 ^ 31 := by omega) : (x < y → A) ∧ (¬ x < y → B) := by
  subst hx hy
  rw [nI_ltI ha hb]
  exact ⟨f, fun z => g (by omega)⟩
theorem pk_eq {x y : Int32} {A B : Prop} (a b : Nat) (f : a = b → A) (g : a ≠ b → B) (hx : x = nI a := by rfl) (hy : y = nI b := by rfl) (ha : a < 2 ^ 31 := by omega) (hb : b < 2 ^ 31 := by omega) : (x = y → A) ∧ (¬ x = y → B) := by
  subst hx hy
  rw [nI_eq ha hb]
  exact ⟨f, g⟩
theorem pk_in {x : Int32} (n N : Nat) (h : n < N) (hx : x = nI n := by rfl) (hN : N < 2 ^ 31 := by omega) : vp_in x N := by
  subst hx
  exact vp_in_nI h hN
theorem pk_cl {x : Int32} (n : Nat) (hx : x = nI n := by rfl) (h : n < 2 ^ 31 := by omega) : x.toNatClampNeg = n := by
  subst hx
  exact nI_clamp h

/-! sums, powers, inverses modulo 97 -/
def zs_sum (f : Nat → Nat) : Nat → Nat
  | 0 => 0
  | k + 1 => zs_sum f k + f k
theorem zs_sum_s (f : Nat → Nat) (k : Nat) : zs_sum f (k + 1) = zs_sum f k + f k := rfl
theorem zs_sum_congr {f g : Nat → Nat} {k : Nat} (h : ∀ i, i < k → f i = g i) : zs_sum f k = zs_sum g k := by
  induction k with
  | zero => rfl
  | succ k ih =>
    show zs_sum f k + f k = zs_sum g k + g k
    rw [ih (fun i hi => h i (by omega)), h k (by omega)]
theorem zs_sum_le {f : Nat → Nat} {M k : Nat} (h : ∀ i, i < k → f i ≤ M) : zs_sum f k ≤ k * M := by
  induction k with
  | zero => exact Nat.zero_le _
  | succ k ih =>
    have a := ih (fun i hi => h i (by omega))
    have b := h k (by omega)
    show zs_sum f k + f k ≤ (k + 1) * M
    rw [Nat.succ_mul]
    omega
theorem zs_mul96 {a b : Nat} (ha : a < 97) (hb : b < 97) : a * b ≤ 9216 := Nat.mul_le_mul (Nat.le_of_lt_succ ha) (Nat.le_of_lt_succ hb)
def zs_pw (b : Nat → Nat) : Nat → Nat → Nat
  | 0 => fun d => if d = 0 then 1 else 0
  | j + 1 => fun d => zs_sum (fun i => zs_pw b j i * b (d - i)) (d + 1) % 97
theorem zs_pw_lt (b : Nat → Nat) (j d : Nat) : zs_pw b j d < 97 := by
  cases j with
  | zero =>
    show (if d = 0 then 1 else 0) < 97
    split <;> omega
  | succ j => exact Nat.mod_lt _ (by decide)
theorem zs_pw_congr {b c : Nat → Nat} {n : Nat} (h : ∀ i, i ≤ n → b i = c i) : ∀ j d, d ≤ n → zs_pw b j d = zs_pw c j d := by
  intro j
  induction j with
  | zero => intro d _; rfl
  | succ j ih =>
    intro d hd
    refine congrArg (· % 97) (zs_sum_congr fun i hi => ?_)
    show zs_pw b j i * b (d - i) = zs_pw c j i * c (d - i)
    rw [ih i (by omega), h (d - i) (by omega)]
def zs_invF (a : Nat) : Nat → Nat → Nat
  | 0 => fun _ => 0
  | k + 1 => fun z => if a * z % 97 = 1 then z else zs_invF a k (z + 1)
def zs_inv (a : Nat) : Nat := zs_invF a 96 1
theorem zs_inv_lt' : ∀ k z a, z + k ≤ 97 → zs_invF a k z < 97 := by
  intro k
  induction k with
  | zero => intro z a _; exact (by decide : 0 < 97)
  | succ k ih =>
    intro z a h
    show (if a * z % 97 = 1 then z else zs_invF a k (z + 1)) < 97
    split
    · omega
    · exact ih (z + 1) a (by omega)
theorem zs_inv_lt (a : Nat) : zs_inv a < 97 := zs_inv_lt' 96 1 a (by decide)
/-! stores, as functions of naturals -/
def zs_un (v : Nat → Nat) (p x : Nat) : Nat → Nat := fun j => if j = p then x else v j
def zs_ub (h : Nat → Bool) (p : Nat) (x : Bool) : Nat → Bool := fun j => if j = p then x else h j
theorem zs_un_s {v : Nat → Nat} {p x : Nat} : zs_un v p x p = x := if_pos rfl
theorem zs_un_n {v : Nat → Nat} {p x j : Nat} (h : j ≠ p) : zs_un v p x j = v j := if_neg h
theorem zs_ub_s {v : Nat → Bool} {p : Nat} {x : Bool} : zs_ub v p x p = x := if_pos rfl
theorem zs_ub_n {v : Nat → Bool} {p j : Nat} {x : Bool} (h : j ≠ p) : zs_ub v p x j = v j := if_neg h
def zs_b : Bool → Int32
  | true => 1
  | false => 0
def zs_N (v : Nat → Nat) : Nat → Int32 := fun q => nI (v q)
def zs_B (h : Nat → Bool) : Nat → Int32 := fun q => zs_b (h q)
theorem zs_updN (v : Nat → Nat) (p x : Nat) : upd (zs_N v) p (nI x) = zs_N (zs_un v p x) := by
  funext j
  show (if j = p then nI x else nI (v j)) = nI (if j = p then x else v j)
  split <;> rfl
theorem zs_updB (v : Nat → Bool) (p : Nat) (x : Bool) : upd (zs_B v) p (zs_b x) = zs_B (zs_ub v p x) := by
  funext j
  show (if j = p then zs_b x else zs_b (v j)) = zs_b (if j = p then x else v j)
  split <;> rfl
/-! how many of the first k -/
def zs_cn (h : Nat → Bool) : Nat → Nat
  | 0 => 0
  | k + 1 => zs_cn h k + (if h k = true then 1 else 0)
theorem zs_cn_le (h : Nat → Bool) (k : Nat) : zs_cn h k ≤ k := by
  induction k with
  | zero => exact Nat.le_refl _
  | succ k ih =>
    show zs_cn h k + (if h k = true then 1 else 0) ≤ k + 1
    split <;> omega
theorem zs_cn_all {h : Nat → Bool} {k : Nat} (e : k ≤ zs_cn h k) : ∀ q, q < k → h q = true := by
  induction k with
  | zero => intro q hq; omega
  | succ k ih =>
    intro q hq
    have e' : k + 1 ≤ zs_cn h k + (if h k = true then 1 else 0) := e
    have l := zs_cn_le h k
    by_cases c : h k = true
    · rw [if_pos c] at e'
      by_cases z : q = k
      · rw [z]; exact c
      · exact ih (by omega) q (by omega)
    · rw [if_neg c] at e'
      omega
theorem zs_cn_congr {h g : Nat → Bool} {k : Nat} (e : ∀ q, q < k → h q = g q) : zs_cn h k = zs_cn g k := by
  induction k with
  | zero => rfl
  | succ k ih =>
    show zs_cn h k + (if h k = true then 1 else 0) = zs_cn g k + (if g k = true then 1 else 0)
    rw [ih (fun q hq => e q (by omega)), e k (by omega)]
theorem zs_cn_add {h : Nat → Bool} {p : Nat} (hp : h p = false) : ∀ k, p < k → zs_cn (zs_ub h p true) k = zs_cn h k + 1 := by
  intro k
  induction k with
  | zero => intro h; omega
  | succ k ih =>
    intro hk
    show zs_cn (zs_ub h p true) k + (if zs_ub h p true k = true then 1 else 0) = zs_cn h k + (if h k = true then 1 else 0) + 1
    by_cases z : p = k
    · subst z
      rw [zs_ub_s, if_pos rfl, hp, if_neg (by decide), zs_cn_congr (g := h) (fun q hq => zs_ub_n (by omega))]
    · rw [zs_ub_n (fun e => z e.symm), ih (by omega)]
      omega
/-! what a coefficient needs, when it is ruled out, its value -/
def zs_nd (k a b s n t m : Nat) : Bool :=
  match k with
  | 2 => decide (m = n) && (decide (t = a) || decide (t = b))
  | 3 => decide (m ≤ n) && (decide (t = a) || decide (t = b))
  | 4 => decide (m = n) && decide (t = a)
  | 5 => decide (m = n + 1) && decide (t = a)
  | 6 => decide (m + 1 = n) && decide (t = a)
  | 7 => (decide (m ≤ n) && decide (t = a)) || (decide (m < n) && decide (t = s))
  | 8 => decide (m + 1 = n) && decide (t = a)
  | 9 => decide (m ≤ n) && (decide (t = a) || decide (t = b))
  | _ => false
def zs_rl (k a b n : Nat) (v : Nat → Nat) : Bool :=
  match k with
  | 5 => decide (n = 15)
  | 7 => decide (v (16 * a) = 0)
  | 9 => decide (v (16 * b) ≠ 0)
  | _ => false
def zs_vl (k a b s n : Nat) (v : Nat → Nat) : Nat :=
  match k with
  | 0 => if n = 0 then b else 0
  | 1 => if n = 1 then 1 else 0
  | 2 => (v (16 * a + n) + v (16 * b + n)) % 97
  | 3 => zs_sum (fun i => v (16 * a + i) * v (16 * b + (n - i))) (n + 1) % 97
  | 4 => b * v (16 * a + n) % 97
  | 5 => if n + 1 < 16 then (n + 1) * v (16 * a + (n + 1)) % 97 else 0
  | 6 => if n = 0 then b else v (16 * a + (n - 1)) * zs_inv n % 97
  | 7 => if n = 0 then zs_inv (v (16 * a)) else (97 - v (16 * s) * (zs_sum (fun i => v (16 * a + (i + 1)) * v (16 * s + (n - (i + 1)))) n % 97) % 97) % 97
  | 8 => if n = 0 then b else v (16 * a + (n - 1))
  | 9 => zs_sum (fun j => v (16 * a + j) * zs_pw (fun d => v (16 * b + d)) j n) (n + 1) % 97
  | _ => 0
theorem zs_k10 {k : Nat} (h : k ≤ 9) : k = 0 ∨ k = 1 ∨ k = 2 ∨ k = 3 ∨ k = 4 ∨ k = 5 ∨ k = 6 ∨ k = 7 ∨ k = 8 ∨ k = 9 := by omega
theorem zs_vl_lt {k a b s n : Nat} {v : Nat → Nat} (hb : b < 97) (hv : ∀ q, v q < 97) : zs_vl k a b s n v < 97 := by
  unfold zs_vl
  split
  · split <;> omega
  · split <;> omega
  · omega
  · omega
  · omega
  · split <;> omega
  · split
    · exact hb
    · omega
  · split
    · exact zs_inv_lt _
    · omega
  · split
    · exact hb
    · exact hv _
  · omega
  · omega
theorem zs_cg {k a b s n : Nat} {v w : Nat → Nat} (hk : k ≤ 9) (ha : a < 8) (hb : k = 2 ∨ k = 3 ∨ k = 9 → b < 8) (hs : s < 8) (hn : n < 16) (H : ∀ t m, t < 8 → m < 16 → zs_nd k a b s n t m = true → v (16 * t + m) = w (16 * t + m)) : zs_rl k a b n v = zs_rl k a b n w ∧ zs_vl k a b s n v = zs_vl k a b s n w := by
  rcases zs_k10 hk with rfl | rfl | rfl | rfl | rfl | rfl | rfl | rfl | rfl | rfl
  · exact ⟨rfl, rfl⟩
  · exact ⟨rfl, rfl⟩
  · have h1 := H a n ha hn (by simp [zs_nd])
    have h2 := H b n (hb (by decide)) hn (by simp [zs_nd])
    refine ⟨rfl, ?_⟩
    show (v (16 * a + n) + v (16 * b + n)) % 97 = (w (16 * a + n) + w (16 * b + n)) % 97
    rw [h1, h2]
  · have h1 : ∀ i, i ≤ n → v (16 * a + i) = w (16 * a + i) := fun i hi => H a i ha (by omega) (by simp [zs_nd, hi])
    have h2 : ∀ i, i ≤ n → v (16 * b + i) = w (16 * b + i) := fun i hi => H b i (hb (by decide)) (by omega) (by simp [zs_nd, hi])
    refine ⟨rfl, congrArg (· % 97) (zs_sum_congr fun i hi => ?_)⟩
    show v (16 * a + i) * v (16 * b + (n - i)) = w (16 * a + i) * w (16 * b + (n - i))
    rw [h1 i (by omega), h2 (n - i) (by omega)]
  · have h1 := H a n ha hn (by simp [zs_nd])
    refine ⟨rfl, ?_⟩
    show b * v (16 * a + n) % 97 = b * w (16 * a + n) % 97
    rw [h1]
  · refine ⟨rfl, ?_⟩
    show (if n + 1 < 16 then (n + 1) * v (16 * a + (n + 1)) % 97 else 0) = (if n + 1 < 16 then (n + 1) * w (16 * a + (n + 1)) % 97 else 0)
    by_cases c : n + 1 < 16
    · rw [if_pos c, if_pos c, H a (n + 1) ha c (by simp [zs_nd])]
    · rw [if_neg c, if_neg c]
  · refine ⟨rfl, ?_⟩
    show (if n = 0 then b else v (16 * a + (n - 1)) * zs_inv n % 97) = (if n = 0 then b else w (16 * a + (n - 1)) * zs_inv n % 97)
    by_cases c : n = 0
    · rw [if_pos c, if_pos c]
    · rw [if_neg c, if_neg c, H a (n - 1) ha (by omega) (by have : n - 1 + 1 = n := by omega
                                                            simp [zs_nd, this])]
  · have h1 : ∀ i, i ≤ n → v (16 * a + i) = w (16 * a + i) := fun i hi => H a i ha (by omega) (by simp [zs_nd, hi])
    have h2 : ∀ i, i < n → v (16 * s + i) = w (16 * s + i) := fun i hi => H s i hs (by omega) (by simp [zs_nd, hi])
    have h0 : v (16 * a) = w (16 * a) := h1 0 (by omega)
    refine ⟨?_, ?_⟩
    · show decide (v (16 * a) = 0) = decide (w (16 * a) = 0)
      rw [h0]
    · show (if n = 0 then zs_inv (v (16 * a)) else (97 - v (16 * s) * (zs_sum (fun i => v (16 * a + (i + 1)) * v (16 * s + (n - (i + 1)))) n % 97) % 97) % 97) = (if n = 0 then zs_inv (w (16 * a)) else (97 - w (16 * s) * (zs_sum (fun i => w (16 * a + (i + 1)) * w (16 * s + (n - (i + 1)))) n % 97) % 97) % 97)
      by_cases c : n = 0
      · rw [if_pos c, if_pos c, h0]
      · have e : zs_sum (fun i => v (16 * a + (i + 1)) * v (16 * s + (n - (i + 1)))) n = zs_sum (fun i => w (16 * a + (i + 1)) * w (16 * s + (n - (i + 1)))) n := by
          refine zs_sum_congr fun i hi => ?_
          show v (16 * a + (i + 1)) * v (16 * s + (n - (i + 1))) = w (16 * a + (i + 1)) * w (16 * s + (n - (i + 1)))
          rw [h1 (i + 1) (by omega), h2 (n - (i + 1)) (by omega)]
        have e0 : v (16 * s) = w (16 * s) := h2 0 (by omega)
        rw [if_neg c, if_neg c, e, e0]
  · refine ⟨rfl, ?_⟩
    show (if n = 0 then b else v (16 * a + (n - 1))) = (if n = 0 then b else w (16 * a + (n - 1)))
    by_cases c : n = 0
    · rw [if_pos c, if_pos c]
    · rw [if_neg c, if_neg c, H a (n - 1) ha (by omega) (by have : n - 1 + 1 = n := by omega
                                                            simp [zs_nd, this])]
  · have h1 : ∀ i, i ≤ n → v (16 * a + i) = w (16 * a + i) := fun i hi => H a i ha (by omega) (by simp [zs_nd, hi])
    have h2 : ∀ i, i ≤ n → v (16 * b + i) = w (16 * b + i) := fun i hi => H b i (hb (by decide)) (by omega) (by simp [zs_nd, hi])
    have h0 : v (16 * b) = w (16 * b) := h2 0 (by omega)
    refine ⟨?_, congrArg (· % 97) (zs_sum_congr fun i hi => ?_)⟩
    · show decide (v (16 * b) ≠ 0) = decide (w (16 * b) ≠ 0)
      rw [h0]
    · show v (16 * a + i) * zs_pw (fun d => v (16 * b + d)) i n = w (16 * a + i) * zs_pw (fun d => w (16 * b + d)) i n
      rw [h1 i (by omega), zs_pw_congr (c := fun d => w (16 * b + d)) (fun d hd => h2 d hd) i n (Nat.le_refl n)]
/-! the definitions of the eight series, and the least table -/
def zs_need (K A B : Nat → Nat) (p q : Nat) : Bool := zs_nd (K (p / 16)) (A (p / 16)) (B (p / 16)) (p / 16) (p % 16) (q / 16) (q % 16)
def zs_rul (K A B : Nat → Nat) (v : Nat → Nat) (p : Nat) : Bool := zs_rl (K (p / 16)) (A (p / 16)) (B (p / 16)) (p % 16) v
def zs_val (K A B : Nat → Nat) (v : Nat → Nat) (p : Nat) : Nat := zs_vl (K (p / 16)) (A (p / 16)) (B (p / 16)) (p / 16) (p % 16) v
def zs_Gd (K A B : Nat → Nat) : Prop := ∀ s, s < 8 → K s ≤ 9 ∧ A s < 8 ∧ B s < 97 ∧ (K s = 2 ∨ K s = 3 ∨ K s = 9 → B s < 8)
def zs_All (K A B : Nat → Nat) (h : Nat → Bool) (p : Nat) : Prop := ∀ q, q < 128 → zs_need K A B p q = true → h q = true
def zs_Cl (K A B : Nat → Nat) (h : Nat → Bool) (v : Nat → Nat) : Prop := ∀ p, p < 128 → zs_All K A B h p → zs_rul K A B v p = false → h p = true ∧ v p = zs_val K A B v p
def zs_Bel (K A B : Nat → Nat) (h : Nat → Bool) (v : Nat → Nat) : Prop := ∀ h2 v2, zs_Cl K A B h2 v2 → ∀ p, p < 128 → h p = true → h2 p = true ∧ v2 p = v p
def zs_Con (K A B : Nat → Nat) (h : Nat → Bool) (v : Nat → Nat) : Prop := ∀ p, p < 128 → h p = true → zs_All K A B h p ∧ zs_rul K A B v p = false ∧ v p = zs_val K A B v p
def zs_Lf (K A B : Nat → Nat) (h : Nat → Bool) (v : Nat → Nat) : Prop := zs_Cl K A B h v ∧ zs_Bel K A B h v
theorem zs_uni {K A B : Nat → Nat} {h h2 : Nat → Bool} {v v2 : Nat → Nat} (a : zs_Lf K A B h v) (b : zs_Lf K A B h2 v2) : ∀ p, p < 128 → h p = h2 p ∧ (h p = true → v p = v2 p) := by
  intro p hp
  have f := a.2 h2 v2 b.1 p hp
  have g := b.2 h v a.1 p hp
  cases e : h p with
  | true => exact ⟨(f e).1.symm, fun _ => (f e).2.symm⟩
  | false =>
    refine ⟨?_, fun z => nomatch z⟩
    cases e2 : h2 p with
    | true => exact absurd (g e2).1 (by rw [e]; decide)
    | false => rfl
theorem zs_cong {K A B : Nat → Nat} (G : zs_Gd K A B) {p : Nat} (hp : p < 128) {v w : Nat → Nat} (h : ∀ q, q < 128 → zs_need K A B p q = true → v q = w q) : zs_rul K A B v p = zs_rul K A B w p ∧ zs_val K A B v p = zs_val K A B w p := by
  have hs : p / 16 < 8 := by omega
  obtain ⟨g1, g2, g3, g4⟩ := G (p / 16) hs
  refine zs_cg g1 g2 g4 hs (by omega) fun t m ht hm hn => h (16 * t + m) (by omega) ?_
  unfold zs_need
  rw [show (16 * t + m) / 16 = t from by omega, show (16 * t + m) % 16 = m from by omega]
  exact hn
theorem zs_step {K A B : Nat → Nat} (G : zs_Gd K A B) {h : Nat → Bool} {v : Nat → Nat} (hB : zs_Bel K A B h v) (hC : zs_Con K A B h v) {p : Nat} (hp : p < 128) (hh : h p = false) (ha : zs_All K A B h p) (hr : zs_rul K A B v p = false) : zs_Bel K A B (zs_ub h p true) (zs_un v p (zs_val K A B v p)) ∧ zs_Con K A B (zs_ub h p true) (zs_un v p (zs_val K A B v p)) := by
  have keep : ∀ q, h q = true → q ≠ p := fun q hq e => by rw [e, hh] at hq; exact nomatch hq
  constructor
  · intro h2 v2 c q hq hq2
    by_cases z : q = p
    · subst z
      have e : ∀ q', q' < 128 → zs_need K A B q q' = true → v q' = v2 q' := fun q' l n => (hB h2 v2 c q' l (ha q' l n)).2.symm
      have cg := zs_cong G hq e
      have r := c q hq (fun q' l n => (hB h2 v2 c q' l (ha q' l n)).1) (by rw [← cg.1]; exact hr)
      rw [zs_un_s]
      exact ⟨r.1, r.2.trans cg.2.symm⟩
    · rw [zs_ub_n z] at hq2
      rw [zs_un_n z]
      exact hB h2 v2 c q hq hq2
  · have sub : ∀ q, zs_All K A B h q → zs_All K A B (zs_ub h p true) q := fun q a q' l n => by
      rw [zs_ub_n (keep q' (a q' l n))]
      exact a q' l n
    have cg : ∀ q, q < 128 → zs_All K A B h q → zs_rul K A B (zs_un v p (zs_val K A B v p)) q = zs_rul K A B v q ∧ zs_val K A B (zs_un v p (zs_val K A B v p)) q = zs_val K A B v q := fun q l a => zs_cong G l fun q' l' n' => zs_un_n (keep q' (a q' l' n'))
    intro q hq hq2
    by_cases z : q = p
    · subst z
      have c := cg q hq ha
      exact ⟨sub q ha, by rw [c.1]; exact hr, by rw [c.2, zs_un_s]⟩
    · rw [zs_ub_n z] at hq2
      obtain ⟨a1, a2, a3⟩ := hC q hq hq2
      have c := cg q hq a1
      exact ⟨sub q a1, by rw [c.1]; exact a2, by rw [c.2, zs_un_n z]; exact a3⟩
/-! reduction to 0 .. 96 -/
def zs_md (x : Int32) : Nat := (x.toInt % 97).toNat
theorem zs_md_lt (x : Int32) : zs_md x < 97 := by unfold zs_md; omega
theorem zs_97 : (97 : Int32).toInt = 97 := by decide
theorem zs_rem (x : Int32) : (x - x / 97 * 97).toInt = x.toInt.tmod 97 := by rw [rem_toInt, zs_97]
theorem zs_tm (a : Int) : -97 < a.tmod 97 ∧ a.tmod 97 < 97 ∧ ((a.tmod 97 < 0 → a % 97 = a.tmod 97 + 97) ∧ (¬ a.tmod 97 < 0 → a % 97 = a.tmod 97)) := by
  have t := tmod_bounds (a := a) (M := 97) (by decide)
  have e := Int.mul_tdiv_add_tmod a 97
  generalize a.tmod 97 = r at *
  generalize a.tdiv 97 = d at *
  omega
theorem zs_red {x r : Int32} (hr : r = x - x / 97 * 97) : (r < 0 → r + 97 = nI (zs_md x)) ∧ (¬ r < 0 → r = nI (zs_md x)) := by
  have e : r.toInt = x.toInt.tmod 97 := by rw [hr]; exact zs_rem x
  obtain ⟨t1, t2, t3, t4⟩ := zs_tm x.toInt
  rw [← e] at t1 t2 t3 t4
  have l : r < 0 ↔ r.toInt < 0 := by rw [Int32.lt_iff_toInt_lt]; exact Iff.rfl
  have m : (nI (zs_md x)).toInt = x.toInt % 97 := by
    rw [nI_toInt (Nat.lt_trans (zs_md_lt x) (by decide))]
    unfold zs_md
    omega
  constructor
  · intro h
    apply Int32.toInt_inj.mp
    rw [m, t3 (l.mp h), Int32.toInt_add, zs_97]
    exact Int.bmod_eq_of_le (by omega) (by omega)
  · intro h
    apply Int32.toInt_inj.mp
    rw [m, t4 (fun z => h (l.mpr z))]
theorem zs_md_n {n : Nat} (h : n < 2 ^ 31) : zs_md (nI n) = n % 97 := by
  unfold zs_md
  rw [nI_toInt h]
  omega
theorem zs_neg {w : Nat} (h : w < 2 ^ 31) : (-nI w).toInt = -(w : Int) := by
  rw [Int32.toInt_neg, nI_toInt h]
  exact Int.bmod_eq_of_le (by omega) (by omega)
theorem zs_md_neg {n : Nat} (h : n < 2 ^ 31) : zs_md (-nI n) = (97 - n % 97) % 97 := by
  unfold zs_md
  rw [zs_neg h]
  omega
theorem zs_r97 {a : Nat} (h : a < 2 ^ 31) : nI a - nI a / 97 * 97 = nI (a % 97) := pk_rem (d := 97) h (by decide) (by decide)
end
section
section
variable {K A B : Nat → Nat} {h : Nat → Bool} {v : Nat → Nat} {f1 f2 f3 f4 f5 f6 f7 f8 : Nat → Int32}
theorem zs_at {f : Nat → Nat} {x : Int32} {q : Nat} (e : x = nI q) (hq : q < 2 ^ 31) : zs_N f x.toNatClampNeg = nI (f q) := by
  rw [e, nI_clamp hq]
  rfl
theorem zs_atB {f : Nat → Bool} {x : Int32} {q : Nat} (e : x = nI q) (hq : q < 2 ^ 31) : zs_B f x.toNatClampNeg = zs_b (f q) := by
  rw [e, nI_clamp hq]
  rfl
theorem zs_hF {f : Nat → Bool} {x : Int32} {q : Nat} (e : x = nI q) (hq : q < 2 ^ 31) (hh : f q = false) : zs_B f x.toNatClampNeg = 0 := by
  rw [zs_atB e hq, hh]
  rfl
theorem zs_hT {f : Nat → Bool} {x : Int32} {q : Nat} (e : x = nI q) (hq : q < 2 ^ 31) (hh : f q = true) : ¬ zs_B f x.toNatClampNeg = 0 := by
  rw [zs_atB e hq, hh]
  decide
theorem zs_i3 {a n i : Nat} (hi : i ≤ n) : nI a + nI n - nI i = nI (a + (n - i)) := by
  rw [nI_add, pk_sub (by omega)]
  exact congrArg nI (by omega)
theorem zs_16 (a : Nat) : 16 * nI a = nI (16 * a) := pk_mul 16 a
theorem zs_d16 {p : Nat} (hp : p < 128) : nI p / 16 = nI (p / 16) := pk_div (d := 16) (by omega) (by decide) (by decide)
theorem zs_m16 {p : Nat} (hp : p < 128) : nI p - nI p / 16 * 16 = nI (p % 16) := pk_rem (d := 16) (by omega) (by decide) (by decide)
theorem zs_bn : vp_nar .boolean 1 = zs_b true := by decide
theorem zs_bf : vp_nar .boolean 0 = zs_b false := by decide
/-! needsDirectly -/
theorem zx_nd228 {post : Int32 → Prop} {s n t m : Nat} (hs : s < 8) (hn : n < 16) (ht : t < 8) (hm : m < 16) (P : post (zs_b (decide (m < n) && decide (t = s)))) : wX_needsDirectly_228 post (nI s) (nI n) (nI t) (nI m) f1 f2 f3 f4 f5 f6 f7 f8 := by
  refine pk_le n m (fun e => ?_) (fun e => pk_eq t s (fun e2 => ?_) (fun e2 => ?_))
  · rw [decide_eq_false (show ¬ m < n by omega)] at P; exact P
  · rw [decide_eq_true e, decide_eq_true e2] at P; exact P
  · rw [decide_eq_true e, decide_eq_false e2] at P; exact P
theorem zx_nd196 {post : Int32 → Prop} {n m : Nat} {ca : Bool} (hn : n < 16) (hm : m < 16) (P : post (zs_b (decide (m + 1 = n) && ca))) : wX_needsDirectly_196 post (nI n) (nI m) (zs_b ca) f1 f2 f3 f4 f5 f6 f7 f8 := by
  cases n with
  | zero =>
    have z : ¬ nI m = nI 0 - 1 := by
      intro e
      have e2 := congrArg Int32.toInt e
      rw [nI_toInt (by omega), show (nI 0 - 1).toInt = -1 from by decide] at e2
      omega
    refine br_f z ?_
    rw [decide_eq_false (show ¬ m + 1 = 0 by omega)] at P
    exact P
  | succ n =>
    refine pk_eq m n (fun e => ?_) (fun e => ?_) rfl (nI_pred n)
    · rw [decide_eq_true (show m + 1 = n + 1 by omega)] at P
      cases ca
      · exact br_t rfl P
      · exact br_f (by decide) P
    · rw [decide_eq_false (show ¬ m + 1 = n + 1 by omega)] at P
      exact P
theorem zx_nd135 {post : Int32 → Prop} {n m : Nat} {ca cb : Bool} (hn : n < 16) (hm : m < 16) (P : post (zs_b (decide (m ≤ n) && (ca || cb)))) : wX_needsDirectly_135 post (nI n) (nI m) (zs_b ca) (zs_b cb) f1 f2 f3 f4 f5 f6 f7 f8 := by
  refine pk_lt n m (fun e => ?_) (fun e => ?_)
  · rw [decide_eq_false (show ¬ m ≤ n by omega)] at P; exact P
  · rw [decide_eq_true e] at P
    cases ca
    · refine br_t rfl ?_
      cases cb
      · exact br_t rfl P
      · exact br_f (by decide) P
    · exact br_f (by decide) P
theorem zx_nd57 {post : Int32 → Prop} {s n t m : Nat} {ca cb : Bool} (hs : s < 8) (hk : K s ≤ 9) (hn : n < 16) (ht : t < 8) (hm : m < 16) (hca : ca = decide (t = A s)) (hcb : cb = decide (t = B s)) (P : post (zs_b (zs_nd (K s) (A s) (B s) s n t m))) : wX_needsDirectly_57 post (nI s) (nI n) (nI t) (nI m) (zs_b ca) (zs_b cb) (zs_N K) f2 f3 f4 f5 f6 f7 f8 := by
  refine ⟨vp_in_nI hs (by decide), nm_r (zs_at rfl (by omega)) ?_⟩
  generalize K s = k at *
  generalize A s = a at *
  generalize B s = b at *
  rcases zs_k10 hk with rfl | rfl | rfl | rfl | rfl | rfl | rfl | rfl | rfl | rfl
  · exact br_t (by decide) P
  · exact br_t (by decide) P
  · have Q : post (zs_b (decide (m = n) && (ca || cb))) := by rw [hca, hcb]; exact P
    refine br_f (by decide) (br_f (by decide) (br_t (by decide) (pk_eq m n (fun e => ?_) (fun e => ?_))))
    · rw [decide_eq_true e] at Q
      cases ca
      · refine br_t rfl ?_
        cases cb
        · exact br_t rfl Q
        · exact br_f (by decide) Q
      · exact br_f (by decide) Q
    · rw [decide_eq_false e] at Q; exact Q
  · have Q : post (zs_b (decide (m ≤ n) && (ca || cb))) := by rw [hca, hcb]; exact P
    exact br_f (by decide) (br_f (by decide) (br_f (by decide) (br_t (by decide) (zx_nd135 hn hm Q))))
  · have Q : post (zs_b (decide (m = n) && ca)) := by rw [hca]; exact P
    refine br_f (by decide) (br_f (by decide) (br_f (by decide) (br_f (by decide) (br_t (by decide) (pk_eq m n (fun e => ?_) (fun e => ?_))))))
    · rw [decide_eq_true e] at Q
      cases ca
      · exact br_t rfl Q
      · exact br_f (by decide) Q
    · rw [decide_eq_false e] at Q; exact Q
  · have Q : post (zs_b (decide (m = n + 1) && ca)) := by rw [hca]; exact P
    refine br_f (by decide) (br_f (by decide) (br_f (by decide) (br_f (by decide) (br_f (by decide) (br_t (by decide) (pk_eq m (n + 1) (fun e => ?_) (fun e => ?_) rfl (nI_1 n)))))))
    · rw [decide_eq_true e] at Q
      cases ca
      · exact br_t rfl Q
      · exact br_f (by decide) Q
    · rw [decide_eq_false e] at Q; exact Q
  · have Q : post (zs_b (decide (m + 1 = n) && ca)) := by rw [hca]; exact P
    exact br_f (by decide) (br_f (by decide) (br_f (by decide) (br_f (by decide) (br_f (by decide) (br_f (by decide) (br_t (by decide) (zx_nd196 hn hm Q)))))))
  · have Q : post (zs_b ((decide (m ≤ n) && ca) || (decide (m < n) && decide (t = s)))) := by rw [hca]; exact P
    refine br_f (by decide) (br_f (by decide) (br_f (by decide) (br_f (by decide) (br_f (by decide) (br_f (by decide) (br_f (by decide) (br_t (by decide) (pk_lt n m (fun e => ?_) (fun e => ?_)))))))))
    · rw [decide_eq_false (show ¬ m ≤ n by omega)] at Q
      exact zx_nd228 hs hn ht hm Q
    · rw [decide_eq_true e] at Q
      cases ca
      · exact br_t rfl (zx_nd228 hs hn ht hm Q)
      · exact br_f (by decide) Q
  · have Q : post (zs_b (decide (m + 1 = n) && ca)) := by rw [hca]; exact P
    exact br_f (by decide) (br_f (by decide) (br_f (by decide) (br_f (by decide) (br_f (by decide) (br_f (by decide) (br_f (by decide) (br_f (by decide) (br_t (by decide) (zx_nd196 hn hm Q)))))))))
  · have Q : post (zs_b (decide (m ≤ n) && (ca || cb))) := by rw [hca, hcb]; exact P
    exact br_f (by decide) (br_f (by decide) (br_f (by decide) (br_f (by decide) (br_f (by decide) (br_f (by decide) (br_f (by decide) (br_f (by decide) (br_f (by decide) (br_t (by decide) (zx_nd135 hn hm Q))))))))))
theorem zx_nd39 {post : Int32 → Prop} {s n t m : Nat} {ca : Bool} (hs : s < 8) (hk : K s ≤ 9) (hb : B s < 97) (hn : n < 16) (ht : t < 8) (hm : m < 16) (hca : ca = decide (t = A s)) (P : post (zs_b (zs_nd (K s) (A s) (B s) s n t m))) : wX_needsDirectly_39 post (nI s) (nI n) (nI t) (nI m) (zs_b ca) (zs_N K) f2 (zs_N B) f4 f5 f6 f7 f8 :=
  ⟨vp_in_nI hs (by decide), pk_eq t (B s) (fun e => zx_nd57 (cb := true) hs hk hn ht hm hca (decide_eq_true e).symm P) (fun e => zx_nd57 (cb := false) hs hk hn ht hm hca (decide_eq_false e).symm P) rfl (zs_at rfl (by omega))⟩
theorem zx_nd {post : Int32 → Prop} (G : zs_Gd K A B) {p q : Nat} (hp : p < 128) (hq : q < 128) (P : post (zs_b (zs_need K A B p q))) : wpX_needsDirectly post (zs_N K, zs_N A, zs_N B, f4, f5, f6, f7, f8) (nI p) (nI q) := by
  have hs : p / 16 < 8 := by omega
  obtain ⟨g1, g2, g3, g4⟩ := G (p / 16) hs
  have hn : p % 16 < 16 := by omega
  have ht : q / 16 < 8 := by omega
  have hm : q % 16 < 16 := by omega
  refine ⟨by decide, nm_r (zs_d16 hp) ⟨by decide, nm_r (zs_m16 hp) ⟨by decide, nm_r (zs_d16 hq) ⟨by decide, nm_r (zs_m16 hq) ⟨vp_in_nI hs (by decide), ?_⟩⟩⟩⟩⟩
  exact pk_eq (q / 16) (A (p / 16)) (fun e => zx_nd39 (ca := true) hs g1 g3 hn ht hm (decide_eq_true e).symm P) (fun e => zx_nd39 (ca := false) hs g1 g3 hn ht hm (decide_eq_false e).symm P) rfl (zs_at rfl (by omega))
/-! allNeedsHaveValues -/
theorem zx_allL {post : Int32 → Prop} (G : zs_Gd K A B) {p : Nat} (hp : p < 128) (h1 : zs_All K A B h p → post 1) (h0 : ¬ zs_All K A B h p → post 0) : ∀ d i, i + d = 128 → (∀ q, q < i → zs_need K A B p q = true → h q = true) → wX_allNeedsHaveValues_2 post (nI p) (zs_N K) (zs_N A) (zs_N B) (zs_B h) f5 f6 f7 f8 (d + 1) (nI i) := by
  intro d
  induction d with
  | zero =>
    intro i hi a
    exact pk_le 128 i (fun _ => h1 (fun q hq => a q (by omega))) (fun e => absurd e (by omega))
  | succ d ih =>
    intro i hi a
    have hl : i < 128 := by omega
    refine pk_le 128 i (fun e => absurd e (by omega)) (fun _ => ⟨vp_in_nI hl (by decide), ?_⟩)
    cases hh : h i with
    | false =>
      refine br_t (zs_hF rfl (by omega) hh) (zx_nd G hp hl ?_)
      cases hn : zs_need K A B p i with
      | false =>
        refine br_t rfl (nm_r (nI_1 i) (ih (i + 1) (by omega) ?_))
        intro q hq hnq
        by_cases z : q = i
        · rw [z, hn] at hnq; exact nomatch hnq
        · exact a q (by omega) hnq
      | true =>
        refine br_f (by decide) (h0 fun c => ?_)
        have := c i hl hn
        rw [hh] at this
        exact nomatch this
    | true =>
      refine br_f (zs_hT rfl (by omega) hh) (nm_r (nI_1 i) (ih (i + 1) (by omega) ?_))
      intro q hq hnq
      by_cases z : q = i
      · rw [z]; exact hh
      · exact a q (by omega) hnq
theorem zx_all {post : Int32 → Prop} (G : zs_Gd K A B) {p : Nat} (hp : p < 128) (h1 : zs_All K A B h p → post 1) (h0 : ¬ zs_All K A B h p → post 0) : wpX_allNeedsHaveValues post (zs_N K, zs_N A, zs_N B, zs_B h, f5, f6, f7, f8) (nI p) :=
  ⟨129, zx_allL G hp h1 h0 128 0 rfl (fun q hq => absurd hq (by omega))⟩
/-! isRuledOut -/
theorem zx_rul {post : Int32 → Prop} (G : zs_Gd K A B) {p : Nat} (hp : p < 128) (hv : ∀ q, v q < 97) (P : post (zs_b (zs_rul K A B v p))) : wpX_isRuledOut post (zs_N K, zs_N A, zs_N B, f4, zs_N v, f6, f7, f8) (nI p) := by
  have hs : p / 16 < 8 := by omega
  obtain ⟨g1, g2, g3, g4⟩ := G (p / 16) hs
  refine ⟨by decide, nm_r (zs_d16 hp) ⟨vp_in_nI hs (by decide), nm_r (zs_at rfl (by omega)) ?_⟩⟩
  have Q : post (zs_b (zs_rl (K (p / 16)) (A (p / 16)) (B (p / 16)) (p % 16) v)) := P
  have ea : 16 * zs_N A (nI (p / 16)).toNatClampNeg = nI (16 * A (p / 16)) := by rw [zs_at rfl (by omega)]; exact zs_16 _
  have eb : 16 * zs_N B (nI (p / 16)).toNatClampNeg = nI (16 * B (p / 16)) := by rw [zs_at rfl (by omega)]; exact zs_16 _
  have h1 := hv (16 * A (p / 16))
  have h2 := hv (16 * B (p / 16))
  generalize K (p / 16) = k at *
  rcases zs_k10 g1 with rfl | rfl | rfl | rfl | rfl | rfl | rfl | rfl | rfl | rfl
  · exact br_t (by decide) Q
  · exact br_t (by decide) Q
  · exact br_t (by decide) Q
  · exact br_t (by decide) Q
  · exact br_t (by decide) Q
  · refine br_f (by decide) (br_f (by decide) (br_t (by decide) ⟨by decide, pk_eq (p % 16) 15 (fun e => ?_) (fun e => ?_) (zs_m16 hp)⟩))
    · have Q2 : post (zs_b (decide (p % 16 = 15))) := Q
      rw [decide_eq_true e] at Q2; exact Q2
    · have Q2 : post (zs_b (decide (p % 16 = 15))) := Q
      rw [decide_eq_false e] at Q2; exact Q2
  · exact br_f (by decide) (br_f (by decide) (br_f (by decide) (br_t (by decide) Q)))
  · have Q2 : post (zs_b (decide (v (16 * A (p / 16)) = 0))) := Q
    refine br_f (by decide) (br_f (by decide) (br_f (by decide) (br_f (by decide) (br_t (by decide) ⟨vp_in_nI hs (by decide), pk_in (16 * A (p / 16)) 128 (by omega) ea, pk_eq (v (16 * A (p / 16))) 0 (fun e => ?_) (fun e => ?_) (zs_at ea (by omega))⟩))))
    · rw [decide_eq_true e] at Q2; exact Q2
    · rw [decide_eq_false e] at Q2; exact Q2
  · exact br_f (by decide) (br_f (by decide) (br_f (by decide) (br_f (by decide) (br_f (by decide) (br_t (by decide) Q)))))
  · have g5 : B (p / 16) < 8 := g4 (by decide)
    have Q2 : post (zs_b (decide (v (16 * B (p / 16)) ≠ 0))) := Q
    refine br_f (by decide) (br_f (by decide) (br_f (by decide) (br_f (by decide) (br_f (by decide) (br_f (by decide) (br_t (by decide) ⟨vp_in_nI hs (by decide), pk_in (16 * B (p / 16)) 128 (by omega) eb, pk_eq (v (16 * B (p / 16))) 0 (fun e => ?_) (fun e => ?_) (zs_at eb (by omega))⟩))))))
    · rw [decide_eq_false (fun z => z e)] at Q2; exact Q2
    · rw [decide_eq_true e] at Q2; exact Q2
end
end
section
section
variable {K A B : Nat → Nat} {h : Nat → Bool} {v : Nat → Nat} {f1 f2 f3 f4 f5 f6 f7 f8 : Nat → Int32}
theorem zs_sumB {F : Nat → Nat} (hF : ∀ i, F i ≤ 9216) {k : Nat} (hk : k ≤ 17) : zs_sum F k < 2 ^ 31 := by
  have a := zs_sum_le (f := F) (M := 9216) (k := k) (fun i _ => hF i)
  have b : k * 9216 ≤ 17 * 9216 := Nat.mul_le_mul_right _ hk
  omega
theorem zs_vv {v : Nat → Nat} (hv : ∀ q, v q < 97) (i j : Nat) : v i * v j ≤ 9216 := zs_mul96 (hv i) (hv j)
/-! productValue -/
theorem zx_prodL {post : Int32 → Prop} {a b n : Nat} (ha : a < 8) (hb : b < 8) (hn : n < 16) (hv : ∀ q, v q < 97) (P : post (nI (zs_sum (fun i => v (16 * a + i) * v (16 * b + (n - i))) (n + 1) % 97))) : ∀ d i, i + d = n + 1 → wX_productValue_6 post (nI (16 * a)) (nI (16 * b)) (nI n) f1 f2 f3 f4 (zs_N v) f6 f7 f8 (d + 1) (nI (zs_sum (fun i => v (16 * a + i) * v (16 * b + (n - i))) i)) (nI i) := by
  intro d
  induction d with
  | zero =>
    intro i hi
    have e : i = n + 1 := by omega
    subst e
    refine pk_lt n (n + 1) (fun _ => ⟨by decide, ?_⟩) (fun e => absurd e (by omega))
    rw [zs_r97 (zs_sumB (fun i => zs_vv hv _ _) (by omega))]
    exact P
  | succ d ih =>
    intro i hi
    have e1 : nI (16 * a) + nI i = nI (16 * a + i) := nI_add _ _
    have e2 : nI (16 * b) + nI n - nI i = nI (16 * b + (n - i)) := zs_i3 (by omega)
    refine pk_lt n i (fun e => absurd e (by omega)) (fun _ => ⟨pk_in (16 * a + i) 128 (by omega) e1, pk_in (16 * b + (n - i)) 128 (by omega) e2, nm_r ?_ (nm_r (nI_1 i) (ih (i + 1) (by omega)))⟩)
    rw [zs_at e1 (by omega), zs_at e2 (by omega), pk_mul, nI_add]
    rfl
theorem zx_prod {post : Int32 → Prop} {a b n : Nat} (ha : a < 8) (hb : b < 8) (hn : n < 16) (hv : ∀ q, v q < 97) (P : post (nI (zs_sum (fun i => v (16 * a + i) * v (16 * b + (n - i))) (n + 1) % 97))) : wpX_productValue post (f1, f2, f3, f4, zs_N v, f6, f7, f8) (nI (16 * a)) (nI (16 * b)) (nI n) :=
  ⟨n + 2, zx_prodL ha hb hn hv P (n + 1) 0 (by omega)⟩
/-! inverse, reduced -/
theorem zx_invL {post : Int32 → Prop} {a : Nat} (ha : a < 97) : ∀ k z, z + k = 97 → post (nI (zs_invF a k z)) → wX_inverse_2 post (nI a) (k + 1) (nI z) := by
  intro k
  induction k with
  | zero =>
    intro z hz P
    exact pk_le 97 z (fun _ => P) (fun e => absurd e (by omega))
  | succ k ih =>
    intro z hz P
    have P' : post (nI (if a * z % 97 = 1 then z else zs_invF a k (z + 1))) := P
    have hb : a * z ≤ 96 * 97 := Nat.mul_le_mul (by omega) (by omega)
    have e : nI a * nI z - nI a * nI z / 97 * 97 = nI (a * z % 97) := by rw [pk_mul, zs_r97 (by omega)]
    refine pk_le 97 z (fun e => absurd e (by omega)) (fun _ => ⟨by decide, pk_eq (a * z % 97) 1 (fun c => ?_) (fun c => ?_) e⟩)
    · rw [if_pos c] at P'; exact P'
    · rw [if_neg c] at P'
      exact nm_r (nI_1 z) (ih (z + 1) (by omega) P')
theorem zx_inv {post : Int32 → Prop} {a : Nat} (ha : a < 97) (P : post (nI (zs_inv a))) : wpX_inverse post (nI a) := ⟨97, zx_invL ha 96 1 rfl P⟩
theorem zx_red {post : Int32 → Prop} (x : Int32) (P : post (nI (zs_md x))) : wpX_reduced post x := by
  refine ⟨by decide, nm_e ?_⟩
  have e := zs_red (x := x) rfl
  refine br_c (fun c => ?_) (fun c => ?_)
  · rw [e.2 (Int32.not_lt.mpr c)]; exact P
  · rw [e.1 (Int32.not_le.mp c)]; exact P
/-! reciprocalValue -/
theorem zx_recL {post : Int32 → Prop} {a s n : Nat} (ha : a < 8) (hs : s < 8) (hn : n < 16) (hv : ∀ q, v q < 97) (P : post (nI ((97 - v (16 * s) * (zs_sum (fun i => v (16 * a + (i + 1)) * v (16 * s + (n - (i + 1)))) n % 97) % 97) % 97))) : ∀ d i, i + d = n → wX_reciprocalValue_20 post (nI (16 * a)) (nI (16 * s)) (nI n) f1 f2 f3 f4 (zs_N v) f6 f7 f8 (d + 1) (nI (zs_sum (fun i => v (16 * a + (i + 1)) * v (16 * s + (n - (i + 1)))) i)) (nI (i + 1)) := by
  intro d
  induction d with
  | zero =>
    intro i hi
    have e : i = n := by omega
    subst e
    refine pk_lt i (i + 1) (fun _ => ⟨vp_in_nI (by omega) (by decide), by decide, zx_red _ ?_⟩) (fun e => absurd e (by omega))
    have hS : zs_sum (fun j => v (16 * a + (j + 1)) * v (16 * s + (i - (j + 1)))) i < 2 ^ 31 := zs_sumB (fun i => zs_vv hv _ _) (by omega)
    rw [zs_at rfl (by omega), zs_r97 hS, Int32.neg_mul, pk_mul]
    have hb := zs_mul96 (hv (16 * s)) (Nat.mod_lt (zs_sum (fun j => v (16 * a + (j + 1)) * v (16 * s + (i - (j + 1)))) i) (by decide : 97 > 0))
    rw [zs_md_neg (by omega)]
    exact P
  | succ d ih =>
    intro i hi
    have e1 : nI (16 * a) + nI (i + 1) = nI (16 * a + (i + 1)) := nI_add _ _
    have e2 : nI (16 * s) + nI n - nI (i + 1) = nI (16 * s + (n - (i + 1))) := zs_i3 (by omega)
    refine pk_lt n (i + 1) (fun e => absurd e (by omega)) (fun _ => ⟨pk_in (16 * a + (i + 1)) 128 (by omega) e1, pk_in (16 * s + (n - (i + 1))) 128 (by omega) e2, nm_r ?_ (nm_r (nI_1 (i + 1)) (ih (i + 1) (by omega)))⟩)
    rw [zs_at e1 (by omega), zs_at e2 (by omega), pk_mul, nI_add]
    rfl
theorem zx_rec {post : Int32 → Prop} {a s n : Nat} (ha : a < 8) (hs : s < 8) (hn : n < 16) (hv : ∀ q, v q < 97) (P : post (nI (if n = 0 then zs_inv (v (16 * a)) else (97 - v (16 * s) * (zs_sum (fun i => v (16 * a + (i + 1)) * v (16 * s + (n - (i + 1)))) n % 97) % 97) % 97))) : wpX_reciprocalValue post (f1, f2, f3, f4, zs_N v, f6, f7, f8) (nI (16 * a)) (nI (16 * s)) (nI n) := by
  refine pk_eq n 0 (fun c => ?_) (fun c => ?_)
  · rw [if_pos c] at P
    refine ⟨vp_in_nI (by omega) (by decide), ?_⟩
    rw [zs_at rfl (by omega)]
    exact zx_inv (hv _) P
  · rw [if_neg c] at P
    exact ⟨n + 1, zx_recL ha hs hn hv P n 0 (by omega)⟩
/-! raisePower -/
theorem zx_r12 {post : SX → Prop} {J2 : Int32 → (Nat → Int32) → (Nat → Int32) → (Nat → Int32) → (Nat → Int32) → (Nat → Int32) → (Nat → Int32) → (Nat → Int32) → (Nat → Int32) → Prop} {b d : Nat} {g : Nat → Nat} (hb : b < 8) (hd : d < 16) (hv : ∀ q, v q < 97) (hg : ∀ i, g i < 97) (ho : ∀ i, i ≤ d → f6 i = nI (g i)) (P : J2 (nI d + (-1)) f1 f2 f3 f4 (zs_N v) (upd f6 d (nI (zs_sum (fun i => g i * v (16 * b + (d - i))) (d + 1) % 97))) f7 f8) : ∀ m i, i + m = d + 1 → wX_raisePower_12 post J2 (nI (16 * b)) (nI d) f1 f2 f3 f4 (zs_N v) f6 f7 f8 (m + 1) (nI (zs_sum (fun i => g i * v (16 * b + (d - i))) i)) (nI i) := by
  intro m
  induction m with
  | zero =>
    intro i hi
    have e : i = d + 1 := by omega
    subst e
    refine pk_lt d (d + 1) (fun _ => ⟨by decide, vp_in_nI hd (by decide), nm_r ?_ (nm_e P)⟩) (fun e => absurd e (by omega))
    rw [zs_r97 (zs_sumB (fun i => zs_mul96 (hg _) (hv _)) (by omega)), nI_clamp (by omega)]
  | succ m ih =>
    intro i hi
    have e2 : nI (16 * b) + nI d - nI i = nI (16 * b + (d - i)) := zs_i3 (by omega)
    refine pk_lt d i (fun e => absurd e (by omega)) (fun _ => ⟨vp_in_nI (by omega) (by decide), pk_in (16 * b + (d - i)) 128 (by omega) e2, nm_r ?_ (nm_r (nI_1 i) (ih (i + 1) (by omega)))⟩)
    rw [nI_clamp (by omega), ho i (by omega), zs_at e2 (by omega), pk_mul, nI_add]
    rfl
theorem zx_r2 {post : SX → Prop} {b n j : Nat} (hb : b < 8) (hn : n < 16) (hv : ∀ q, v q < 97) (P : ∀ f : Nat → Int32, (∀ i, i ≤ n → f i = nI (zs_pw (fun d => v (16 * b + d)) (j + 1) i)) → post (f1, f2, f3, f4, zs_N v, f, f7, f8)) : ∀ d, d ≤ n → ∀ f6 : Nat → Int32, (∀ i, i ≤ d → f6 i = nI (zs_pw (fun d => v (16 * b + d)) j i)) → (∀ i, d < i → i ≤ n → f6 i = nI (zs_pw (fun d => v (16 * b + d)) (j + 1) i)) → wX_raisePower_2 post (nI (16 * b)) (d + 2) (nI d) f1 f2 f3 f4 (zs_N v) f6 f7 f8 := by
  intro d
  induction d with
  | zero =>
    intro hd f6 ho hw
    refine br_f (nI_pos (by decide)) ⟨2, zx_r12 (g := zs_pw (fun d => v (16 * b + d)) j) hb (by omega) hv (fun i => zs_pw_lt _ _ _) ho ?_ 1 0 rfl⟩
    refine br_t (by decide) (P _ fun i hi => ?_)
    by_cases z : i = 0
    · subst z; rw [pk_us]; rfl
    · rw [pk_un z]; exact hw i (by omega) hi
  | succ d ih =>
    intro hd f6 ho hw
    refine br_f (nI_pos (by omega)) ⟨d + 3, zx_r12 (g := zs_pw (fun d => v (16 * b + d)) j) hb (by omega) hv (fun i => zs_pw_lt _ _ _) ho ?_ (d + 2) 0 (by omega)⟩
    rw [pk_m1]
    refine ih (by omega) _ (fun i hi => ?_) (fun i hi hi2 => ?_)
    · rw [pk_un (by omega)]; exact ho i (by omega)
    · by_cases z : i = d + 1
      · subst z; rw [pk_us]; rfl
      · rw [pk_un z]; exact hw i (by omega) hi2
theorem zx_raise {post : SX → Prop} {b n j : Nat} (hb : b < 8) (hn : n < 16) (hv : ∀ q, v q < 97) (ho : ∀ i, i ≤ n → f6 i = nI (zs_pw (fun d => v (16 * b + d)) j i)) (P : ∀ f : Nat → Int32, (∀ i, i ≤ n → f i = nI (zs_pw (fun d => v (16 * b + d)) (j + 1) i)) → post (f1, f2, f3, f4, zs_N v, f, f7, f8)) : wpX_raisePower post (f1, f2, f3, f4, zs_N v, f6, f7, f8) (nI (16 * b)) (nI n) :=
  ⟨n + 2, zx_r2 hb hn hv P n (Nat.le_refl n) f6 ho (fun i a b => absurd a (by omega))⟩
/-! composedValue -/
theorem zx_c48 {post : Int32 → SX → Prop} {a b n : Nat} (ha : a < 8) (hb : b < 8) (hn : n < 16) (hv : ∀ q, v q < 97) (P : ∀ f : Nat → Int32, post (nI (zs_sum (fun j => v (16 * a + j) * zs_pw (fun d => v (16 * b + d)) j n) (n + 1) % 97)) (f1, f2, f3, f4, zs_N v, f, f7, f8)) : ∀ d j, j + d = n → ∀ f6 : Nat → Int32, (∀ i, i ≤ n → f6 i = nI (zs_pw (fun d => v (16 * b + d)) j i)) → wX_composedValue_48 post (nI (16 * a)) (nI (16 * b)) (nI n) (d + 1) (nI (zs_sum (fun j => v (16 * a + j) * zs_pw (fun d => v (16 * b + d)) j n) (j + 1))) (nI (j + 1)) f1 f2 f3 f4 (zs_N v) f6 f7 f8 := by
  intro d
  induction d with
  | zero =>
    intro j hj f6 ho
    have e : j = n := by omega
    subst e
    refine pk_lt j (j + 1) (fun _ => ⟨by decide, ?_⟩) (fun e => absurd e (by omega))
    rw [zs_r97 (zs_sumB (fun i => zs_mul96 (hv _) (zs_pw_lt _ _ _)) (by omega))]
    exact P f6
  | succ d ih =>
    intro j hj f6 ho
    refine pk_lt n (j + 1) (fun e => absurd e (by omega)) (fun _ => zx_raise hb hn hv ho fun f hf => ?_)
    have e1 : nI (16 * a) + nI (j + 1) = nI (16 * a + (j + 1)) := nI_add _ _
    refine ⟨pk_in (16 * a + (j + 1)) 128 (by omega) e1, vp_in_nI hn (by decide), nm_r ?_ (nm_r (nI_1 (j + 1)) (ih (j + 1) (by omega) f hf))⟩
    rw [zs_at e1 (by omega), nI_clamp (by omega), hf n (Nat.le_refl n), pk_mul, nI_add]
    rfl
theorem zx_c10 {post : Int32 → SX → Prop} {a b n : Nat} (ha : a < 8) (hb : b < 8) (hn : n < 16) (hv : ∀ q, v q < 97) (P : ∀ f : Nat → Int32, post (nI (zs_sum (fun j => v (16 * a + j) * zs_pw (fun d => v (16 * b + d)) j n) (n + 1) % 97)) (f1, f2, f3, f4, zs_N v, f, f7, f8)) : ∀ d i, i + d = n → ∀ f6 : Nat → Int32, (∀ k, k ≤ i → f6 k = nI (zs_pw (fun d => v (16 * b + d)) 0 k)) → wX_composedValue_10 post (nI (16 * a)) (nI (16 * b)) (nI n) (d + 1) (nI (i + 1)) f1 f2 f3 f4 (zs_N v) f6 f7 f8 := by
  intro d
  induction d with
  | zero =>
    intro i hi f6 ho
    have e : i = n := by omega
    subst e
    refine pk_lt i (i + 1) (fun _ => ⟨vp_in_nI (by omega) (by decide), vp_in_nI hn (by decide), nm_r ?_ ⟨i + 1, zx_c48 ha hb hn hv P i 0 (by omega) f6 ho⟩⟩) (fun e => absurd e (by omega))
    rw [zs_at rfl (by omega), nI_clamp (by omega), ho i (Nat.le_refl i), pk_mul]
    exact congrArg nI (Nat.zero_add _).symm
  | succ d ih =>
    intro i hi f6 ho
    refine pk_lt n (i + 1) (fun e => absurd e (by omega)) (fun _ => ⟨vp_in_nI (by omega) (by decide), nm_e (nm_r (nI_1 (i + 1)) (ih (i + 1) (by omega) _ fun k hk => ?_))⟩)
    rw [nI_clamp (by omega)]
    by_cases z : k = i + 1
    · subst z; rw [pk_us]; rfl
    · rw [pk_un z]; exact ho k (by omega)
theorem zx_comp {post : Int32 → SX → Prop} {a b n : Nat} (ha : a < 8) (hb : b < 8) (hn : n < 16) (hv : ∀ q, v q < 97) (P : ∀ f : Nat → Int32, post (nI (zs_sum (fun j => v (16 * a + j) * zs_pw (fun d => v (16 * b + d)) j n) (n + 1) % 97)) (f1, f2, f3, f4, zs_N v, f, f7, f8)) : wpX_composedValue post (f1, f2, f3, f4, zs_N v, f6, f7, f8) (nI (16 * a)) (nI (16 * b)) (nI n) := by
  refine nm_e ⟨n + 1, zx_c10 ha hb hn hv P n 0 (by omega) _ fun k hk => ?_⟩
  have z : k = 0 := by omega
  subst z
  exact pk_us
/-! valueAt -/
theorem zx_val {post : Int32 → SX → Prop} (G : zs_Gd K A B) {p : Nat} (hp : p < 128) (hv : ∀ q, v q < 97) (P : ∀ f : Nat → Int32, post (nI (zs_val K A B v p)) (zs_N K, zs_N A, zs_N B, f4, zs_N v, f, f7, f8)) : wpX_valueAt post (zs_N K, zs_N A, zs_N B, f4, zs_N v, f6, f7, f8) (nI p) := by
  have hs : p / 16 < 8 := by omega
  obtain ⟨g1, g2, g3, g4⟩ := G (p / 16) hs
  have ea : 16 * zs_N A (nI (p / 16)).toNatClampNeg = nI (16 * A (p / 16)) := by rw [zs_at rfl (by omega)]; exact zs_16 _
  have eb : 16 * zs_N B (nI (p / 16)).toNatClampNeg = nI (16 * B (p / 16)) := by rw [zs_at rfl (by omega)]; exact zs_16 _
  have ei := vp_in_nI hs (by decide : 8 < 2 ^ 31)
  refine ⟨by decide, nm_r (zs_d16 hp) ⟨by decide, nm_r (zs_m16 hp) ⟨ei, nm_r (zs_at rfl (by omega)) ⟨ei, nm_r ea ⟨ei, nm_r eb ⟨ei, nm_r (zs_at rfl (by omega)) ?_⟩⟩⟩⟩⟩⟩
  have Q : ∀ f : Nat → Int32, post (nI (zs_vl (K (p / 16)) (A (p / 16)) (B (p / 16)) (p / 16) (p % 16) v)) (zs_N K, zs_N A, zs_N B, f4, zs_N v, f, f7, f8) := P
  have hn : p % 16 < 16 := by omega
  generalize zs_N K = fK at *
  generalize zs_N A = fA at *
  generalize zs_N B = fB at *
  generalize K (p / 16) = k at *
  generalize A (p / 16) = a at *
  generalize B (p / 16) = b at *
  generalize p % 16 = n at *
  generalize p / 16 = s at *
  have ha : ∀ m, m < 16 → 16 * a + m < 128 := fun m hm => by omega
  rcases zs_k10 g1 with rfl | rfl | rfl | rfl | rfl | rfl | rfl | rfl | rfl | rfl
  · refine br_f (by decide) (br_f (by decide) (br_t (by decide) (pk_eq n 0 (fun c => ?_) (fun c => ?_))))
    · have R : post (nI (if n = 0 then b else 0)) _ := Q f6
      rw [if_pos c] at R; exact R
    · have R : post (nI (if n = 0 then b else 0)) _ := Q f6
      rw [if_neg c] at R; exact R
  · refine br_f (by decide) (br_f (by decide) (br_f (by decide) (br_t (by decide) (pk_eq n 1 (fun c => ?_) (fun c => ?_)))))
    · have R : post (nI (if n = 1 then 1 else 0)) _ := Q f6
      rw [if_pos c] at R; exact R
    · have R : post (nI (if n = 1 then 1 else 0)) _ := Q f6
      rw [if_neg c] at R; exact R
  · have g5 : b < 8 := g4 (by decide)
    have e1 : nI (16 * a) + nI n = nI (16 * a + n) := nI_add _ _
    have e2 : nI (16 * b) + nI n = nI (16 * b + n) := nI_add _ _
    refine br_f (by decide) (br_f (by decide) (br_f (by decide) (br_f (by decide) (br_t (by decide) ⟨pk_in (16 * a + n) 128 (by omega) e1, pk_in (16 * b + n) 128 (by omega) e2, by decide, ?_⟩))))
    have h1 := hv (16 * a + n)
    have h2 := hv (16 * b + n)
    rw [zs_at e1 (by omega), zs_at e2 (by omega), nI_add, zs_r97 (by omega)]
    exact Q f6
  · exact br_f (by decide) (br_f (by decide) (br_f (by decide) (br_f (by decide) (br_f (by decide) (br_t (by decide) (zx_prod g2 (g4 (by decide)) hn hv (Q f6)))))))
  · have e1 : nI (16 * a) + nI n = nI (16 * a + n) := nI_add _ _
    refine br_f (by decide) (br_f (by decide) (br_f (by decide) (br_f (by decide) (br_f (by decide) (br_f (by decide) (br_t (by decide) ⟨pk_in (16 * a + n) 128 (by omega) e1, by decide, ?_⟩))))))
    have h1 := zs_mul96 g3 (hv (16 * a + n))
    rw [zs_at e1 (by omega), pk_mul, zs_r97 (by omega)]
    exact Q f6
  · refine br_f (by decide) (br_f (by decide) (br_f (by decide) (br_f (by decide) (br_f (by decide) (br_f (by decide) (br_f (by decide) (br_t (by decide) (pk_le 16 (n + 1) (fun c => ?_) (fun c => ?_) rfl (nI_1 n)))))))))
    · have R : post (nI (if n + 1 < 16 then (n + 1) * v (16 * a + (n + 1)) % 97 else 0)) _ := Q f6
      rw [if_neg (by omega)] at R; exact R
    · have R : post (nI (if n + 1 < 16 then (n + 1) * v (16 * a + (n + 1)) % 97 else 0)) _ := Q f6
      rw [if_pos c] at R
      have e1 : nI (16 * a) + nI n + 1 = nI (16 * a + (n + 1)) := by rw [nI_add, nI_1]; rfl
      refine ⟨pk_in (16 * a + (n + 1)) 128 (by omega) e1, by decide, ?_⟩
      have h1 := zs_mul96 (show n + 1 < 97 by omega) (hv (16 * a + (n + 1)))
      rw [zs_at e1 (by omega), nI_1, pk_mul, zs_r97 (by omega)]
      exact R
  · refine br_f (by decide) (br_f (by decide) (br_f (by decide) (br_f (by decide) (br_f (by decide) (br_f (by decide) (br_f (by decide) (br_f (by decide) (br_t (by decide) (pk_eq n 0 (fun c => ?_) (fun c => ?_))))))))))
    · have R : post (nI (if n = 0 then b else v (16 * a + (n - 1)) * zs_inv n % 97)) _ := Q f6
      rw [if_pos c] at R; exact R
    · have R : post (nI (if n = 0 then b else v (16 * a + (n - 1)) * zs_inv n % 97)) _ := Q f6
      rw [if_neg c] at R
      have e1 : nI (16 * a) + nI n - 1 = nI (16 * a + (n - 1)) := zs_i3 (i := 1) (by omega)
      refine ⟨pk_in (16 * a + (n - 1)) 128 (by omega) e1, zx_inv (by omega) ⟨by decide, ?_⟩⟩
      have h1 := zs_mul96 (hv (16 * a + (n - 1))) (zs_inv_lt n)
      rw [zs_at e1 (by omega), pk_mul, zs_r97 (by omega)]
      exact R
  · refine br_f (by decide) (br_f (by decide) (br_f (by decide) (br_f (by decide) (br_f (by decide) (br_f (by decide) (br_f (by decide) (br_f (by decide) (br_f (by decide) (br_t (by decide) ?_)))))))))
    rw [zs_16]
    exact zx_rec g2 hs hn hv (Q f6)
  · refine br_f (by decide) (br_f (by decide) (br_f (by decide) (br_f (by decide) (br_f (by decide) (br_f (by decide) (br_f (by decide) (br_f (by decide) (br_f (by decide) (br_f (by decide) (br_t (by decide) (pk_eq n 0 (fun c => ?_) (fun c => ?_))))))))))))
    · have R : post (nI (if n = 0 then b else v (16 * a + (n - 1)))) _ := Q f6
      rw [if_pos c] at R; exact R
    · have R : post (nI (if n = 0 then b else v (16 * a + (n - 1)))) _ := Q f6
      rw [if_neg c] at R
      have e1 : nI (16 * a) + nI n - 1 = nI (16 * a + (n - 1)) := zs_i3 (i := 1) (by omega)
      refine ⟨pk_in (16 * a + (n - 1)) 128 (by omega) e1, ?_⟩
      rw [zs_at e1 (by omega)]
      exact R
  · exact br_f (by decide) (br_f (by decide) (br_f (by decide) (br_f (by decide) (br_f (by decide) (br_f (by decide) (br_f (by decide) (br_f (by decide) (br_f (by decide) (br_f (by decide) (br_f (by decide) (br_t (by decide) (zx_comp g2 (g4 (by decide)) hn hv Q))))))))))))
end
end
section
section
variable {K A B : Nat → Nat} {h : Nat → Bool} {v : Nat → Nat} {f1 f2 f3 f4 f5 f6 f7 f8 : Nat → Int32}
/-! direct -/
theorem zy_a1 {post : Int32 → Prop} {s t : Nat} (hs : s < 8) (ha : A s < 8) (ht : t < 8) (P : post (zs_b (decide (t = A s)))) : vp_in (nI s) 8 ∧ ((nI t = (zs_N A (nI s).toNatClampNeg) → post 1) ∧ (¬ nI t = (zs_N A (nI s).toNatClampNeg) → post 0)) := by
  refine ⟨vp_in_nI hs (by decide), pk_eq t (A s) (fun e => ?_) (fun e => ?_) rfl (zs_at rfl (by omega))⟩
  · rw [decide_eq_true e] at P; exact P
  · rw [decide_eq_false e] at P; exact P
theorem zy_ab {post : Int32 → Prop} {s t : Nat} (hs : s < 8) (ha : A s < 8) (hb : B s < 97) (ht : t < 8) (P : post (zs_b (decide (t = A s) || decide (t = B s)))) : vp_in (nI s) 8 ∧ ((nI t = (zs_N A (nI s).toNatClampNeg) → post 1) ∧ (¬ nI t = (zs_N A (nI s).toNatClampNeg) → (vp_in (nI s) 8 ∧ ((nI t = (zs_N B (nI s).toNatClampNeg) → post 1) ∧ (¬ nI t = (zs_N B (nI s).toNatClampNeg) → post 0))))) := by
  refine ⟨vp_in_nI hs (by decide), pk_eq t (A s) (fun e => ?_) (fun e => ⟨vp_in_nI hs (by decide), pk_eq t (B s) (fun e2 => ?_) (fun e2 => ?_) rfl (zs_at rfl (by omega))⟩) rfl (zs_at rfl (by omega))⟩
  · rw [decide_eq_true e] at P; exact P
  · rw [decide_eq_false e, decide_eq_true e2] at P; exact P
  · rw [decide_eq_false e, decide_eq_false e2] at P; exact P
theorem zy_d59 {post : Int32 → Prop} {s n t m : Nat} (hs : s < 8) (ha : A s < 8) (hb : B s < 97) (hn : n < 16) (ht : t < 8) (hm : m < 16) (P : post (zs_b (decide (m ≤ n) && (decide (t = A s) || decide (t = B s))))) : wY_direct_59 post (nI s) (nI n) (nI t) (nI m) f1 (zs_N A) (zs_N B) f4 f5 f6 f7 f8 := by
  refine pk_lt n m (fun e => ?_) (fun e => ?_)
  · rw [decide_eq_false (show ¬ m ≤ n by omega)] at P; exact P
  · rw [decide_eq_true e] at P; exact zy_ab hs ha hb ht P
theorem zy_d169 {post : Int32 → Prop} {s n t m : Nat} (hs : s < 8) (ha : A s < 8) (hn : n < 16) (ht : t < 8) (hm : m < 16) (P : post (zs_b (decide (m + 1 = n) && decide (t = A s)))) : wY_direct_169 post (nI s) (nI n) (nI t) (nI m) f1 (zs_N A) f3 f4 f5 f6 f7 f8 := by
  refine pk_le n 0 (fun e => ?_) (fun e => ?_)
  · rw [decide_eq_false (show ¬ m + 1 = n by omega)] at P; exact P
  · obtain ⟨n', rfl⟩ : ∃ n', n = n' + 1 := ⟨n - 1, by omega⟩
    refine pk_eq m n' (fun e => ?_) (fun e => ?_) rfl (nI_pred n')
    · rw [decide_eq_true (show m + 1 = n' + 1 by omega)] at P
      exact zy_a1 hs ha ht P
    · rw [decide_eq_false (show ¬ m + 1 = n' + 1 by omega)] at P
      exact P
theorem zy_d220 {post : Int32 → Prop} {s n t m : Nat} (hs : s < 8) (hn : n < 16) (ht : t < 8) (hm : m < 16) (P : post (zs_b (decide (m < n) && decide (t = s)))) : wY_direct_220 post (nI s) (nI n) (nI t) (nI m) f1 f2 f3 f4 f5 f6 f7 f8 := by
  refine pk_le n m (fun e => ?_) (fun e => pk_eq t s (fun e2 => ?_) (fun e2 => ?_))
  · rw [decide_eq_false (show ¬ m < n by omega)] at P; exact P
  · rw [decide_eq_true e, decide_eq_true e2] at P; exact P
  · rw [decide_eq_true e, decide_eq_false e2] at P; exact P
theorem zy_dir {post : Int32 → Prop} (G : zs_Gd K A B) {s n t m : Nat} (hs : s < 8) (hn : n < 16) (ht : t < 8) (hm : m < 16) (P : post (zs_b (zs_nd (K s) (A s) (B s) s n t m))) : wpY_direct post (zs_N K, zs_N A, zs_N B, f4, f5, f6, f7, f8) (nI s) (nI n) (nI t) (nI m) := by
  obtain ⟨g1, g2, g3, g4⟩ := G s hs
  refine ⟨vp_in_nI hs (by decide), nm_r (zs_at rfl (by omega)) ?_⟩
  generalize hk : K s = k at *
  rcases zs_k10 g1 with rfl | rfl | rfl | rfl | rfl | rfl | rfl | rfl | rfl | rfl
  · exact br_f (by decide) (br_f (by decide) (br_f (by decide) (br_f (by decide) (br_f (by decide) (br_f (by decide) (br_f (by decide) (br_f (by decide) P)))))))
  · exact br_f (by decide) (br_f (by decide) (br_f (by decide) (br_f (by decide) (br_f (by decide) (br_f (by decide) (br_f (by decide) (br_f (by decide) P)))))))
  · have Q : post (zs_b (decide (m = n) && (decide (t = A s) || decide (t = B s)))) := P
    refine br_t (by decide) (pk_eq m n (fun e => ?_) (fun e => ?_))
    · rw [decide_eq_true e] at Q; exact zy_ab hs g2 g3 ht Q
    · rw [decide_eq_false e] at Q; exact Q
  · exact br_f (by decide) (br_t (by decide) (zy_d59 hs g2 g3 hn ht hm P))
  · have Q : post (zs_b (decide (m = n) && decide (t = A s))) := P
    refine br_f (by decide) (br_f (by decide) (br_f (by decide) (br_t (by decide) (pk_eq m n (fun e => ?_) (fun e => ?_)))))
    · rw [decide_eq_true e] at Q; exact zy_a1 hs g2 ht Q
    · rw [decide_eq_false e] at Q; exact Q
  · have Q : post (zs_b (decide (m = n + 1) && decide (t = A s))) := P
    refine br_f (by decide) (br_f (by decide) (br_f (by decide) (br_f (by decide) (br_t (by decide) (pk_le 15 n (fun e => ?_) (fun e => pk_eq m (n + 1) (fun e => ?_) (fun e => ?_) rfl (nI_1 n)))))))
    · rw [decide_eq_false (show ¬ m = n + 1 by omega)] at Q; exact Q
    · rw [decide_eq_true e] at Q; exact zy_a1 hs g2 ht Q
    · rw [decide_eq_false e] at Q; exact Q
  · exact br_f (by decide) (br_f (by decide) (br_f (by decide) (br_f (by decide) (br_f (by decide) (br_t (by decide) (zy_d169 hs g2 hn ht hm P))))))
  · have Q : post (zs_b ((decide (m ≤ n) && decide (t = A s)) || (decide (m < n) && decide (t = s)))) := P
    refine br_f (by decide) (br_f (by decide) (br_f (by decide) (br_f (by decide) (br_f (by decide) (br_f (by decide) (br_f (by decide) (br_t (by decide) (pk_lt n m (fun e => ?_) (fun e => ?_)))))))))
    · rw [decide_eq_false (show ¬ m ≤ n by omega)] at Q
      exact zy_d220 hs hn ht hm Q
    · rw [decide_eq_true e] at Q
      refine ⟨vp_in_nI hs (by decide), pk_eq t (A s) (fun e2 => ?_) (fun e2 => ?_) rfl (zs_at rfl (by omega))⟩
      · rw [decide_eq_true e2] at Q; exact Q
      · rw [decide_eq_false e2] at Q; exact zy_d220 hs hn ht hm Q
  · exact br_f (by decide) (br_f (by decide) (br_f (by decide) (br_f (by decide) (br_f (by decide) (br_f (by decide) (br_t (by decide) (zy_d169 hs g2 hn ht hm P)))))))
  · exact br_f (by decide) (br_f (by decide) (br_t (by decide) (zy_d59 hs g2 g3 hn ht hm P)))
/-! ready -/
theorem zs_and7 {n : Nat} (h : n < 97) : nI n &&& 7 = nI (n % 8) := by
  have a : ∀ n, n < 97 → nI n &&& 7 = nI (n % 8) := by decide +kernel
  exact a n h
theorem zs_nd_t {k a b s n t m : Nat} (e : zs_nd k a b s n t m = true) : t = a ∨ t = b ∨ t = s := by
  unfold zs_nd at e
  split at e <;> simp at e <;> omega
theorem zs_needQ (s n t m : Nat) (hn : n < 16) (hm : m < 16) : zs_need K A B (16 * s + n) (16 * t + m) = zs_nd (K s) (A s) (B s) s n t m := by
  unfold zs_need
  rw [show (16 * s + n) / 16 = s from by omega, show (16 * s + n) % 16 = n from by omega, show (16 * t + m) / 16 = t from by omega, show (16 * t + m) % 16 = m from by omega]
theorem zs_ix {a i : Nat} {x : Int32} (e : x = nI a) : 16 * x + nI i = nI (16 * a + i) := by rw [e, zs_16, nI_add]
theorem zy_chk {C D E : Prop} (G : zs_Gd K A B) {s n t m : Nat} {x y : Int32} (hs : s < 8) (hn : n < 16) (ht : t < 8) (hm : m < 16) (hx : x = nI t) (hy : y = 16 * x + nI m) (c1 : zs_need K A B (16 * s + n) (16 * t + m) = false → C) (c2 : zs_need K A B (16 * s + n) (16 * t + m) = true → h (16 * t + m) = false → D) (c3 : h (16 * t + m) = true → E) : wpY_direct (fun r => ((r = 0 → C) ∧ (¬ r = 0 → (vp_in y 128 ∧ ((((zs_B h y.toNatClampNeg) = 0 → D) ∧ (¬ (zs_B h y.toNatClampNeg) = 0 → E))))))) (zs_N K, zs_N A, zs_N B, zs_B h, f5, f6, f7, f8) (nI s) (nI n) x (nI m) := by
  subst hx
  have e : y = nI (16 * t + m) := hy.trans (zs_ix rfl)
  refine zy_dir G hs hn ht hm ?_
  rw [← zs_needQ (K := K) (A := A) (B := B) s n t m hn hm]
  cases q : zs_need K A B (16 * s + n) (16 * t + m) with
  | false => exact br_t rfl (c1 q)
  | true =>
    refine br_f (by decide) ⟨pk_in _ 128 (by omega) e, ?_⟩
    cases hh : h (16 * t + m) with
    | false => exact br_t (zs_hF e (by omega) hh) (c2 q hh)
    | true => exact br_f (zs_hT e (by omega) hh) (c3 hh)
theorem zs_nAll {p q : Nat} (hq : q < 128) (a : zs_need K A B p q = true) (b : h q = false) : ¬ zs_All K A B h p := fun c => by
  have := c q hq a
  rw [b] at this
  exact nomatch this
theorem zy_readyL {post : Int32 → Prop} (G : zs_Gd K A B) {s n c : Nat} (hs : s < 8) (hn : n < 16) (hc : c = B s % 8) (h1 : zs_All K A B h (16 * s + n) → post 1) (h0 : ¬ zs_All K A B h (16 * s + n) → post 0) : ∀ d i, i + d = 16 → (∀ m t, m < i → t = A s ∨ t = c ∨ t = s → zs_need K A B (16 * s + n) (16 * t + m) = true → h (16 * t + m) = true) → wY_ready_13 post (nI s) (nI n) (nI c) (zs_N K) (zs_N A) (zs_N B) (zs_B h) f5 f6 f7 f8 (d + 1) (nI i) := by
  obtain ⟨g1, g2, g3, g4⟩ := G s hs
  intro d
  induction d with
  | zero =>
    intro i hi a
    refine pk_le 16 i (fun _ => h1 fun q hq nq => ?_) (fun e => absurd e (by omega))
    have nq2 := nq
    unfold zs_need at nq2
    rw [show (16 * s + n) / 16 = s from by omega] at nq2
    have eq : 16 * (q / 16) + q % 16 = q := by omega
    have r := a (q % 16) (q / 16) (by omega) (by rcases zs_nd_t nq2 with z | z | z <;> omega)
    rw [eq] at r
    exact r nq
  | succ d ih =>
    intro i hi a
    have hl : i < 16 := by omega
    have ea : zs_N A (nI s).toNatClampNeg = nI (A s) := zs_at rfl (by omega)
    have st : ∀ t, t < 8 → zs_need K A B (16 * s + n) (16 * t + i) = true → h (16 * t + i) = false → post 0 := fun t ht x y => h0 (zs_nAll (by omega) x y)
    have ok : (zs_need K A B (16 * s + n) (16 * A s + i) = true → h (16 * A s + i) = true) → (zs_need K A B (16 * s + n) (16 * c + i) = true → h (16 * c + i) = true) → (zs_need K A B (16 * s + n) (16 * s + i) = true → h (16 * s + i) = true) → wY_ready_13 post (nI s) (nI n) (nI c) (zs_N K) (zs_N A) (zs_N B) (zs_B h) f5 f6 f7 f8 (d + 1) (nI (i + 1)) := fun x y z => by
      refine ih (i + 1) (by omega) fun m t hm ht => ?_
      by_cases e : m = i
      · subst e
        rcases ht with rfl | rfl | rfl
        · exact x
        · exact y
        · exact z
      · exact a m t (by omega) ht
    have nF : ∀ {x : Bool} {R : Prop}, x = false → (x = true → R) := fun e z => by rw [e] at z; exact nomatch z
    have s3 : (zs_need K A B (16 * s + n) (16 * A s + i) = true → h (16 * A s + i) = true) → (zs_need K A B (16 * s + n) (16 * c + i) = true → h (16 * c + i) = true) → wY_ready_88 post (wY_ready_13 post (nI s) (nI n) (nI c) (zs_N K) (zs_N A) (zs_N B) (zs_B h) f5 f6 f7 f8 (d + 1)) (nI s) (nI n) (nI c) (nI i) (zs_N K) (zs_N A) (zs_N B) (zs_B h) f5 f6 f7 f8 := fun x y =>
      zy_chk G hs hn hs hl rfl rfl (fun q => nm_r (nI_1 i) (ok x y (nF q))) (st s hs) (fun q => nm_r (nI_1 i) (ok x y (fun _ => q)))
    have s2 : (zs_need K A B (16 * s + n) (16 * A s + i) = true → h (16 * A s + i) = true) → wY_ready_59 post (wY_ready_13 post (nI s) (nI n) (nI c) (zs_N K) (zs_N A) (zs_N B) (zs_B h) f5 f6 f7 f8 (d + 1)) (nI s) (nI n) (nI c) (nI i) (zs_N K) (zs_N A) (zs_N B) (zs_B h) f5 f6 f7 f8 := fun x =>
      zy_chk G hs hn (by omega : c < 8) hl rfl rfl (fun q => s3 x (nF q)) (st c (by omega)) (fun q => s3 x (fun _ => q))
    refine pk_le 16 i (fun e => absurd e (by omega)) (fun _ => ⟨vp_in_nI hs (by decide), ?_⟩)
    rw [ea]
    refine zy_dir G hs hn g2 hl ?_
    rw [← zs_needQ (K := K) (A := A) (B := B) s n (A s) i hn hl]
    cases q : zs_need K A B (16 * s + n) (16 * A s + i) with
    | false => exact br_t rfl (s2 (nF q))
    | true =>
      refine br_f (by decide) ⟨vp_in_nI hs (by decide), pk_in _ 128 (by omega) (zs_ix rfl), ?_⟩
      cases hh : h (16 * A s + i) with
      | false => exact br_t (zs_hF (zs_ix rfl) (by omega) hh) (st (A s) g2 q hh)
      | true => exact br_f (zs_hT (zs_ix rfl) (by omega) hh) (s2 (fun _ => hh))
theorem zy_ready {post : Int32 → Prop} (G : zs_Gd K A B) {s n : Nat} (hs : s < 8) (hn : n < 16) (h1 : zs_All K A B h (16 * s + n) → post 1) (h0 : ¬ zs_All K A B h (16 * s + n) → post 0) : wpY_ready post (zs_N K, zs_N A, zs_N B, zs_B h, f5, f6, f7, f8) (nI s) (nI n) := by
  obtain ⟨g1, g2, g3, g4⟩ := G s hs
  have e : zs_N B (nI s).toNatClampNeg &&& 7 = nI (B s % 8) := by
    rw [zs_at rfl (by omega)]
    exact zs_and7 (by omega)
  exact ⟨vp_in_nI hs (by decide), nm_r e ⟨17, zy_readyL G hs hn rfl h1 h0 16 0 rfl (fun m t hm => absurd hm (by omega))⟩⟩
end
end
section
section
variable {K A B : Nat → Nat} {h : Nat → Bool} {v : Nat → Nat} {f1 f2 f3 f4 f5 f6 f7 f8 : Nat → Int32}
/-! quotient -/
def zs_quoF (x y : Nat) : Nat → Nat → Nat
  | 0 => fun _ => 0
  | k + 1 => fun z => if y * z % 97 = x then z else zs_quoF x y k (z + 1)
def zs_quo (x y : Nat) : Nat := zs_quoF x y 97 0
theorem zs_quo_1 : ∀ y, y < 97 → zs_quo 1 y = zs_inv y := by decide +kernel
theorem zs_quo_n : ∀ y, y < 16 → y ≠ 0 → ∀ x, x < 97 → zs_quo x y = x * zs_inv y % 97 := by decide +kernel
theorem zy_quoL {post : Int32 → Prop} {x y : Nat} (hx : x < 97) (hy : y < 97) : ∀ k z, z + k = 97 → post (nI (zs_quoF x y k z)) → wY_quotient_2 post (nI x) (nI y) f1 f2 f3 f4 f5 f6 f7 f8 (k + 1) (nI z) := by
  intro k
  induction k with
  | zero =>
    intro z hz P
    exact pk_le 97 z (fun _ => P) (fun e => absurd e (by omega))
  | succ k ih =>
    intro z hz P
    have P' : post (nI (if y * z % 97 = x then z else zs_quoF x y k (z + 1))) := P
    have hb : y * z ≤ 96 * 97 := Nat.mul_le_mul (by omega) (by omega)
    have e : nI y * nI z - nI y * nI z / 97 * 97 = nI (y * z % 97) := by rw [pk_mul, zs_r97 (by omega)]
    refine pk_le 97 z (fun e => absurd e (by omega)) (fun _ => ⟨by decide, pk_eq (y * z % 97) x (fun c => ?_) (fun c => ?_) e⟩)
    · rw [if_pos c] at P'; exact P'
    · rw [if_neg c] at P'
      exact nm_r (nI_1 z) (ih (z + 1) (by omega) P')
theorem zy_quo {post : Int32 → Prop} {x y : Nat} (hx : x < 97) (hy : y < 97) (P : post (nI (zs_quo x y))) : wpY_quotient post (f1, f2, f3, f4, f5, f6, f7, f8) (nI x) (nI y) := ⟨98, zy_quoL hx hy 97 0 rfl P⟩
theorem zy_red {post : Int32 → Prop} (x : Int32) (P : post (nI (zs_md x))) : wpY_reduced post (f1, f2, f3, f4, f5, f6, f7, f8) x := by
  refine ⟨by decide, nm_e ?_⟩
  have e := zs_red (x := x) rfl
  refine br_c (fun c => ?_) (fun c => ?_)
  · rw [e.2 (Int32.not_lt.mpr c)]; exact P
  · rw [e.1 (Int32.not_le.mp c)]; exact P
/-! convolved -/
theorem zy_convL {post : Int32 → Prop} {s n : Nat} (hs : s < 8) (ha : A s < 8) (hb : B s < 8) (hn : n < 16) (hv : ∀ q, v q < 97) (P : post (nI (zs_sum (fun i => v (16 * A s + i) * v (16 * B s + (n - i))) (n + 1) % 97))) : ∀ d i, i + d = n + 1 → wY_convolved_5 post (nI s) (nI n) f1 (zs_N A) (zs_N B) f4 (zs_N v) f6 f7 f8 (d + 1) (nI (zs_sum (fun i => v (16 * A s + i) * v (16 * B s + (n - i))) i)) (nI i) := by
  intro d
  induction d with
  | zero =>
    intro i hi
    have e : i = n + 1 := by omega
    subst e
    refine pk_lt n (n + 1) (fun _ => ⟨by decide, ?_⟩) (fun e => absurd e (by omega))
    rw [zs_r97 (zs_sumB (fun i => zs_vv hv _ _) (by omega))]
    exact P
  | succ d ih =>
    intro i hi
    have ea : zs_N A (nI s).toNatClampNeg = nI (A s) := zs_at rfl (by omega)
    have eb : zs_N B (nI s).toNatClampNeg = nI (B s) := zs_at rfl (by omega)
    have e1 : 16 * zs_N A (nI s).toNatClampNeg + nI i = nI (16 * A s + i) := zs_ix ea
    have e2 : 16 * zs_N B (nI s).toNatClampNeg + nI n - nI i = nI (16 * B s + (n - i)) := by rw [eb, zs_16]; exact zs_i3 (by omega)
    have ei := vp_in_nI hs (by decide : 8 < 2 ^ 31)
    refine pk_lt n i (fun e => absurd e (by omega)) (fun _ => ⟨ei, pk_in (16 * A s + i) 128 (by omega) e1, ei, pk_in (16 * B s + (n - i)) 128 (by omega) e2, nm_r ?_ (nm_r (nI_1 i) (ih (i + 1) (by omega)))⟩)
    rw [zs_at e1 (by omega), zs_at e2 (by omega), pk_mul, nI_add]
    rfl
theorem zy_conv {post : Int32 → Prop} {s n : Nat} (hs : s < 8) (ha : A s < 8) (hb : B s < 8) (hn : n < 16) (hv : ∀ q, v q < 97) (P : post (nI (zs_sum (fun i => v (16 * A s + i) * v (16 * B s + (n - i))) (n + 1) % 97))) : wpY_convolved post (f1, zs_N A, zs_N B, f4, zs_N v, f6, f7, f8) (nI s) (nI n) :=
  ⟨n + 2, zy_convL hs ha hb hn hv P (n + 1) 0 (by omega)⟩
/-! reciprocal -/
theorem zs_recE {T r : Nat} (hT : T < 97) : (97 - T) * r % 97 = (97 - r * T % 97) % 97 := by
  have e : (97 - T) * r + r * T = 97 * r := by
    rw [Nat.mul_comm r T, ← Nat.add_mul]
    exact congrArg (· * r) (by omega)
  generalize (97 - T) * r = X at *
  generalize r * T = Y at *
  omega
theorem zy_recL {post : Int32 → Prop} {s n : Nat} (hs : s < 8) (ha : A s < 8) (hn : n < 16) (hv : ∀ q, v q < 97) (P : post (nI ((97 - v (16 * s) * (zs_sum (fun i => v (16 * A s + (i + 1)) * v (16 * s + (n - (i + 1)))) n % 97) % 97) % 97))) : ∀ d i, i + d = n → wY_reciprocal_32 post (nI s) (nI n) f1 (zs_N A) f3 f4 (zs_N v) f6 f7 f8 (d + 1) (nI (zs_sum (fun i => v (16 * A s + (i + 1)) * v (16 * s + (n - (i + 1)))) i)) (nI (i + 1)) := by
  intro d
  induction d with
  | zero =>
    intro i hi
    have e : i = n := by omega
    subst e
    have hS : zs_sum (fun j => v (16 * A s + (j + 1)) * v (16 * s + (i - (j + 1)))) i < 2 ^ 31 := zs_sumB (fun i => zs_vv hv _ _) (by omega)
    have hT := Nat.mod_lt (zs_sum (fun j => v (16 * A s + (j + 1)) * v (16 * s + (i - (j + 1)))) i) (by decide : 97 > 0)
    refine pk_lt i (i + 1) (fun _ => ⟨by decide, pk_in (16 * s) 128 (by omega) (zs_16 s), by decide, ?_⟩) (fun e => absurd e (by omega))
    rw [zs_at (zs_16 s) (by omega), zs_r97 hS]
    rw [← zs_recE hT] at P
    generalize zs_sum (fun j => v (16 * A s + (j + 1)) * v (16 * s + (i - (j + 1)))) i % 97 = T at *
    have e97 : (97 : Int32) - nI T = nI (97 - T) := pk_sub (a := 97) (by omega)
    have hb : (97 - T) * v (16 * s) ≤ 97 * 97 := Nat.mul_le_mul (by omega) (Nat.le_of_lt (hv _))
    rw [e97, pk_mul, zs_r97 (by omega)]
    exact P
  | succ d ih =>
    intro i hi
    have ea : zs_N A (nI s).toNatClampNeg = nI (A s) := zs_at rfl (by omega)
    have e1 : 16 * zs_N A (nI s).toNatClampNeg + nI (i + 1) = nI (16 * A s + (i + 1)) := zs_ix ea
    have e2 : 16 * nI s + nI n - nI (i + 1) = nI (16 * s + (n - (i + 1))) := by rw [zs_16]; exact zs_i3 (by omega)
    have ei := vp_in_nI hs (by decide : 8 < 2 ^ 31)
    refine pk_lt n (i + 1) (fun e => absurd e (by omega)) (fun _ => ⟨ei, pk_in (16 * A s + (i + 1)) 128 (by omega) e1, pk_in (16 * s + (n - (i + 1))) 128 (by omega) e2, nm_r ?_ (nm_r (nI_1 (i + 1)) (ih (i + 1) (by omega)))⟩)
    rw [zs_at e1 (by omega), zs_at e2 (by omega), pk_mul, nI_add]
    rfl
theorem zy_rec {post : Int32 → Prop} {s n : Nat} (hs : s < 8) (ha : A s < 8) (hn : n < 16) (hv : ∀ q, v q < 97) (P : post (nI (if n = 0 then zs_inv (v (16 * A s)) else (97 - v (16 * s) * (zs_sum (fun i => v (16 * A s + (i + 1)) * v (16 * s + (n - (i + 1)))) n % 97) % 97) % 97))) : wpY_reciprocal post (f1, zs_N A, f3, f4, zs_N v, f6, f7, f8) (nI s) (nI n) := by
  have e1 : 16 * zs_N A (nI s).toNatClampNeg = nI (16 * A s) := by rw [zs_at rfl (by omega)]; exact zs_16 _
  refine ⟨vp_in_nI hs (by decide), pk_in (16 * A s) 128 (by omega) e1, nm_r (zs_at e1 (by omega)) (pk_eq n 0 (fun c => ?_) (fun c => ?_))⟩
  · rw [if_pos c, ← zs_quo_1 _ (hv _)] at P
    exact zy_quo (x := 1) (by decide) (hv _) P
  · rw [if_neg c] at P
    exact ⟨n + 1, zy_recL hs ha hn hv P n 0 (by omega)⟩
/-! raise -/
theorem zy_r77 {post : SY → Prop} {n : Nat} {g : Nat → Nat} (hn : n < 16) (h8 : ∀ i, i ≤ n → f8 i = nI (g i)) (P : ∀ f : Nat → Int32, (∀ i, i ≤ n → f i = nI (g i)) → post (f1, f2, f3, f4, f5, f6, f, f8)) : ∀ d i, i + d = n + 1 → ∀ f7 : Nat → Int32, (∀ k, k < i → f7 k = nI (g k)) → wY_raise_77 post (nI n) (d + 1) (nI i) f1 f2 f3 f4 f5 f6 f7 f8 := by
  intro d
  induction d with
  | zero =>
    intro i hi f7 ho
    exact pk_lt n i (fun _ => P f7 (fun k hk => ho k (by omega))) (fun e => absurd e (by omega))
  | succ d ih =>
    intro i hi f7 ho
    refine pk_lt n i (fun e => absurd e (by omega)) (fun _ => pk_le 16 i (fun e => absurd e (by omega)) (fun _ => ⟨vp_in_nI (by omega) (by decide), vp_in_nI (by omega) (by decide), nm_e (nm_r (nI_1 i) (ih (i + 1) (by omega) _ fun k hk => ?_))⟩))
    rw [nI_clamp (by omega)]
    by_cases z : k = i
    · subst z; rw [pk_us]; exact h8 k (by omega)
    · rw [pk_un z]; exact ho k (by omega)
theorem zy_r19 {post : SY → Prop} {J2 : Int32 → (Nat → Int32) → (Nat → Int32) → (Nat → Int32) → (Nat → Int32) → (Nat → Int32) → (Nat → Int32) → (Nat → Int32) → (Nat → Int32) → Prop} {x2 : Int32} {b d : Nat} {g : Nat → Nat} (hb : b < 8) (hd : d < 16) (hv : ∀ q, v q < 97) (hg : ∀ i, g i < 97) (ho : ∀ i, i ≤ d → f7 i = nI (g i)) (P : J2 (nI (d + 1)) f1 f2 f3 f4 (zs_N v) f6 f7 (upd f8 d (nI (zs_sum (fun i => g i * v (16 * b + (d - i))) (d + 1) % 97)))) : ∀ m i, i + m = d + 1 → wY_raise_19 post J2 (nI b) x2 (nI d) f1 f2 f3 f4 (zs_N v) f6 f7 f8 (m + 1) (nI (zs_sum (fun i => g i * v (16 * b + (d - i))) i)) (nI i) := by
  intro m
  induction m with
  | zero =>
    intro i hi
    have e : i = d + 1 := by omega
    subst e
    refine pk_lt d (d + 1) (fun _ => ⟨by decide, vp_in_nI hd (by decide), nm_r ?_ (nm_r (nI_1 d) P)⟩) (fun e => absurd e (by omega))
    rw [zs_r97 (zs_sumB (fun i => zs_mul96 (hg _) (hv _)) (by omega)), nI_clamp (by omega)]
  | succ m ih =>
    intro i hi
    have e2 : 16 * nI b + nI d - nI i = nI (16 * b + (d - i)) := by rw [zs_16]; exact zs_i3 (by omega)
    refine pk_lt d i (fun e => absurd e (by omega)) (fun _ => ⟨vp_in_nI (by omega) (by decide), pk_in (16 * b + (d - i)) 128 (by omega) e2, nm_r ?_ (nm_r (nI_1 i) (ih (i + 1) (by omega)))⟩)
    rw [nI_clamp (by omega), ho i (by omega), zs_at e2 (by omega), pk_mul, nI_add]
    rfl
theorem zy_r2 {post : SY → Prop} {b n j : Nat} (hb : b < 8) (hn : n < 16) (hv : ∀ q, v q < 97) (ho : ∀ i, i ≤ n → f7 i = nI (zs_pw (fun d => v (16 * b + d)) j i)) (P : ∀ f g : Nat → Int32, (∀ i, i ≤ n → f i = nI (zs_pw (fun d => v (16 * b + d)) (j + 1) i)) → post (f1, f2, f3, f4, zs_N v, f6, f, g)) : ∀ d i, i + d = n + 1 → ∀ f8 : Nat → Int32, (∀ k, k < i → f8 k = nI (zs_pw (fun d => v (16 * b + d)) (j + 1) k)) → wY_raise_2 post (nI b) (nI n) (d + 1) (nI i) f1 f2 f3 f4 (zs_N v) f6 f7 f8 := by
  intro d
  induction d with
  | zero =>
    intro i hi f8 h8
    exact pk_lt n i (fun _ => ⟨n + 2, zy_r77 hn (fun k hk => h8 k (by omega)) (fun f hf => P f f8 hf) (n + 1) 0 (by omega) f7 (fun k hk => absurd hk (by omega))⟩) (fun e => absurd e (by omega))
  | succ d ih =>
    intro i hi f8 h8
    refine pk_lt n i (fun e => absurd e (by omega)) (fun _ => pk_le 16 i (fun e => absurd e (by omega)) (fun _ => ⟨i + 2, zy_r19 (g := zs_pw (fun d => v (16 * b + d)) j) hb (by omega) hv (fun i => zs_pw_lt _ _ _) (fun k hk => ho k (by omega)) (ih (i + 1) (by omega) _ fun k hk => ?_) (i + 1) 0 (by omega)⟩))
    by_cases z : k = i
    · subst z; rw [pk_us]; rfl
    · rw [pk_un z]; exact h8 k (by omega)
theorem zy_raise {post : SY → Prop} {b n j : Nat} (hb : b < 8) (hn : n < 16) (hv : ∀ q, v q < 97) (ho : ∀ i, i ≤ n → f7 i = nI (zs_pw (fun d => v (16 * b + d)) j i)) (P : ∀ f g : Nat → Int32, (∀ i, i ≤ n → f i = nI (zs_pw (fun d => v (16 * b + d)) (j + 1) i)) → post (f1, f2, f3, f4, zs_N v, f6, f, g)) : wpY_raise post (f1, f2, f3, f4, zs_N v, f6, f7, f8) (nI b) (nI n) :=
  ⟨n + 2, zy_r2 hb hn hv ho P (n + 1) 0 (by omega) f8 (fun k hk => absurd hk (by omega))⟩
/-! composed -/
theorem zy_c34 {post : Int32 → SY → Prop} {s n : Nat} (hs : s < 8) (ha : A s < 8) (hb : B s < 8) (hn : n < 16) (hv : ∀ q, v q < 97) (P : ∀ f g : Nat → Int32, post (nI (zs_sum (fun j => v (16 * A s + j) * zs_pw (fun d => v (16 * B s + d)) j n) (n + 1) % 97)) (f1, zs_N A, zs_N B, f4, zs_N v, f6, f, g)) : ∀ d j, j + d = n + 1 → ∀ f7 f8 : Nat → Int32, (∀ i, i ≤ n → f7 i = nI (zs_pw (fun d => v (16 * B s + d)) j i)) → wY_composed_34 post (nI s) (nI n) (d + 1) (nI (zs_sum (fun j => v (16 * A s + j) * zs_pw (fun d => v (16 * B s + d)) j n) j)) (nI j) f1 (zs_N A) (zs_N B) f4 (zs_N v) f6 f7 f8 := by
  intro d
  induction d with
  | zero =>
    intro j hj f7 f8 ho
    have e : j = n + 1 := by omega
    subst e
    refine pk_lt n (n + 1) (fun _ => ⟨by decide, ?_⟩) (fun e => absurd e (by omega))
    rw [zs_r97 (zs_sumB (fun i => zs_mul96 (hv _) (zs_pw_lt _ _ _)) (by omega))]
    exact P f7 f8
  | succ d ih =>
    intro j hj f7 f8 ho
    have ea : zs_N A (nI s).toNatClampNeg = nI (A s) := zs_at rfl (by omega)
    have eb : zs_N B (nI s).toNatClampNeg = nI (B s) := zs_at rfl (by omega)
    have e1 : 16 * zs_N A (nI s).toNatClampNeg + nI j = nI (16 * A s + j) := zs_ix ea
    have ei := vp_in_nI hs (by decide : 8 < 2 ^ 31)
    refine pk_lt n j (fun e => absurd e (by omega)) (fun _ => ⟨ei, pk_in (16 * A s + j) 128 (by omega) e1, vp_in_nI hn (by decide), nm_r (e' := nI (zs_sum (fun j => v (16 * A s + j) * zs_pw (fun d => v (16 * B s + d)) j n) (j + 1))) ?_ ⟨ei, ?_⟩⟩)
    · rw [zs_at e1 (by omega), nI_clamp (by omega), ho n (Nat.le_refl n), pk_mul, nI_add]
      rfl
    · rw [eb]
      exact zy_raise hb hn hv ho fun f g hf => nm_r (nI_1 j) (ih (j + 1) (by omega) f g hf)
theorem zy_c2 {post : Int32 → SY → Prop} {s n : Nat} (hs : s < 8) (ha : A s < 8) (hb : B s < 8) (hn : n < 16) (hv : ∀ q, v q < 97) (P : ∀ f g : Nat → Int32, post (nI (zs_sum (fun j => v (16 * A s + j) * zs_pw (fun d => v (16 * B s + d)) j n) (n + 1) % 97)) (f1, zs_N A, zs_N B, f4, zs_N v, f6, f, g)) : ∀ d i, i + d = 16 → ∀ f7 : Nat → Int32, (∀ k, k < i → f7 k = nI (zs_pw (fun d => v (16 * B s + d)) 0 k)) → wY_composed_2 post (nI s) (nI n) (d + 1) (nI i) f1 (zs_N A) (zs_N B) f4 (zs_N v) f6 f7 f8 := by
  intro d
  induction d with
  | zero =>
    intro i hi f7 ho
    exact pk_le 16 i (fun _ => ⟨n + 2, zy_c34 hs ha hb hn hv P (n + 1) 0 (by omega) f7 f8 (fun k hk => ho k (by omega))⟩) (fun e => absurd e (by omega))
  | succ d ih =>
    intro i hi f7 ho
    refine pk_le 16 i (fun e => absurd e (by omega)) (fun _ => pk_eq i 0 (fun c => ⟨vp_in_nI (by omega) (by decide), nm_e (nm_r (nI_1 i) (ih (i + 1) (by omega) _ fun k hk => ?_))⟩) (fun c => ⟨vp_in_nI (by omega) (by decide), nm_e (nm_r (nI_1 i) (ih (i + 1) (by omega) _ fun k hk => ?_))⟩))
    · rw [nI_clamp (by omega)]
      by_cases z : k = i
      · subst z; rw [pk_us]; subst c; rfl
      · rw [pk_un z]; exact ho k (by omega)
    · rw [nI_clamp (by omega)]
      by_cases z : k = i
      · subst z; rw [pk_us]
        show (0 : Int32) = nI (if k = 0 then 1 else 0)
        rw [if_neg c]; rfl
      · rw [pk_un z]; exact ho k (by omega)
theorem zy_comp {post : Int32 → SY → Prop} {s n : Nat} (hs : s < 8) (ha : A s < 8) (hb : B s < 8) (hn : n < 16) (hv : ∀ q, v q < 97) (P : ∀ f g : Nat → Int32, post (nI (zs_sum (fun j => v (16 * A s + j) * zs_pw (fun d => v (16 * B s + d)) j n) (n + 1) % 97)) (f1, zs_N A, zs_N B, f4, zs_N v, f6, f, g)) : wpY_composed post (f1, zs_N A, zs_N B, f4, zs_N v, f6, f7, f8) (nI s) (nI n) :=
  ⟨17, zy_c2 hs ha hb hn hv P 16 0 rfl f7 (fun k hk => absurd hk (by omega))⟩
/-! barren -/
theorem zy_bar {post : Int32 → Prop} (G : zs_Gd K A B) {s n : Nat} (hs : s < 8) (hn : n < 16) (hv : ∀ q, v q < 97) (P : post (zs_b (zs_rl (K s) (A s) (B s) n v))) : wpY_barren post (zs_N K, zs_N A, zs_N B, f4, zs_N v, f6, f7, f8) (nI s) (nI n) := by
  obtain ⟨g1, g2, g3, g4⟩ := G s hs
  have ei := vp_in_nI hs (by decide : 8 < 2 ^ 31)
  have ek : zs_N K (nI s).toNatClampNeg = nI (K s) := zs_at rfl (by omega)
  have ea : 16 * zs_N A (nI s).toNatClampNeg = nI (16 * A s) := by rw [zs_at rfl (by omega)]; exact zs_16 _
  have eb : 16 * zs_N B (nI s).toNatClampNeg = nI (16 * B s) := by rw [zs_at rfl (by omega)]; exact zs_16 _
  have h1 := hv (16 * A s)
  have h2 := hv (16 * B s)
  refine ⟨ei, pk_eq (K s) 5 (fun c => ?_) (fun c => ⟨ei, pk_eq (K s) 7 (fun c7 => ?_) (fun c7 => ⟨ei, pk_eq (K s) 9 (fun c9 => ?_) (fun c9 => ?_) ek⟩) ek⟩) ek⟩
  · rw [c] at P
    have Q2 : post (zs_b (decide (n = 15))) := P
    refine pk_eq n 15 (fun e => ?_) (fun e => ?_)
    · rw [decide_eq_true e] at Q2; exact Q2
    · rw [decide_eq_false e] at Q2; exact Q2
  · rw [c7] at P
    have Q2 : post (zs_b (decide (v (16 * A s) = 0))) := P
    refine ⟨ei, pk_in (16 * A s) 128 (by omega) ea, pk_eq (v (16 * A s)) 0 (fun e => ?_) (fun e => ?_) (zs_at ea (by omega))⟩
    · rw [decide_eq_true e] at Q2; exact Q2
    · rw [decide_eq_false e] at Q2; exact Q2
  · have g5 : B s < 8 := g4 (by omega)
    rw [c9] at P
    have Q2 : post (zs_b (decide (v (16 * B s) ≠ 0))) := P
    refine ⟨ei, pk_in (16 * B s) 128 (by omega) eb, pk_eq (v (16 * B s)) 0 (fun e => ?_) (fun e => ?_) (zs_at eb (by omega))⟩
    · rw [decide_eq_false (fun z => z e)] at Q2; exact Q2
    · rw [decide_eq_true e] at Q2; exact Q2
  · generalize K s = k at *
    rcases zs_k10 g1 with rfl | rfl | rfl | rfl | rfl | rfl | rfl | rfl | rfl | rfl
    all_goals first | exact P | exact absurd rfl c | exact absurd rfl c7 | exact absurd rfl c9
/-! worked -/
theorem zy_val {post : Int32 → SY → Prop} (G : zs_Gd K A B) {s n : Nat} (hs : s < 8) (hn : n < 16) (hv : ∀ q, v q < 97) (hr : zs_rl (K s) (A s) (B s) n v = false) (P : ∀ f g : Nat → Int32, post (nI (zs_vl (K s) (A s) (B s) s n v)) (zs_N K, zs_N A, zs_N B, f4, zs_N v, f6, f, g)) : wpY_worked post (zs_N K, zs_N A, zs_N B, f4, zs_N v, f6, f7, f8) (nI s) (nI n) := by
  obtain ⟨g1, g2, g3, g4⟩ := G s hs
  have ei := vp_in_nI hs (by decide : 8 < 2 ^ 31)
  have ea : 16 * zs_N A (nI s).toNatClampNeg = nI (16 * A s) := by rw [zs_at rfl (by omega)]; exact zs_16 _
  have eb : 16 * zs_N B (nI s).toNatClampNeg = nI (16 * B s) := by rw [zs_at rfl (by omega)]; exact zs_16 _
  have eB : zs_N B (nI s).toNatClampNeg = nI (B s) := zs_at rfl (by omega)
  refine ⟨ei, nm_r (zs_at rfl (by omega)) ⟨ei, nm_r ea ?_⟩⟩
  have Q := P f7 f8
  generalize zs_N K = fK at *
  generalize K s = k at *
  have e1 : nI (16 * A s) + nI n = nI (16 * A s + n) := nI_add _ _
  rcases zs_k10 g1 with rfl | rfl | rfl | rfl | rfl | rfl | rfl | rfl | rfl | rfl
  · have R : post (nI (if n = 0 then B s else 0)) (fK, zs_N A, zs_N B, f4, zs_N v, f6, f7, f8) := Q
    refine br_t (by decide) (pk_eq n 0 (fun c => ⟨ei, ?_⟩) (fun c => ?_))
    · rw [if_pos c] at R; rw [eB]; exact R
    · rw [if_neg c] at R; exact R
  · have R : post (nI (if n = 1 then 1 else 0)) (fK, zs_N A, zs_N B, f4, zs_N v, f6, f7, f8) := Q
    refine br_f (by decide) (br_t (by decide) (pk_eq n 1 (fun c => ?_) (fun c => ?_)))
    · rw [if_pos c] at R; exact R
    · rw [if_neg c] at R; exact R
  · have g5 : B s < 8 := g4 (by decide)
    have e2 : 16 * zs_N B (nI s).toNatClampNeg + nI n = nI (16 * B s + n) := zs_ix eB
    refine br_f (by decide) (br_f (by decide) (br_t (by decide) ⟨pk_in (16 * A s + n) 128 (by omega) e1, ei, pk_in (16 * B s + n) 128 (by omega) e2, by decide, ?_⟩))
    have h1 := hv (16 * A s + n)
    have h2 := hv (16 * B s + n)
    rw [zs_at e1 (by omega), zs_at e2 (by omega), nI_add, zs_r97 (by omega)]
    exact Q
  · exact br_f (by decide) (br_f (by decide) (br_f (by decide) (br_t (by decide) (zy_conv hs g2 (g4 (by decide)) hn hv Q))))
  · refine br_f (by decide) (br_f (by decide) (br_f (by decide) (br_f (by decide) (br_t (by decide) ⟨ei, pk_in (16 * A s + n) 128 (by omega) e1, by decide, ?_⟩))))
    have h1 := zs_mul96 g3 (hv (16 * A s + n))
    rw [zs_at e1 (by omega), eB, pk_mul, zs_r97 (by omega)]
    exact Q
  · have hr2 : decide (n = 15) = false := hr
    have hr3 : ¬ n = 15 := of_decide_eq_false hr2
    have R : post (nI (if n + 1 < 16 then (n + 1) * v (16 * A s + (n + 1)) % 97 else 0)) (fK, zs_N A, zs_N B, f4, zs_N v, f6, f7, f8) := Q
    rw [if_pos (by omega)] at R
    have e3 : nI (16 * A s) + nI n + 1 = nI (16 * A s + (n + 1)) := by rw [nI_add, nI_1]; rfl
    refine br_f (by decide) (br_f (by decide) (br_f (by decide) (br_f (by decide) (br_f (by decide) (br_t (by decide) ⟨pk_in (16 * A s + (n + 1)) 128 (by omega) e3, by decide, ?_⟩)))))
    have h1 := zs_mul96 (show n + 1 < 97 by omega) (hv (16 * A s + (n + 1)))
    rw [zs_at e3 (by omega), nI_1, pk_mul, zs_r97 (by omega)]
    exact R
  · have R : post (nI (if n = 0 then B s else v (16 * A s + (n - 1)) * zs_inv n % 97)) (fK, zs_N A, zs_N B, f4, zs_N v, f6, f7, f8) := Q
    refine br_f (by decide) (br_f (by decide) (br_f (by decide) (br_f (by decide) (br_f (by decide) (br_f (by decide) (br_f (by decide) (br_f (by decide) (pk_eq n 0 (fun c => ⟨ei, ?_⟩) (fun c => br_f (by decide) ?_)))))))))
    · rw [if_pos c] at R; rw [eB]; exact R
    · rw [if_neg c] at R
      have e3 : nI (16 * A s) + nI n - 1 = nI (16 * A s + (n - 1)) := zs_i3 (i := 1) (by omega)
      rw [← zs_quo_n n hn c _ (hv _)] at R
      refine ⟨pk_in (16 * A s + (n - 1)) 128 (by omega) e3, ?_⟩
      rw [zs_at e3 (by omega)]
      exact zy_quo (hv _) (by omega) R
  · exact br_f (by decide) (br_f (by decide) (br_f (by decide) (br_f (by decide) (br_f (by decide) (br_f (by decide) (br_t (by decide) (zy_rec hs g2 hn hv Q)))))))
  · have R : post (nI (if n = 0 then B s else v (16 * A s + (n - 1)))) (fK, zs_N A, zs_N B, f4, zs_N v, f6, f7, f8) := Q
    refine br_f (by decide) (br_f (by decide) (br_f (by decide) (br_f (by decide) (br_f (by decide) (br_f (by decide) (br_f (by decide) (br_f (by decide) (pk_eq n 0 (fun c => ⟨ei, ?_⟩) (fun c => br_t (by decide) ?_)))))))))
    · rw [if_pos c] at R; rw [eB]; exact R
    · rw [if_neg c] at R
      have e3 : nI (16 * A s) + nI n - 1 = nI (16 * A s + (n - 1)) := zs_i3 (i := 1) (by omega)
      refine ⟨pk_in (16 * A s + (n - 1)) 128 (by omega) e3, ?_⟩
      rw [zs_at e3 (by omega)]
      exact R
  · exact br_f (by decide) (br_f (by decide) (br_f (by decide) (br_f (by decide) (br_f (by decide) (br_f (by decide) (br_f (by decide) (br_t (by decide) (zy_comp hs g2 (g4 (by decide)) hn hv P))))))))
end
end
section
section
variable {K A B : Nat → Nat} {h : Nat → Bool} {v : Nat → Nat} {f1 f2 f3 f4 f5 f6 f7 f8 : Nat → Int32}
/-- what holds while the places are looked at: c says whether this round has found a value, D which places it has looked at -/
def zs_Inv (K A B : Nat → Nat) (h : Nat → Bool) (v : Nat → Nat) (R : Nat) (c : Bool) (D : Nat → Prop) : Prop := (∀ q, v q < 97) ∧ zs_Bel K A B h v ∧ zs_Con K A B h v ∧ R + (if c = true then 1 else 0) ≤ zs_cn h 128 ∧ (c = false → ∀ q, D q → zs_All K A B h q → zs_rul K A B v q = false → h q = true)
theorem zs_skip {R : Nat} {c : Bool} {D D' : Nat → Prop} {p : Nat} (I : zs_Inv K A B h v R c D) (hp : zs_All K A B h p → zs_rul K A B v p = false → h p = true) (hD : ∀ q, D' q → D q ∨ q = p) : zs_Inv K A B h v R c D' := by
  obtain ⟨i1, i2, i3, i4, i5⟩ := I
  refine ⟨i1, i2, i3, i4, fun hc q hq => ?_⟩
  rcases hD q hq with z | z
  · exact i5 hc q z
  · subst z; exact hp
theorem zs_add {R : Nat} {c : Bool} {D D' : Nat → Prop} {p : Nat} (G : zs_Gd K A B) (I : zs_Inv K A B h v R c D) (hp : p < 128) (hh : h p = false) (ha : zs_All K A B h p) (hr : zs_rul K A B v p = false) : zs_Inv K A B (zs_ub h p true) (zs_un v p (zs_val K A B v p)) R true D' := by
  obtain ⟨i1, i2, i3, i4, i5⟩ := I
  have s := zs_step G i2 i3 hp hh ha hr
  refine ⟨fun q => ?_, s.1, s.2, ?_, fun z => nomatch z⟩
  · by_cases z : q = p
    · subst z; rw [zs_un_s]; exact zs_vl_lt (G (q / 16) (by omega)).2.2.1 i1
    · rw [zs_un_n z]; exact i1 q
  · rw [zs_cn_add hh 128 hp, if_pos rfl]
    omega
theorem zs_fin (i2 : zs_Bel K A B h v) (i3 : zs_Con K A B h v) (i5 : ∀ q, q < 128 → zs_All K A B h q → zs_rul K A B v q = false → h q = true) : zs_Lf K A B h v :=
  ⟨fun p hp ha hr => ⟨i5 p hp ha hr, (i3 p hp (i5 p hp ha hr)).2.2⟩, i2⟩
theorem zs_inv0 (hv : ∀ q, v q < 97) (hh : ∀ q, q < 128 → h q = false) : zs_Bel K A B h v ∧ zs_Con K A B h v := by
  constructor
  · intro h2 v2 _ p hp e
    rw [hh p hp] at e; exact nomatch e
  · intro p hp e
    rw [hh p hp] at e; exact nomatch e
/-! X: findAllValues -/
theorem zx_f48 {post : SX → Prop} {J33 : Int32 → Int32 → (Nat → Int32) → (Nat → Int32) → (Nat → Int32) → (Nat → Int32) → (Nat → Int32) → (Nat → Int32) → (Nat → Int32) → (Nat → Int32) → Prop} {x2 : Int32} {R : Nat} (G : zs_Gd K A B) (P : ∀ c h v f6, zs_Inv K A B h v R c (fun q => q < 128) → J33 (zs_b c) (x2 + 1) (zs_N K) (zs_N A) (zs_N B) (zs_B h) (zs_N v) f6 f7 f8) : ∀ d i, i + d = 128 → ∀ c h v f6, zs_Inv K A B h v R c (fun q => q < i) → wX_findAllValues_48 post J33 x2 (d + 1) (zs_b c) (nI i) (zs_N K) (zs_N A) (zs_N B) (zs_B h) (zs_N v) f6 f7 f8 := by
  intro d
  induction d with
  | zero =>
    intro i hi c h v f6 I
    have e : i = 128 := by omega
    subst e
    exact pk_le 128 128 (fun _ => nm_e (P c h v f6 I)) (fun e => absurd e (by omega))
  | succ d ih =>
    intro i hi c h v f6 I
    have hl : i < 128 := by omega
    have D : ∀ q, q < i + 1 → q < i ∨ q = i := fun q hq => by omega
    have vi := vp_in_nI hl (by decide : 128 < 2 ^ 31)
    have nx : ∀ c h v f6, zs_Inv K A B h v R c (fun q => q < i + 1) → wX_findAllValues_48 post J33 x2 (d + 1) (zs_b c) (nI (i + 1)) (zs_N K) (zs_N A) (zs_N B) (zs_B h) (zs_N v) f6 f7 f8 := ih (i + 1) (by omega)
    refine pk_le 128 i (fun e => absurd e (by omega)) (fun _ => ⟨vi, ?_⟩)
    cases hh : h i with
    | true => exact br_f (zs_hT rfl (by omega) hh) (nm_r (nI_1 i) (nx c h v f6 (zs_skip I (fun _ _ => hh) D)))
    | false =>
      refine br_t (zs_hF rfl (by omega) hh) (zx_all G hl (fun ha => br_f (by decide) (zx_rul G hl I.1 ?_)) (fun ha => br_t rfl (nm_r (nI_1 i) (nx c h v f6 (zs_skip I (fun z => absurd z ha) D)))))
      cases hr : zs_rul K A B v i with
      | true => exact br_f (by decide) (nm_r (nI_1 i) (nx c h v f6 (zs_skip I (fun _ z => by rw [hr] at z; exact nomatch z) D)))
      | false =>
        have e1 : upd (zs_N v) (nI i).toNatClampNeg (nI (zs_val K A B v i)) = zs_N (zs_un v i (zs_val K A B v i)) := by rw [nI_clamp (by omega)]; exact zs_updN _ _ _
        have e2 : upd (zs_B h) (nI i).toNatClampNeg (vp_nar .boolean 1) = zs_B (zs_ub h i true) := by rw [nI_clamp (by omega), zs_bn]; exact zs_updB _ _ _
        exact br_t rfl (zx_val G hl I.1 fun f => ⟨vi, nm_r e1 ⟨vi, nm_r e2 (nm_r (nI_1 i) (nx true _ _ f (zs_add G I hl hh ha hr)))⟩⟩)
theorem zx_f33 {post : SX → Prop} (G : zs_Gd K A B) (P : ∀ h v f6, (∀ q, v q < 97) → zs_Lf K A B h v → post (zs_N K, zs_N A, zs_N B, zs_B h, zs_N v, f6, f7, f8)) : ∀ d R, R + d = 128 → ∀ c h v f6, (∀ q, v q < 97) → zs_Bel K A B h v → zs_Con K A B h v → (c = true → R ≤ zs_cn h 128) → (c = false → ∀ q, q < 128 → zs_All K A B h q → zs_rul K A B v q = false → h q = true) → wX_findAllValues_33 post (d + 1) (zs_b c) (nI R) (zs_N K) (zs_N A) (zs_N B) (zs_B h) (zs_N v) f6 f7 f8 := by
  intro d
  induction d with
  | zero =>
    intro R hR c h v f6 i1 i2 i3 i4 i5
    refine pk_le 128 R (fun _ => P h v f6 i1 (zs_fin i2 i3 ?_)) (fun e => absurd e (by omega))
    cases c with
    | false => exact i5 rfl
    | true => exact fun q hq _ _ => zs_cn_all (k := 128) (by have := i4 rfl; omega) q hq
  | succ d ih =>
    intro R hR c h v f6 i1 i2 i3 i4 i5
    refine pk_le 128 R (fun e => absurd e (by omega)) (fun _ => ?_)
    cases c with
    | false => exact br_t rfl (P h v f6 i1 (zs_fin i2 i3 (i5 rfl)))
    | true =>
      refine br_f (by decide) ⟨129, zx_f48 (R := R) G (fun c h v f6 I => ?_) 128 0 rfl false h v f6 ⟨i1, i2, i3, i4 rfl, fun _ q hq => absurd hq (by omega)⟩⟩
      rw [nI_1]
      obtain ⟨j1, j2, j3, j4, j5⟩ := I
      refine ih (R + 1) (by omega) c h v f6 j1 j2 j3 (fun z => ?_) j5
      rw [if_pos z] at j4
      exact j4
theorem zx_f2 {post : SX → Prop} (G : zs_Gd K A B) (P : ∀ h v f6, (∀ q, v q < 97) → zs_Lf K A B h v → post (zs_N K, zs_N A, zs_N B, zs_B h, zs_N v, f6, f7, f8)) : ∀ d i, i + d = 128 → ∀ h v f6, (∀ q, v q < 97) → (∀ q, q < i → h q = false) → wX_findAllValues_2 post (d + 1) (nI i) (zs_N K) (zs_N A) (zs_N B) (zs_B h) (zs_N v) f6 f7 f8 := by
  intro d
  induction d with
  | zero =>
    intro i hi h v f6 hv hh
    have e := zs_inv0 (K := K) (A := A) (B := B) hv (fun q hq => hh q (by omega))
    exact pk_le 128 i (fun _ => ⟨129, zx_f33 G P 128 0 rfl true h v f6 hv e.1 e.2 (fun _ => Nat.zero_le _) (fun z => nomatch z)⟩) (fun e => absurd e (by omega))
  | succ d ih =>
    intro i hi h v f6 hv hh
    have vi := vp_in_nI (show i < 128 by omega) (by decide : 128 < 2 ^ 31)
    have e1 : upd (zs_N v) (nI i).toNatClampNeg 0 = zs_N (zs_un v i 0) := by rw [nI_clamp (by omega)]; exact zs_updN _ _ _
    have e2 : upd (zs_B h) (nI i).toNatClampNeg (vp_nar .boolean 0) = zs_B (zs_ub h i false) := by rw [nI_clamp (by omega), zs_bf]; exact zs_updB _ _ _
    refine pk_le 128 i (fun e => absurd e (by omega)) (fun _ => ⟨vi, nm_r e2 ⟨vi, nm_r e1 (nm_r (nI_1 i) (ih (i + 1) (by omega) _ _ f6 (fun q => ?_) (fun q hq => ?_)))⟩⟩)
    · by_cases z : q = i
      · subst z; rw [zs_un_s]; decide
      · rw [zs_un_n z]; exact hv q
    · by_cases z : q = i
      · subst z; exact zs_ub_s
      · rw [zs_ub_n z]; exact hh q (by omega)
theorem zx_find {post : SX → Prop} (G : zs_Gd K A B) (hv : ∀ q, v q < 97) (P : ∀ h v f6, (∀ q, v q < 97) → zs_Lf K A B h v → post (zs_N K, zs_N A, zs_N B, zs_B h, zs_N v, f6, f7, f8)) : wpX_findAllValues post (zs_N K, zs_N A, zs_N B, zs_B h, zs_N v, f6, f7, f8) :=
  ⟨129, zx_f2 G P 128 0 rfl h v f6 hv (fun q hq => absurd hq (by omega))⟩
/-! Y: pass, workOut -/
theorem zy_p12 {post : Int32 → SY → Prop} {J4 : Int32 → Int32 → (Nat → Int32) → (Nat → Int32) → (Nat → Int32) → (Nat → Int32) → (Nat → Int32) → (Nat → Int32) → (Nat → Int32) → (Nat → Int32) → Prop} {n R : Nat} (G : zs_Gd K A B) (hn : n < 16) (P : ∀ c h v f7 f8, zs_Inv K A B h v R c (fun q => q < 128 ∧ q % 16 < n + 1) → J4 (zs_b c) (nI (n + 1)) (zs_N K) (zs_N A) (zs_N B) (zs_B h) (zs_N v) f6 f7 f8) : ∀ d s, s + d = 8 → ∀ c h v f7 f8, zs_Inv K A B h v R c (fun q => q < 128 ∧ (q % 16 < n ∨ (q % 16 = n ∧ q / 16 < s))) → wY_pass_12 post J4 (nI n) (d + 1) (zs_b c) (nI s) (zs_N K) (zs_N A) (zs_N B) (zs_B h) (zs_N v) f6 f7 f8 := by
  intro d
  induction d with
  | zero =>
    intro s hs c h v f7 f8 I
    refine pk_le 8 s (fun _ => nm_r (nI_1 n) (P c h v f7 f8 ?_)) (fun e => absurd e (by omega))
    obtain ⟨i1, i2, i3, i4, i5⟩ := I
    exact ⟨i1, i2, i3, i4, fun hc q hq => i5 hc q ⟨hq.1, by omega⟩⟩
  | succ d ih =>
    intro s hs c h v f7 f8 I
    have hl : s < 8 := by omega
    have hp : 16 * s + n < 128 := by omega
    have ds : (16 * s + n) / 16 = s := by omega
    have ms : (16 * s + n) % 16 = n := by omega
    have D : ∀ q, q < 128 ∧ (q % 16 < n ∨ (q % 16 = n ∧ q / 16 < s + 1)) → (q < 128 ∧ (q % 16 < n ∨ (q % 16 = n ∧ q / 16 < s))) ∨ q = 16 * s + n := fun q hq => by omega
    have ex : 16 * nI s + nI n = nI (16 * s + n) := zs_ix rfl
    have vi : vp_in (16 * nI s + nI n) 128 := pk_in _ 128 hp ex
    have nx : ∀ c h v f7 f8, zs_Inv K A B h v R c (fun q => q < 128 ∧ (q % 16 < n ∨ (q % 16 = n ∧ q / 16 < s + 1))) → wY_pass_12 post J4 (nI n) (d + 1) (zs_b c) (nI (s + 1)) (zs_N K) (zs_N A) (zs_N B) (zs_B h) (zs_N v) f6 f7 f8 := ih (s + 1) (by omega)
    have eR : zs_rul K A B v (16 * s + n) = zs_rl (K s) (A s) (B s) n v := by unfold zs_rul; rw [ds, ms]
    have eV : zs_val K A B v (16 * s + n) = zs_vl (K s) (A s) (B s) s n v := by unfold zs_val; rw [ds, ms]
    refine pk_le 8 s (fun e => absurd e (by omega)) (fun _ => ⟨vi, ?_⟩)
    cases hh : h (16 * s + n) with
    | true => exact br_f (zs_hT ex (by omega) hh) (nm_r (nI_1 s) (nx c h v f7 f8 (zs_skip I (fun _ _ => hh) D)))
    | false =>
      refine br_t (zs_hF ex (by omega) hh) (zy_ready G hl hn (fun ha => br_f (by decide) (zy_bar G hl hn I.1 ?_)) (fun ha => br_t rfl (nm_r (nI_1 s) (nx c h v f7 f8 (zs_skip I (fun z => absurd z ha) D)))))
      cases hr : zs_rl (K s) (A s) (B s) n v with
      | true => exact br_f (by decide) (nm_r (nI_1 s) (nx c h v f7 f8 (zs_skip I (fun _ z => by rw [eR, hr] at z; exact nomatch z) D)))
      | false =>
        have e1 : upd (zs_N v) (16 * nI s + nI n).toNatClampNeg (nI (zs_vl (K s) (A s) (B s) s n v)) = zs_N (zs_un v (16 * s + n) (zs_val K A B v (16 * s + n))) := by rw [ex, nI_clamp (by omega), eV]; exact zs_updN _ _ _
        have e2 : upd (zs_B h) (16 * nI s + nI n).toNatClampNeg (vp_nar .boolean 1) = zs_B (zs_ub h (16 * s + n) true) := by rw [ex, nI_clamp (by omega), zs_bn]; exact zs_updB _ _ _
        exact br_t rfl (zy_val G hl hn I.1 hr fun f g => ⟨vi, nm_r e1 ⟨vi, nm_r e2 (nm_r (nI_1 s) (nx true _ _ f g (zs_add G I hp hh ha (eR.trans hr))))⟩⟩)
theorem zy_p4 {post : Int32 → SY → Prop} {R : Nat} (G : zs_Gd K A B) (P : ∀ c h v f7 f8, zs_Inv K A B h v R c (fun q => q < 128) → post (zs_b c) (zs_N K, zs_N A, zs_N B, zs_B h, zs_N v, f6, f7, f8)) : ∀ d n, n + d = 16 → ∀ c h v f7 f8, zs_Inv K A B h v R c (fun q => q < 128 ∧ q % 16 < n) → wY_pass_4 post (d + 1) (zs_b c) (nI n) (zs_N K) (zs_N A) (zs_N B) (zs_B h) (zs_N v) f6 f7 f8 := by
  intro d
  induction d with
  | zero =>
    intro n hn c h v f7 f8 I
    refine pk_le 16 n (fun _ => ⟨by cases c <;> rfl, P c h v f7 f8 ?_⟩) (fun e => absurd e (by omega))
    obtain ⟨i1, i2, i3, i4, i5⟩ := I
    exact ⟨i1, i2, i3, i4, fun hc q hq => i5 hc q ⟨hq, by omega⟩⟩
  | succ d ih =>
    intro n hn c h v f7 f8 I
    refine pk_le 16 n (fun e => absurd e (by omega)) (fun _ => ⟨9, zy_p12 G (by omega) (fun c h v f7 f8 I => ih (n + 1) (by omega) c h v f7 f8 I) 8 0 rfl c h v f7 f8 ?_⟩)
    obtain ⟨i1, i2, i3, i4, i5⟩ := I
    exact ⟨i1, i2, i3, i4, fun hc q hq => i5 hc q ⟨hq.1, by omega⟩⟩
theorem zy_pass {post : Int32 → SY → Prop} {R : Nat} (G : zs_Gd K A B) (P : ∀ c h v f7 f8, zs_Inv K A B h v R c (fun q => q < 128) → post (zs_b c) (zs_N K, zs_N A, zs_N B, zs_B h, zs_N v, f6, f7, f8)) (I : zs_Inv K A B h v R false (fun _ => False)) : wpY_pass post (zs_N K, zs_N A, zs_N B, zs_B h, zs_N v, f6, f7, f8) := by
  obtain ⟨i1, i2, i3, i4, i5⟩ := I
  exact ⟨17, zy_p4 G P 16 0 rfl false h v f7 f8 ⟨i1, i2, i3, i4, fun hc q hq => absurd hq.2 (by omega)⟩⟩
theorem zy_w26 {post : SY → Prop} (G : zs_Gd K A B) (P : ∀ h v f7 f8, (∀ q, v q < 97) → zs_Lf K A B h v → post (zs_N K, zs_N A, zs_N B, zs_B h, zs_N v, f6, f7, f8)) : ∀ d R, R + d = 129 → ∀ c h v f7 f8, (∀ q, v q < 97) → zs_Bel K A B h v → zs_Con K A B h v → (c = true → R ≤ zs_cn h 128) → (c = false → ∀ q, q < 128 → zs_All K A B h q → zs_rul K A B v q = false → h q = true) → wY_workOut_26 post (d + 1) (zs_b c) (nI R) (zs_N K) (zs_N A) (zs_N B) (zs_B h) (zs_N v) f6 f7 f8 := by
  intro d
  induction d with
  | zero =>
    intro R hR c h v f7 f8 i1 i2 i3 i4 i5
    refine pk_le 129 R (fun _ => P h v f7 f8 i1 (zs_fin i2 i3 ?_)) (fun e => absurd e (by omega))
    cases c with
    | false => exact i5 rfl
    | true => exact fun q hq _ _ => zs_cn_all (k := 128) (by have := i4 rfl; omega) q hq
  | succ d ih =>
    intro R hR c h v f7 f8 i1 i2 i3 i4 i5
    refine pk_le 129 R (fun e => absurd e (by omega)) (fun _ => ?_)
    cases c with
    | false => exact br_t rfl (P h v f7 f8 i1 (zs_fin i2 i3 (i5 rfl)))
    | true =>
      refine br_f (by decide) (zy_pass (R := R) G (fun c h v f7 f8 I => nm_r (nI_1 R) ?_) ⟨i1, i2, i3, i4 rfl, fun _ q hq => hq.elim⟩)
      obtain ⟨j1, j2, j3, j4, j5⟩ := I
      refine ih (R + 1) (by omega) c h v f7 f8 j1 j2 j3 (fun z => ?_) j5
      rw [if_pos z] at j4
      exact j4
theorem zy_w2 {post : SY → Prop} (G : zs_Gd K A B) (hv : ∀ q, v q < 97) (P : ∀ h v f7 f8, (∀ q, v q < 97) → zs_Lf K A B h v → post (zs_N K, zs_N A, zs_N B, zs_B h, zs_N v, f6, f7, f8)) : ∀ d i, i + d = 128 → ∀ h, (∀ q, q < i → h q = false) → wY_workOut_2 post (d + 1) (nI i) (zs_N K) (zs_N A) (zs_N B) (zs_B h) (zs_N v) f6 f7 f8 := by
  intro d
  induction d with
  | zero =>
    intro i hi h hh
    have e := zs_inv0 (K := K) (A := A) (B := B) hv (fun q hq => hh q (by omega))
    exact pk_le 128 i (fun _ => ⟨130, zy_w26 G P 129 0 rfl true h v f7 f8 hv e.1 e.2 (fun _ => Nat.zero_le _) (fun z => nomatch z)⟩) (fun e => absurd e (by omega))
  | succ d ih =>
    intro i hi h hh
    have vi := vp_in_nI (show i < 128 by omega) (by decide : 128 < 2 ^ 31)
    have e2 : upd (zs_B h) (nI i).toNatClampNeg (vp_nar .boolean 0) = zs_B (zs_ub h i false) := by rw [nI_clamp (by omega), zs_bf]; exact zs_updB _ _ _
    refine pk_le 128 i (fun e => absurd e (by omega)) (fun _ => ⟨vi, nm_r e2 (nm_r (nI_1 i) (ih (i + 1) (by omega) _ (fun q hq => ?_)))⟩)
    by_cases z : q = i
    · subst z; exact zs_ub_s
    · rw [zs_ub_n z]; exact hh q (by omega)
theorem zy_work {post : SY → Prop} (G : zs_Gd K A B) (hv : ∀ q, v q < 97) (P : ∀ h v f7 f8, (∀ q, v q < 97) → zs_Lf K A B h v → post (zs_N K, zs_N A, zs_N B, zs_B h, zs_N v, f6, f7, f8)) : wpY_workOut post (zs_N K, zs_N A, zs_N B, zs_B h, zs_N v, f6, f7, f8) :=
  ⟨129, zy_w2 G hv P 128 0 rfl h (fun q hq => absurd hq (by omega))⟩
end
end
section
section
variable {K A B : Nat → Nat} {R : Nat → Bool} {v : Nat → Nat} {f1 f2 f3 f4 f5 f6 f7 f8 : Nat → Int32}
/-! the least set that holds what p needs -/
def zs_nC (K A B : Nat → Nat) (p : Nat) (C : Nat → Prop) : Prop := (∀ q, q < 128 → zs_need K A B p q = true → C q) ∧ (∀ r, r < 128 → C r → ∀ q, q < 128 → zs_need K A B r q = true → C q)
def zs_nB (K A B : Nat → Nat) (p : Nat) (R : Nat → Bool) : Prop := ∀ C, zs_nC K A B p C → ∀ q, q < 128 → R q = true → C q
def zs_nL (K A B : Nat → Nat) (p : Nat) (R : Nat → Bool) : Prop := zs_nC K A B p (fun q => R q = true) ∧ zs_nB K A B p R
theorem zs_nuni {p : Nat} {R S : Nat → Bool} (a : zs_nL K A B p R) (b : zs_nL K A B p S) : ∀ q, q < 128 → R q = S q := by
  intro q hq
  have f := a.2 _ b.1 q hq
  have g := b.2 _ a.1 q hq
  cases e : R q with
  | true => exact (f e).symm
  | false =>
    cases e2 : S q with
    | true => have := g e2; rw [e] at this; exact nomatch this
    | false => rfl
/-- every closed set holds what r needs -/
def zs_nR (K A B : Nat → Nat) (p r : Nat) : Prop := ∀ C, zs_nC K A B p C → ∀ q, q < 128 → zs_need K A B r q = true → C q
theorem zs_nR0 {p : Nat} : zs_nR K A B p p := fun _ c => c.1
theorem zs_nR1 {p r : Nat} (hr : r < 128) (b : zs_nB K A B p R) (e : R r = true) : zs_nR K A B p r := fun C c => c.2 r hr (b C c r hr e)
theorem zs_nBa {p r i : Nat} (b : zs_nB K A B p R) (hr : zs_nR K A B p r) (hi : i < 128) (hn : zs_need K A B r i = true) : zs_nB K A B p (zs_ub R i true) := by
  intro C c q hq e
  by_cases z : q = i
  · subst z; exact hr C c q hq hn
  · rw [zs_ub_n z] at e; exact b C c q hq e
/-- an array holds the set -/
def zs_E (f : Nat → Int32) (R : Nat → Bool) : Prop := ∀ q, q < 128 → f q = zs_b (R q)
theorem zs_Eu {f : Nat → Int32} {i : Nat} (e : zs_E f R) (x : Bool) : zs_E (upd f i (zs_b x)) (zs_ub R i x) := by
  intro q hq
  by_cases z : q = i
  · subst z; rw [pk_us, zs_ub_s]
  · rw [pk_un z, zs_ub_n z]; exact e q hq
theorem zs_EF {f : Nat → Int32} {i : Nat} (e : zs_E f R) (hi : i < 128) (hh : R i = false) : f (nI i).toNatClampNeg = 0 := by
  rw [nI_clamp (by omega), e i hi, hh]; rfl
theorem zs_ET {f : Nat → Int32} {i : Nat} (e : zs_E f R) (hi : i < 128) (hh : R i = true) : ¬ f (nI i).toNatClampNeg = 0 := by
  rw [nI_clamp (by omega), e i hi, hh]; decide
theorem zs_ubm {i q : Nat} (h : R q = true) : zs_ub R i true q = true := by
  by_cases z : q = i
  · subst z; exact zs_ub_s
  · rw [zs_ub_n z]; exact h
theorem zs_cn0 : ∀ k, zs_cn (fun _ => false) k = 0 := by
  intro k
  induction k with
  | zero => rfl
  | succ k ih =>
    show zs_cn (fun _ => false) k + (if (false : Bool) = true then 1 else 0) = 0
    rw [ih]; rfl
/-- the queue: c places, all that are reached, each once -/
def zs_Q (K A B : Nat → Nat) (p : Nat) (R : Nat → Bool) (c : Nat) (f7 f8 : Nat → Int32) : Prop := zs_E f7 R ∧ c = zs_cn R 128 ∧ (∀ j, j < c → ∃ q, q < 128 ∧ f8 j = nI q ∧ R q = true) ∧ (∀ q, q < 128 → R q = true → ∃ j, j < c ∧ f8 j = nI q) ∧ zs_nB K A B p R
theorem zs_Qa {p r i c : Nat} {f7 f8 : Nat → Int32} (Q : zs_Q K A B p R c f7 f8) (hr : zs_nR K A B p r) (hi : i < 128) (hh : R i = false) (hn : zs_need K A B r i = true) : zs_Q K A B p (zs_ub R i true) (c + 1) (upd f7 i (zs_b true)) (upd f8 c (nI i)) := by
  obtain ⟨q1, q2, q3, q4, q5⟩ := Q
  refine ⟨zs_Eu q1 true, ?_, fun j hj => ?_, fun q hq e => ?_, zs_nBa q5 hr hi hn⟩
  · rw [zs_cn_add hh 128 hi, q2]
  · by_cases z : j = c
    · subst z; exact ⟨i, hi, pk_us, zs_ub_s⟩
    · obtain ⟨q, a, b, d⟩ := q3 j (by omega)
      exact ⟨q, a, by rw [pk_un z]; exact b, zs_ubm d⟩
  · by_cases z : q = i
    · subst z; exact ⟨c, by omega, pk_us⟩
    · rw [zs_ub_n z] at e
      obtain ⟨j, a, b⟩ := q4 q hq e
      exact ⟨j, by omega, by rw [pk_un (by omega)]; exact b⟩
/-! X -/
theorem zx_rd5 {post : Int32 → SX → Prop} {p r c0 : Nat} {g8 : Nat → Int32} (G : zs_Gd K A B) (hr : r < 128) (hR : zs_nR K A B p r) (P : ∀ S c f7 f8, zs_Q K A B p S c f7 f8 → (∀ q, R q = true → S q = true) → c0 ≤ c → (∀ j, j < c0 → f8 j = g8 j) → (∀ q, q < 128 → zs_need K A B r q = true → S q = true) → post (nI c) (zs_N K, zs_N A, zs_N B, f4, f5, f6, f7, f8)) : ∀ d i, i + d = 128 → ∀ S c f7 f8, zs_Q K A B p S c f7 f8 → (∀ q, R q = true → S q = true) → c0 ≤ c → (∀ j, j < c0 → f8 j = g8 j) → (∀ q, q < i → zs_need K A B r q = true → S q = true) → wX_reachDirectNeedsOf_5 post (nI r) (d + 1) (nI c) (nI i) (zs_N K) (zs_N A) (zs_N B) f4 f5 f6 f7 f8 := by
  intro d
  induction d with
  | zero =>
    intro i hi S c f7 f8 Q a1 a2 a3 a4
    exact pk_le 128 i (fun _ => P S c f7 f8 Q a1 a2 a3 (fun q hq => a4 q (by omega))) (fun e => absurd e (by omega))
  | succ d ih =>
    intro i hi S c f7 f8 Q a1 a2 a3 a4
    have hl : i < 128 := by omega
    have hc : c ≤ 128 := by rw [Q.2.1]; exact zs_cn_le _ _
    have vi := vp_in_nI hl (by decide : 128 < 2 ^ 31)
    refine pk_le 128 i (fun e => absurd e (by omega)) (fun _ => pk_le 128 c (fun e => P S c f7 f8 Q a1 a2 a3 (fun q hq _ => zs_cn_all (k := 128) (by have := Q.2.1; omega) q hq)) (fun e => ⟨vi, ?_⟩))
    cases hh : S i with
    | true =>
      refine br_f (zs_ET Q.1 hl hh) (nm_r (nI_1 i) (ih (i + 1) (by omega) S c f7 f8 Q a1 a2 a3 (fun q hq nq => ?_)))
      by_cases z : q = i
      · subst z; exact hh
      · exact a4 q (by omega) nq
    | false =>
      refine br_t (zs_EF Q.1 hl hh) (zx_nd G hr hl ?_)
      cases hn : zs_need K A B r i with
      | false =>
        refine br_t rfl (nm_r (nI_1 i) (ih (i + 1) (by omega) S c f7 f8 Q a1 a2 a3 (fun q hq nq => ?_)))
        by_cases z : q = i
        · subst z; rw [hn] at nq; exact nomatch nq
        · exact a4 q (by omega) nq
      | true =>
        have e1 : upd f7 (nI i).toNatClampNeg (vp_nar .boolean 1) = upd f7 i (zs_b true) := by rw [nI_clamp (by omega), zs_bn]
        have e2 : upd f8 (nI c).toNatClampNeg (nI i) = upd f8 c (nI i) := by rw [nI_clamp (by omega)]
        refine br_f (by decide) ⟨vi, nm_r e1 ⟨vp_in_nI e (by decide), nm_r e2 (nm_r (nI_1 c) (nm_r (nI_1 i) (ih (i + 1) (by omega) _ _ _ _ (zs_Qa Q hR hl hh hn) (fun q z => zs_ubm (a1 q z)) (by omega) (fun j hj => ?_) (fun q hq nq => ?_))))⟩⟩
        · rw [pk_un (by omega)]; exact a3 j hj
        · by_cases z : q = i
          · subst z; exact zs_ub_s
          · exact zs_ubm (a4 q (by omega) nq)
theorem zx_rd {post : Int32 → SX → Prop} {p r c : Nat} (G : zs_Gd K A B) (hr : r < 128) (hR : zs_nR K A B p r) (Q : zs_Q K A B p R c f7 f8) (P : ∀ S c1 g7 g8, zs_Q K A B p S c1 g7 g8 → (∀ q, R q = true → S q = true) → c ≤ c1 → (∀ j, j < c → g8 j = f8 j) → (∀ q, q < 128 → zs_need K A B r q = true → S q = true) → post (nI c1) (zs_N K, zs_N A, zs_N B, f4, f5, f6, g7, g8)) : wpX_reachDirectNeedsOf post (zs_N K, zs_N A, zs_N B, f4, f5, f6, f7, f8) (nI r) (nI c) :=
  ⟨129, zx_rd5 G hr hR P 128 0 rfl R c f7 f8 Q (fun _ z => z) (Nat.le_refl c) (fun _ _ => rfl) (fun q hq => absurd hq (by omega))⟩
theorem zx_r31 {post : SX → Prop} {p : Nat} (G : zs_Gd K A B) (P : ∀ S f7 f8, zs_E f7 S → zs_nL K A B p S → post (zs_N K, zs_N A, zs_N B, f4, f5, f6, f7, f8)) : ∀ d i, i + d = 128 → ∀ S c f7 f8, zs_Q K A B p S c f7 f8 → (∀ q, q < 128 → zs_need K A B p q = true → S q = true) → (∀ j, j < i → j < c → ∀ r, r < 128 → f8 j = nI r → ∀ q, q < 128 → zs_need K A B r q = true → S q = true) → wX_reachNeedsOf_31 post (d + 1) (nI c) (nI i) (zs_N K) (zs_N A) (zs_N B) f4 f5 f6 f7 f8 := by
  have fin : ∀ i S c f7 f8, (128 ≤ i ∨ c ≤ i) → zs_Q K A B p S c f7 f8 → (∀ q, q < 128 → zs_need K A B p q = true → S q = true) → (∀ j, j < i → j < c → ∀ r, r < 128 → f8 j = nI r → ∀ q, q < 128 → zs_need K A B r q = true → S q = true) → post (zs_N K, zs_N A, zs_N B, f4, f5, f6, f7, f8) := by
    intro i S c f7 f8 hi Q a1 a2
    have hc : c ≤ 128 := by rw [Q.2.1]; exact zs_cn_le _ _
    refine P S f7 f8 Q.1 ⟨⟨a1, fun r hr e q hq nq => ?_⟩, Q.2.2.2.2⟩
    obtain ⟨j, hj, ej⟩ := Q.2.2.2.1 r hr e
    exact a2 j (by omega) hj r hr ej q hq nq
  intro d
  induction d with
  | zero =>
    intro i hi S c f7 f8 Q a1 a2
    exact pk_le 128 i (fun e => fin i S c f7 f8 (Or.inl e) Q a1 a2) (fun e => absurd e (by omega))
  | succ d ih =>
    intro i hi S c f7 f8 Q a1 a2
    have hc : c ≤ 128 := by rw [Q.2.1]; exact zs_cn_le _ _
    refine pk_le 128 i (fun e => absurd e (by omega)) (fun _ => pk_le c i (fun e => fin i S c f7 f8 (Or.inr e) Q a1 a2) (fun e => ⟨vp_in_nI (by omega) (by decide), ?_⟩))
    obtain ⟨r, hr, er, sr⟩ := Q.2.2.1 i e
    have ex : f8 (nI i).toNatClampNeg = nI r := by rw [nI_clamp (by omega)]; exact er
    rw [ex]
    refine zx_rd G hr (zs_nR1 hr Q.2.2.2.2 sr) Q fun S1 c1 g7 g8 Q1 b1 b2 b3 b4 => nm_r (nI_1 i) (ih (i + 1) (by omega) S1 c1 g7 g8 Q1 (fun q hq nq => b1 q (a1 q hq nq)) (fun j hj hj2 r2 hr2 er2 q hq nq => ?_))
    rw [b3 j (by omega)] at er2
    by_cases z : j = i
    · subst z
      have e3 : nI r2 = nI r := er2.symm.trans er
      rw [nI_eq (by omega) (by omega)] at e3
      rw [e3] at nq
      exact b4 q hq nq
    · exact b1 q (a2 j (by omega) (by omega) r2 hr2 er2 q hq nq)
theorem zx_r0 {post : SX → Prop} {p : Nat} (G : zs_Gd K A B) (hp : p < 128) (P : ∀ S f7 f8, zs_E f7 S → zs_nL K A B p S → post (zs_N K, zs_N A, zs_N B, f4, f5, f6, f7, f8)) : ∀ d i, i + d = 128 → ∀ f7, (∀ q, q < i → f7 q = 0) → wX_reachNeedsOf_2 post (nI p) (d + 1) (nI i) (zs_N K) (zs_N A) (zs_N B) f4 f5 f6 f7 f8 := by
  intro d
  induction d with
  | zero =>
    intro i hi f7 h0
    have Q : zs_Q K A B p (fun _ => false) 0 f7 f8 := ⟨fun q hq => h0 q (by omega), (zs_cn0 128).symm, fun j hj => absurd hj (by omega), (fun q hq e => nomatch e), (fun C c q hq e => nomatch e)⟩
    refine pk_le 128 i (fun _ => ?_) (fun e => absurd e (by omega))
    exact zx_rd G hp zs_nR0 Q fun S1 c1 g7 g8 Q1 b1 b2 b3 b4 => ⟨129, zx_r31 G P 128 0 rfl S1 c1 g7 g8 Q1 b4 (fun j hj => absurd hj (by omega))⟩
  | succ d ih =>
    intro i hi f7 h0
    have vi := vp_in_nI (show i < 128 by omega) (by decide : 128 < 2 ^ 31)
    refine pk_le 128 i (fun e => absurd e (by omega)) (fun _ => ⟨vi, nm_e (nm_r (nI_1 i) (ih (i + 1) (by omega) _ fun q hq => ?_))⟩)
    rw [nI_clamp (by omega)]
    by_cases z : q = i
    · subst z; rw [pk_us]; decide
    · rw [pk_un z]; exact h0 q (by omega)
theorem zx_reach {post : SX → Prop} {p : Nat} (G : zs_Gd K A B) (hp : p < 128) (P : ∀ S f7 f8, zs_E f7 S → zs_nL K A B p S → post (zs_N K, zs_N A, zs_N B, f4, f5, f6, f7, f8)) : wpX_reachNeedsOf post (zs_N K, zs_N A, zs_N B, f4, f5, f6, f7, f8) (nI p) :=
  ⟨129, zx_r0 G hp P 128 0 rfl f7 (fun q hq => absurd hq (by omega))⟩
/-! Y -/
theorem zy_s4 {post : Int32 → SY → Prop} {p r : Nat} (G : zs_Gd K A B) (hr : r < 128) (hR : zs_nR K A B p r) (P : ∀ c S f6, zs_E f6 S → zs_nB K A B p S → (∀ q, R q = true → S q = true) → (∀ q, q < 128 → zs_need K A B r q = true → S q = true) → (c = false → S = R) → zs_cn R 128 + (if c = true then 1 else 0) ≤ zs_cn S 128 → post (zs_b c) (zs_N K, zs_N A, zs_N B, f4, f5, f6, f7, f8)) : ∀ d i, i + d = 128 → ∀ c S f6, zs_E f6 S → zs_nB K A B p S → (∀ q, R q = true → S q = true) → (∀ q, q < i → zs_need K A B r q = true → S q = true) → (c = false → S = R) → zs_cn R 128 + (if c = true then 1 else 0) ≤ zs_cn S 128 → wY_spread_4 post (nI r) (d + 1) (zs_b c) (nI i) (zs_N K) (zs_N A) (zs_N B) f4 f5 f6 f7 f8 := by
  intro d
  induction d with
  | zero =>
    intro i hi c S f6 a1 a2 a3 a4 a5 a6
    exact pk_le 128 i (fun _ => ⟨by cases c <;> rfl, P c S f6 a1 a2 a3 (fun q hq => a4 q (by omega)) a5 a6⟩) (fun e => absurd e (by omega))
  | succ d ih =>
    intro i hi c S f6 a1 a2 a3 a4 a5 a6
    have hl : i < 128 := by omega
    have vi := vp_in_nI hl (by decide : 128 < 2 ^ 31)
    refine pk_le 128 i (fun e => absurd e (by omega)) (fun _ => ⟨vi, ?_⟩)
    cases hh : S i with
    | true =>
      refine br_f (zs_ET a1 hl hh) (nm_r (nI_1 i) (ih (i + 1) (by omega) c S f6 a1 a2 a3 (fun q hq nq => ?_) a5 a6))
      by_cases z : q = i
      · subst z; exact hh
      · exact a4 q (by omega) nq
    | false =>
      refine br_t (zs_EF a1 hl hh) ⟨by decide, by decide, by decide, by decide, ?_⟩
      rw [zs_m16 hr, zs_d16 hr, zs_m16 hl, zs_d16 hl]
      refine zy_dir G (by omega) (by omega) (by omega) (by omega) ?_
      cases hn : zs_need K A B r i with
      | false =>
        have hn' : zs_nd (K (r / 16)) (A (r / 16)) (B (r / 16)) (r / 16) (r % 16) (i / 16) (i % 16) = false := hn
        rw [hn']
        refine br_t rfl (nm_r (nI_1 i) (ih (i + 1) (by omega) c S f6 a1 a2 a3 (fun q hq nq => ?_) a5 a6))
        by_cases z : q = i
        · subst z; rw [hn] at nq; exact nomatch nq
        · exact a4 q (by omega) nq
      | true =>
        have hn' : zs_nd (K (r / 16)) (A (r / 16)) (B (r / 16)) (r / 16) (r % 16) (i / 16) (i % 16) = true := hn
        rw [hn']
        have e1 : upd f6 (nI i).toNatClampNeg (vp_nar .boolean 1) = upd f6 i (zs_b true) := by rw [nI_clamp (by omega), zs_bn]
        refine br_f (by decide) ⟨vi, nm_r e1 (nm_r (nI_1 i) (ih (i + 1) (by omega) true _ _ (zs_Eu a1 true) (zs_nBa a2 hR hl hn) (fun q z => zs_ubm (a3 q z)) (fun q hq nq => ?_) (fun z => nomatch z) ?_))⟩
        · by_cases z : q = i
          · subst z; exact zs_ub_s
          · exact zs_ubm (a4 q (by omega) nq)
        · rw [zs_cn_add hh 128 hl, if_pos rfl]
          omega
theorem zy_spread {post : Int32 → SY → Prop} {p r : Nat} (G : zs_Gd K A B) (hr : r < 128) (hR : zs_nR K A B p r) (a1 : zs_E f6 R) (a2 : zs_nB K A B p R) (P : ∀ c S f6, zs_E f6 S → zs_nB K A B p S → (∀ q, R q = true → S q = true) → (∀ q, q < 128 → zs_need K A B r q = true → S q = true) → (c = false → S = R) → zs_cn R 128 + (if c = true then 1 else 0) ≤ zs_cn S 128 → post (zs_b c) (zs_N K, zs_N A, zs_N B, f4, f5, f6, f7, f8)) : wpY_spread post (zs_N K, zs_N A, zs_N B, f4, f5, f6, f7, f8) (nI r) :=
  ⟨129, zy_s4 G hr hR P 128 0 rfl false R f6 a1 a2 (fun _ z => z) (fun q hq => absurd hq (by omega)) (fun _ => rfl) (Nat.le_refl _)⟩
theorem zy_n70 {post : Int32 → SY → Prop} {J53 : Int32 → Int32 → (Nat → Int32) → (Nat → Int32) → (Nat → Int32) → (Nat → Int32) → (Nat → Int32) → (Nat → Int32) → (Nat → Int32) → (Nat → Int32) → Prop} {p T : Nat} {x2 : Int32} (G : zs_Gd K A B) (P : ∀ c S f6, zs_E f6 S → zs_nB K A B p S → (∀ q, q < 128 → zs_need K A B p q = true → S q = true) → T + (if c = true then 1 else 0) ≤ zs_cn S 128 → (c = false → ∀ r, r < 128 → S r = true → ∀ q, q < 128 → zs_need K A B r q = true → S q = true) → J53 (zs_b c) (nI (T + 1)) (zs_N K) (zs_N A) (zs_N B) f4 f5 f6 f7 f8) : ∀ d i, i + d = 128 → ∀ c S f6, zs_E f6 S → zs_nB K A B p S → (∀ q, q < 128 → zs_need K A B p q = true → S q = true) → T + (if c = true then 1 else 0) ≤ zs_cn S 128 → (c = false → ∀ r, r < i → S r = true → ∀ q, q < 128 → zs_need K A B r q = true → S q = true) → wY_needs_70 post J53 x2 (nI T) (d + 1) (zs_b c) (nI i) (zs_N K) (zs_N A) (zs_N B) f4 f5 f6 f7 f8 := by
  intro d
  induction d with
  | zero =>
    intro i hi c S f6 a1 a2 a3 a4 a5
    exact pk_le 128 i (fun _ => nm_r (nI_1 T) (P c S f6 a1 a2 a3 a4 (fun z r hr => a5 z r (by omega)))) (fun e => absurd e (by omega))
  | succ d ih =>
    intro i hi c S f6 a1 a2 a3 a4 a5
    have hl : i < 128 := by omega
    refine pk_le 128 i (fun e => absurd e (by omega)) (fun _ => ⟨vp_in_nI hl (by decide), ?_⟩)
    cases hh : S i with
    | false =>
      refine br_t (zs_EF a1 hl hh) (nm_r (nI_1 i) (ih (i + 1) (by omega) c S f6 a1 a2 a3 a4 (fun z r hr e => ?_)))
      by_cases y : r = i
      · subst y; rw [hh] at e; exact nomatch e
      · exact a5 z r (by omega) e
    | true =>
      refine br_f (zs_ET a1 hl hh) (zy_spread G hl (zs_nR1 hl a2 hh) a1 a2 fun c1 S1 g6 b1 b2 b3 b4 b5 b6 => ?_)
      cases c1 with
      | true =>
        rw [if_pos rfl] at b6
        refine br_f (by decide) (nm_r (nI_1 i) (ih (i + 1) (by omega) true S1 g6 b1 b2 (fun q hq nq => b3 q (a3 q hq nq)) ?_ (fun z => nomatch z)))
        rw [if_pos rfl]
        omega
      | false =>
        have eS : S1 = S := b5 rfl
        subst eS
        refine br_t rfl (nm_r (nI_1 i) (ih (i + 1) (by omega) c S1 g6 b1 b2 a3 a4 (fun z r hr e => ?_)))
        by_cases y : r = i
        · subst y; exact b4
        · exact a5 z r (by omega) e
theorem zy_n53 {post : Int32 → SY → Prop} {p o : Nat} (G : zs_Gd K A B) (ho : o < 128) (P : ∀ S f6, zs_nL K A B p S → post (zs_b (S o)) (zs_N K, zs_N A, zs_N B, f4, f5, f6, f7, f8)) : ∀ d T, T + d = 128 → ∀ c S f6, zs_E f6 S → zs_nB K A B p S → (∀ q, q < 128 → zs_need K A B p q = true → S q = true) → (c = true → T ≤ zs_cn S 128) → (c = false → ∀ r, r < 128 → S r = true → ∀ q, q < 128 → zs_need K A B r q = true → S q = true) → wY_needs_53 post (nI o) (d + 1) (zs_b c) (nI T) (zs_N K) (zs_N A) (zs_N B) f4 f5 f6 f7 f8 := by
  have fin : ∀ S f6, zs_E f6 S → zs_nL K A B p S → wY_needs_111 post (nI o) (zs_N K) (zs_N A) (zs_N B) f4 f5 f6 f7 f8 := by
    intro S f6 a1 L
    refine ⟨vp_in_nI ho (by decide), ?_⟩
    have Q := P S f6 L
    cases hh : S o with
    | false => rw [hh] at Q; exact br_t (zs_EF a1 ho hh) Q
    | true => rw [hh] at Q; exact br_f (zs_ET a1 ho hh) Q
  intro d
  induction d with
  | zero =>
    intro T hT c S f6 a1 a2 a3 a4 a5
    refine pk_le 128 T (fun _ => fin S f6 a1 ⟨⟨a3, ?_⟩, a2⟩) (fun e => absurd e (by omega))
    cases c with
    | false => exact a5 rfl
    | true => exact fun r hr _ q hq _ => zs_cn_all (k := 128) (by have := a4 rfl; omega) q hq
  | succ d ih =>
    intro T hT c S f6 a1 a2 a3 a4 a5
    refine pk_le 128 T (fun e => absurd e (by omega)) (fun _ => ?_)
    cases c with
    | false => exact br_t rfl (fin S f6 a1 ⟨⟨a3, a5 rfl⟩, a2⟩)
    | true =>
      refine br_f (by decide) ⟨129, zy_n70 (T := T) (p := p) G (fun c S f6 b1 b2 b3 b4 b5 => ?_) 128 0 rfl false S f6 a1 a2 a3 (a4 rfl) (fun _ r hr => absurd hr (by omega))⟩
      refine ih (T + 1) (by omega) c S f6 b1 b2 b3 (fun z => ?_) b5
      rw [if_pos z] at b4
      exact b4
theorem zy_n24 {post : Int32 → SY → Prop} {p o : Nat} (G : zs_Gd K A B) (hp : p < 128) (ho : o < 128) (P : ∀ S f6, zs_nL K A B p S → post (zs_b (S o)) (zs_N K, zs_N A, zs_N B, f4, f5, f6, f7, f8)) : ∀ d i, i + d = 128 → ∀ f6, (∀ q, q < i → f6 q = 0) → wY_needs_24 post (nI p) (nI o) (d + 1) (nI i) (zs_N K) (zs_N A) (zs_N B) f4 f5 f6 f7 f8 := by
  intro d
  induction d with
  | zero =>
    intro i hi f6 h0
    refine pk_le 128 i (fun _ => ?_) (fun e => absurd e (by omega))
    refine zy_spread (R := fun _ => false) G hp zs_nR0 (fun q hq => h0 q (by omega)) (fun C c q hq e => nomatch e) fun c S g6 b1 b2 b3 b4 b5 b6 => ⟨129, zy_n53 G ho P 128 0 rfl c S g6 b1 b2 b4 (fun _ => Nat.zero_le _) (fun z r hr e => ?_)⟩
    rw [b5 z] at e
    exact nomatch e
  | succ d ih =>
    intro i hi f6 h0
    have vi := vp_in_nI (show i < 128 by omega) (by decide : 128 < 2 ^ 31)
    refine pk_le 128 i (fun e => absurd e (by omega)) (fun _ => ⟨vi, nm_e (nm_r (nI_1 i) (ih (i + 1) (by omega) _ fun q hq => ?_))⟩)
    rw [nI_clamp (by omega)]
    by_cases z : q = i
    · subst z; rw [pk_us]; decide
    · rw [pk_un z]; exact h0 q (by omega)
end
end
section
section
variable {K A B BX BY : Nat → Nat} {h h2 : Nat → Bool} {v v2 : Nat → Nat} {f1 f2 f3 f4 f5 f6 f7 f8 g1 g2 g3 g4 g5 g6 g7 g8 : Nat → Int32}
/-! the two second parts agree where they play a role -/
def zs_Ag (K BX BY : Nat → Nat) : Prop := ∀ s, (K s = 1 ∨ K s = 5 ∨ K s = 7) ∨ BX s = BY s
theorem zs_sm {k a b c s n t m : Nat} (e : (k = 1 ∨ k = 5 ∨ k = 7) ∨ b = c) : zs_nd k a b s n t m = zs_nd k a c s n t m ∧ (∀ v, zs_rl k a b n v = zs_rl k a c n v) ∧ (∀ v, zs_vl k a b s n v = zs_vl k a c s n v) := by
  rcases e with (rfl | rfl | rfl) | rfl
  · exact ⟨rfl, fun _ => rfl, fun _ => rfl⟩
  · exact ⟨rfl, fun _ => rfl, fun _ => rfl⟩
  · exact ⟨rfl, fun _ => rfl, fun _ => rfl⟩
  · exact ⟨rfl, fun _ => rfl, fun _ => rfl⟩
theorem zs_smN (e : zs_Ag K BX BY) : zs_need K A BX = zs_need K A BY := by
  funext p q
  exact (zs_sm (e (p / 16))).1
theorem zs_smR (e : zs_Ag K BX BY) : zs_rul K A BX = zs_rul K A BY := by
  funext v p
  exact (zs_sm (t := 0) (m := 0) (s := 0) (e (p / 16))).2.1 v
theorem zs_smV (e : zs_Ag K BX BY) : zs_val K A BX = zs_val K A BY := by
  funext v p
  exact (zs_sm (t := 0) (m := 0) (e (p / 16))).2.2 v
theorem zs_smL (e : zs_Ag K BX BY) (L : zs_Lf K A BY h v) : zs_Lf K A BX h v := by
  unfold zs_Lf zs_Cl zs_Bel zs_Cl zs_All at *
  rw [zs_smN e, zs_smR e, zs_smV e]
  exact L
theorem zs_smLn {p : Nat} {R : Nat → Bool} (e : zs_Ag K BX BY) (L : zs_nL K A BY p R) : zs_nL K A BX p R := by
  unfold zs_nL zs_nB zs_nC at *
  rw [zs_smN e]
  exact L
def zs_Eq (h : Nat → Bool) (v : Nat → Nat) (h2 : Nat → Bool) (v2 : Nat → Nat) : Prop := ∀ p, p < 128 → h p = h2 p ∧ (h p = true → v p = v2 p)
theorem zy_q {post : SY → Prop} (GY : zs_Gd K A BY) (Ag : zs_Ag K BX BY) (L : zs_Lf K A BX h v) (hv : ∀ q, v2 q < 97) (P : ∀ h2 v2 f7 f8, zs_Eq h v h2 v2 → (∀ q, v2 q < 97) → post (zs_N K, zs_N A, zs_N BY, zs_B h2, zs_N v2, f6, f7, f8)) : wpY_workOut post (zs_N K, zs_N A, zs_N BY, zs_B h2, zs_N v2, f6, f7, f8) :=
  zy_work GY hv fun h2 v2 f7 f8 hv2 L2 => P h2 v2 f7 f8 (zs_uni L (zs_smL Ag L2)) hv2
/-! good numbers -/
theorem zs_not0 {x : Int32} {n : Nat} (hn : n < 2 ^ 31) (h : nI n ≤ x) : ¬ x < 0 := Int32.not_lt.mpr (Int32.le_trans (nI_pos' hn) h)
theorem zx_isT {post : Int32 → Prop} {s : Nat} (hs : s < 8) (P : post 1) : wpX_isSeries post (nI s) :=
  br_f (nI_pos (by omega)) (pk_le 8 s (fun e => absurd e (by omega)) (fun _ => P))
theorem zx_isF {post : Int32 → Prop} {x : Int32} (hx : x < 0 ∨ nI 8 ≤ x) (P : post 0) : wpX_isSeries post x := by
  rcases hx with c | c
  · exact br_t c P
  · exact br_f (zs_not0 (by decide) c) (br_t c P)
theorem zy_bdF {post : Int32 → Prop} {s : Nat} (hs : s < 8) (P : post 0) : wpY_bad post (f1, f2, f3, f4, f5, f6, f7, f8) (nI s) :=
  br_f (nI_pos (by omega)) (pk_le s 7 (fun _ => P) (fun e => absurd e (by omega)))
theorem zy_bdT {post : Int32 → Prop} {x : Int32} (hx : x < 0 ∨ nI 8 ≤ x) (P : post 1) : wpY_bad post (f1, f2, f3, f4, f5, f6, f7, f8) x := by
  rcases hx with c | c
  · exact br_t c P
  · refine br_f (zs_not0 (by decide) c) (br_f (fun z => ?_) P)
    have := Int32.le_trans c z
    exact absurd this (by decide)
theorem zs_ser (x : Int32) : (x < 0 ∨ nI 8 ≤ x) ∨ ∃ s : Nat, s < 8 ∧ x = nI s := by
  rcases pk_ix x (n := 8) (by decide) with c | c | c
  · exact Or.inl (Or.inl c)
  · exact Or.inl (Or.inr c)
  · exact Or.inr c
/-! values in front -/
def zs_fr (h : Nat → Bool) (s : Nat) : Nat → Nat → Nat
  | 0 => fun i => i
  | d + 1 => fun i => if h (16 * s + i) = true then zs_fr h s d (i + 1) else i
theorem zs_fr_p (h : Nat → Bool) (s : Nat) : ∀ d i, i ≤ zs_fr h s d i ∧ zs_fr h s d i ≤ i + d ∧ (∀ j, i ≤ j → j < zs_fr h s d i → h (16 * s + j) = true) ∧ (zs_fr h s d i < i + d → h (16 * s + zs_fr h s d i) = false) := by
  intro d
  induction d with
  | zero =>
    intro i
    refine ⟨Nat.le_refl i, Nat.le_refl i, fun j a b => ?_, fun a => ?_⟩
    · have b' : j < i := b
      omega
    · have a' : i < i + 0 := a
      omega
  | succ d ih =>
    intro i
    show i ≤ (if h (16 * s + i) = true then zs_fr h s d (i + 1) else i) ∧ (if h (16 * s + i) = true then zs_fr h s d (i + 1) else i) ≤ i + (d + 1) ∧ (∀ j, i ≤ j → j < (if h (16 * s + i) = true then zs_fr h s d (i + 1) else i) → h (16 * s + j) = true) ∧ ((if h (16 * s + i) = true then zs_fr h s d (i + 1) else i) < i + (d + 1) → h (16 * s + (if h (16 * s + i) = true then zs_fr h s d (i + 1) else i)) = false)
    by_cases c : h (16 * s + i) = true
    · rw [if_pos c]
      obtain ⟨a1, a2, a3, a4⟩ := ih (i + 1)
      refine ⟨by omega, by omega, fun j x y => ?_, fun x => a4 (by omega)⟩
      by_cases z : j = i
      · rw [z]; exact c
      · exact a3 j (by omega) y
    · rw [if_neg c]
      refine ⟨Nat.le_refl i, by omega, fun j x y => absurd y (by omega), fun _ => ?_⟩
      cases e : h (16 * s + i) with
      | false => rfl
      | true => exact absurd e c
theorem zs_fr_e {s : Nat} (hs : s < 8) (E : ∀ p, p < 128 → h p = h2 p) : ∀ d i, i + d = 16 → zs_fr h s d i = zs_fr h2 s d i := by
  intro d
  induction d with
  | zero => intro i _; rfl
  | succ d ih =>
    intro i hi
    show (if h (16 * s + i) = true then zs_fr h s d (i + 1) else i) = (if h2 (16 * s + i) = true then zs_fr h2 s d (i + 1) else i)
    rw [E (16 * s + i) (by omega), ih (i + 1) (by omega)]
theorem zx_vifL {post : Int32 → Prop} {s : Nat} (hs : s < 8) : ∀ d i, i + d = 16 → post (nI (zs_fr h s d i)) → wX_valuesInFront_2 post (nI s) f1 f2 f3 (zs_B h) f5 f6 f7 f8 (d + 1) (nI i) := by
  intro d
  induction d with
  | zero =>
    intro i hi P
    have e : i = 16 := by omega
    subst e
    exact pk_le 16 16 (fun _ => P) (fun e => absurd e (by omega))
  | succ d ih =>
    intro i hi P
    have P' : post (nI (if h (16 * s + i) = true then zs_fr h s d (i + 1) else i)) := P
    have ex : 16 * nI s + nI i = nI (16 * s + i) := zs_ix rfl
    refine pk_le 16 i (fun e => absurd e (by omega)) (fun _ => ⟨pk_in _ 128 (by omega) ex, ?_⟩)
    cases hh : h (16 * s + i) with
    | false =>
      rw [hh, if_neg (by decide)] at P'
      exact br_t (zs_hF ex (by omega) hh) P'
    | true =>
      rw [hh, if_pos rfl] at P'
      exact br_f (zs_hT ex (by omega) hh) (nm_r (nI_1 i) (ih (i + 1) (by omega) P'))
theorem zx_vif {post : Int32 → Prop} {s : Nat} (hs : s < 8) (P : post (nI (zs_fr h s 16 0))) : wpX_valuesInFront post (f1, f2, f3, zs_B h, f5, f6, f7, f8) (nI s) := ⟨17, zx_vifL hs 16 0 rfl P⟩
theorem zy_knownL {post : Int32 → SY → Prop} {s : Nat} (hs : s < 8) : ∀ d i, i + d = 16 → post (nI (zs_fr h s d i)) (f1, f2, f3, zs_B h, f5, f6, f7, f8) → wY_known_16 post (nI s) f1 f2 f3 (zs_B h) f5 f6 f7 f8 (d + 1) (nI i) := by
  intro d
  induction d with
  | zero =>
    intro i hi P
    exact pk_le 16 i (fun _ => P) (fun e => absurd e (by omega))
  | succ d ih =>
    intro i hi P
    have P' : post (nI (if h (16 * s + i) = true then zs_fr h s d (i + 1) else i)) (f1, f2, f3, zs_B h, f5, f6, f7, f8) := P
    have ex : 16 * nI s + nI i = nI (16 * s + i) := zs_ix rfl
    refine pk_le 16 i (fun e => absurd e (by omega)) (fun _ => ⟨pk_in _ 128 (by omega) ex, ?_⟩)
    cases hh : h (16 * s + i) with
    | false =>
      rw [hh, if_neg (by decide)] at P'
      exact br_t (zs_hF ex (by omega) hh) P'
    | true =>
      rw [hh, if_pos rfl] at P'
      exact br_f (zs_hT ex (by omega) hh) (nm_r (nI_1 i) (ih (i + 1) (by omega) P'))
/-! lockstep: valued, order, agreeing, sum -/
theorem zs_Eh {p : Nat} {c : Bool} (E : zs_Eq h v h2 v2) (hh : h p = c) (hp : p < 128) : h2 p = c := (E p hp).1.symm.trans hh
theorem zs_Ev {p : Nat} (E : zs_Eq h v h2 v2) (hh : h p = true) (hp : p < 128) : v2 p = v p := ((E p hp).2 hh).symm
theorem zs_lval {s : Nat} (hs : s < 8) : ∀ d i, i + d = 16 → ∀ x : Int32, ∃ r : Int32, (∀ post : Int32 → Prop, post r → wX_valued_13 post (nI s) f1 f2 f3 (zs_B h) (zs_N v) f6 f7 f8 (d + 1) x (nI i)) ∧ (∀ (h2 : Nat → Bool) (v2 : Nat → Nat) (g7 g8 : Nat → Int32), zs_Eq h v h2 v2 → ∀ post : Int32 → SY → Prop, post r (g1, g2, g3, zs_B h2, zs_N v2, g6, g7, g8) → wY_valued_18 post (nI s) g1 g2 g3 (zs_B h2) (zs_N v2) g6 g7 g8 (d + 1) x (nI i)) := by
  intro d
  induction d with
  | zero =>
    intro i hi x
    exact ⟨x, fun _ P => pk_le 16 i (fun _ => P) (fun e => absurd e (by omega)), fun h2 v2 g7 g8 E _ P => pk_le 16 i (fun _ => P) (fun e => absurd e (by omega))⟩
  | succ d ih =>
    intro i hi x
    have ex : 16 * nI s + nI i = nI (16 * s + i) := zs_ix rfl
    have vi : vp_in (16 * nI s + nI i) 128 := pk_in _ 128 (by omega) ex
    cases hh : h (16 * s + i) with
    | false =>
      obtain ⟨r, hX, hY⟩ := ih (i + 1) (by omega) x
      exact ⟨r, fun post P => pk_le 16 i (fun e => absurd e (by omega)) (fun _ => ⟨vi, br_t (zs_hF ex (by omega) hh) (nm_r (nI_1 i) (hX post P))⟩), fun h2 v2 g7 g8 E post P => pk_le 16 i (fun e => absurd e (by omega)) (fun _ => ⟨vi, br_t (zs_hF ex (by omega) (zs_Eh E hh (by omega))) (nm_r (nI_1 i) (hY h2 v2 g7 g8 E post P))⟩)⟩
    | true =>
      obtain ⟨r, hX, hY⟩ := ih (i + 1) (by omega) (x + 1)
      exact ⟨r, fun post P => pk_le 16 i (fun e => absurd e (by omega)) (fun _ => ⟨vi, br_f (zs_hT ex (by omega) hh) (nm_e (nm_r (nI_1 i) (hX post P)))⟩), fun h2 v2 g7 g8 E post P => pk_le 16 i (fun e => absurd e (by omega)) (fun _ => ⟨vi, br_f (zs_hT ex (by omega) (zs_Eh E hh (by omega))) (nm_e (nm_r (nI_1 i) (hY h2 v2 g7 g8 E post P)))⟩)⟩
theorem zs_lord {s U : Nat} (hs : s < 8) (hv : ∀ q, v q < 97) (hU : U ≤ 16) (hU1 : ∀ j, j < U → h (16 * s + j) = true) (hU2 : U < 16 → h (16 * s + U) = false) : ∀ d i, i + d = 16 → i ≤ U → ∃ r : Int32, (∀ post : Int32 → Prop, post r → wX_order_17 post (nI s) (nI U) f1 f2 f3 (zs_B h) (zs_N v) f6 f7 f8 (d + 1) (nI i)) ∧ (∀ (h2 : Nat → Bool) (v2 : Nat → Nat) (g7 g8 : Nat → Int32), zs_Eq h v h2 v2 → ∀ post : Int32 → SY → Prop, post r (g1, g2, g3, zs_B h2, zs_N v2, g6, g7, g8) → wY_order_16 post (nI s) g1 g2 g3 (zs_B h2) (zs_N v2) g6 g7 g8 (d + 1) (nI i)) := by
  intro d
  induction d with
  | zero =>
    intro i hi _
    exact ⟨-2, fun _ P => pk_le 16 i (fun _ => P) (fun e => absurd e (by omega)), fun h2 v2 g7 g8 E _ P => pk_le 16 i (fun _ => P) (fun e => absurd e (by omega))⟩
  | succ d ih =>
    intro i hi hiU
    have ex : 16 * nI s + nI i = nI (16 * s + i) := zs_ix rfl
    have vi : vp_in (16 * nI s + nI i) 128 := pk_in _ 128 (by omega) ex
    by_cases c : U ≤ i
    · have z : U = i := by omega
      have hh := hU2 (by omega)
      rw [z] at hh
      exact ⟨-2, fun post P => pk_le 16 i (fun e => absurd e (by omega)) (fun _ => pk_le U i (fun _ => P) (fun e => absurd e (by omega))), fun h2 v2 g7 g8 E post P => pk_le 16 i (fun e => absurd e (by omega)) (fun _ => ⟨vi, br_t (zs_hF ex (by omega) (zs_Eh E hh (by omega))) P⟩)⟩
    · have hh := hU1 i (by omega)
      have b1 := hv (16 * s + i)
      have k1 : zs_N v (16 * nI s + nI i).toNatClampNeg = nI (v (16 * s + i)) := zs_at ex (by omega)
      have k2 : ∀ {h2 : Nat → Bool} {v2 : Nat → Nat}, zs_Eq h v h2 v2 → zs_N v2 (16 * nI s + nI i).toNatClampNeg = nI (v (16 * s + i)) := fun E => by rw [zs_at ex (by omega), zs_Ev E hh (by omega)]
      by_cases c0 : v (16 * s + i) = 0
      · obtain ⟨r, hX, hY⟩ := ih (i + 1) (by omega) (by omega)
        exact ⟨r, fun post P => pk_le 16 i (fun e => absurd e (by omega)) (fun _ => pk_le U i (fun e => absurd e (by omega)) (fun _ => ⟨vi, pk_eq (v (16 * s + i)) 0 (fun _ => nm_r (nI_1 i) (hX post P)) (fun z => absurd c0 z) k1⟩)), fun h2 v2 g7 g8 E post P => pk_le 16 i (fun e => absurd e (by omega)) (fun _ => ⟨vi, br_f (zs_hT ex (by omega) (zs_Eh E hh (by omega))) ⟨vi, pk_eq (v (16 * s + i)) 0 (fun _ => nm_r (nI_1 i) (hY h2 v2 g7 g8 E post P)) (fun z => absurd c0 z) (k2 E)⟩⟩)⟩
      · exact ⟨nI i, fun post P => pk_le 16 i (fun e => absurd e (by omega)) (fun _ => pk_le U i (fun e => absurd e (by omega)) (fun _ => ⟨vi, pk_eq (v (16 * s + i)) 0 (fun z => absurd z c0) (fun _ => P) k1⟩)), fun h2 v2 g7 g8 E post P => pk_le 16 i (fun e => absurd e (by omega)) (fun _ => ⟨vi, br_f (zs_hT ex (by omega) (zs_Eh E hh (by omega))) ⟨vi, pk_eq (v (16 * s + i)) 0 (fun z => absurd z c0) (fun _ => P) (k2 E)⟩⟩)⟩
theorem zs_lagr {s t : Nat} (hs : s < 8) (ht : t < 8) (hv : ∀ q, v q < 97) : ∀ d i, i + d = 16 → ∃ r : Int32, (∀ post : Int32 → Prop, post r → wX_agreeing_18 post (nI s) (nI t) f1 f2 f3 (zs_B h) (zs_N v) f6 f7 f8 (d + 1) (nI i)) ∧ (∀ (h2 : Nat → Bool) (v2 : Nat → Nat) (g7 g8 : Nat → Int32), zs_Eq h v h2 v2 → ∀ post : Int32 → SY → Prop, post r (g1, g2, g3, zs_B h2, zs_N v2, g6, g7, g8) → wY_agreeing_24 post (nI s) (nI t) g1 g2 g3 (zs_B h2) (zs_N v2) g6 g7 g8 (d + 1) (nI i)) := by
  intro d
  induction d with
  | zero =>
    intro i hi
    exact ⟨16, fun _ P => pk_le 16 i (fun _ => P) (fun e => absurd e (by omega)), fun h2 v2 g7 g8 E _ P => pk_le 16 i (fun _ => P) (fun e => absurd e (by omega))⟩
  | succ d ih =>
    intro i hi
    have ex : 16 * nI s + nI i = nI (16 * s + i) := zs_ix rfl
    have ey : 16 * nI t + nI i = nI (16 * t + i) := zs_ix rfl
    have vx : vp_in (16 * nI s + nI i) 128 := pk_in _ 128 (by omega) ex
    have vy : vp_in (16 * nI t + nI i) 128 := pk_in _ 128 (by omega) ey
    cases hh : h (16 * s + i) with
    | false =>
      exact ⟨nI i, fun post P => pk_le 16 i (fun e => absurd e (by omega)) (fun _ => nm_e (nm_e ⟨vx, br_t (zs_hF ex (by omega) hh) P⟩)), fun h2 v2 g7 g8 E post P => pk_le 16 i (fun e => absurd e (by omega)) (fun _ => ⟨vx, br_t (zs_hF ex (by omega) (zs_Eh E hh (by omega))) P⟩)⟩
    | true =>
      cases hh' : h (16 * t + i) with
      | false =>
        exact ⟨nI i, fun post P => pk_le 16 i (fun e => absurd e (by omega)) (fun _ => nm_e (nm_e ⟨vx, br_f (zs_hT ex (by omega) hh) ⟨vy, br_t (zs_hF ey (by omega) hh') P⟩⟩)), fun h2 v2 g7 g8 E post P => pk_le 16 i (fun e => absurd e (by omega)) (fun _ => ⟨vx, br_f (zs_hT ex (by omega) (zs_Eh E hh (by omega))) ⟨vy, br_t (zs_hF ey (by omega) (zs_Eh E hh' (by omega))) P⟩⟩)⟩
      | true =>
        have b1 := hv (16 * s + i)
        have b2 := hv (16 * t + i)
        have k1 : zs_N v (16 * nI s + nI i).toNatClampNeg = nI (v (16 * s + i)) := zs_at ex (by omega)
        have k2 : zs_N v (16 * nI t + nI i).toNatClampNeg = nI (v (16 * t + i)) := zs_at ey (by omega)
        have k3 : ∀ {h2 : Nat → Bool} {v2 : Nat → Nat}, zs_Eq h v h2 v2 → zs_N v2 (16 * nI s + nI i).toNatClampNeg = nI (v (16 * s + i)) := fun E => by rw [zs_at ex (by omega), zs_Ev E hh (by omega)]
        have k4 : ∀ {h2 : Nat → Bool} {v2 : Nat → Nat}, zs_Eq h v h2 v2 → zs_N v2 (16 * nI t + nI i).toNatClampNeg = nI (v (16 * t + i)) := fun E => by rw [zs_at ey (by omega), zs_Ev E hh' (by omega)]
        by_cases c : v (16 * s + i) = v (16 * t + i)
        · obtain ⟨r, hX, hY⟩ := ih (i + 1) (by omega)
          exact ⟨r, fun post P => pk_le 16 i (fun e => absurd e (by omega)) (fun _ => nm_e (nm_e ⟨vx, br_f (zs_hT ex (by omega) hh) ⟨vy, br_f (zs_hT ey (by omega) hh') ⟨vx, vy, pk_eq (v (16 * s + i)) (v (16 * t + i)) (fun _ => nm_r (nI_1 i) (hX post P)) (fun z => absurd c z) k1 k2⟩⟩⟩)), fun h2 v2 g7 g8 E post P => pk_le 16 i (fun e => absurd e (by omega)) (fun _ => ⟨vx, br_f (zs_hT ex (by omega) (zs_Eh E hh (by omega))) ⟨vy, br_f (zs_hT ey (by omega) (zs_Eh E hh' (by omega))) ⟨vx, vy, pk_eq (v (16 * s + i)) (v (16 * t + i)) (fun _ => nm_r (nI_1 i) (hY h2 v2 g7 g8 E post P)) (fun z => absurd c z) (k3 E) (k4 E)⟩⟩⟩)⟩
        · exact ⟨nI i, fun post P => pk_le 16 i (fun e => absurd e (by omega)) (fun _ => nm_e (nm_e ⟨vx, br_f (zs_hT ex (by omega) hh) ⟨vy, br_f (zs_hT ey (by omega) hh') ⟨vx, vy, pk_eq (v (16 * s + i)) (v (16 * t + i)) (fun z => absurd z c) (fun _ => P) k1 k2⟩⟩⟩)), fun h2 v2 g7 g8 E post P => pk_le 16 i (fun e => absurd e (by omega)) (fun _ => ⟨vx, br_f (zs_hT ex (by omega) (zs_Eh E hh (by omega))) ⟨vy, br_f (zs_hT ey (by omega) (zs_Eh E hh' (by omega))) ⟨vx, vy, pk_eq (v (16 * s + i)) (v (16 * t + i)) (fun z => absurd z c) (fun _ => P) (k3 E) (k4 E)⟩⟩⟩)⟩
theorem zs_lsum {s j : Nat} (hs : s < 8) (hj : j < 16) : ∀ d i, i + d = j + 1 → ∀ x : Int32, ∃ r : Int32, (∀ post : Int32 → Prop, post r → wX_sum_33 post (nI s) (nI j) f1 f2 f3 (zs_B h) (zs_N v) f6 f7 f8 (d + 1) x (nI i)) ∧ (∀ (h2 : Nat → Bool) (v2 : Nat → Nat) (g7 g8 : Nat → Int32), zs_Eq h v h2 v2 → ∀ post : Int32 → SY → Prop, post r (g1, g2, g3, zs_B h2, zs_N v2, g6, g7, g8) → wY_sum_38 post (nI s) (nI j) g1 g2 g3 (zs_B h2) (zs_N v2) g6 g7 g8 (d + 1) x (nI i)) := by
  intro d
  induction d with
  | zero =>
    intro i hi x
    exact ⟨x - x / 97 * 97, fun _ P => pk_lt j i (fun _ => ⟨by decide, P⟩) (fun e => absurd e (by omega)), fun h2 v2 g7 g8 E _ P => pk_lt j i (fun _ => ⟨by decide, P⟩) (fun e => absurd e (by omega))⟩
  | succ d ih =>
    intro i hi x
    have ex : 16 * nI s + nI i = nI (16 * s + i) := zs_ix rfl
    have vi : vp_in (16 * nI s + nI i) 128 := pk_in _ 128 (by omega) ex
    cases hh : h (16 * s + i) with
    | false =>
      exact ⟨-3, fun post P => pk_lt j i (fun e => absurd e (by omega)) (fun _ => ⟨vi, br_t (zs_hF ex (by omega) hh) P⟩), fun h2 v2 g7 g8 E post P => pk_lt j i (fun e => absurd e (by omega)) (fun _ => ⟨vi, br_t (zs_hF ex (by omega) (zs_Eh E hh (by omega))) P⟩)⟩
    | true =>
      obtain ⟨r, hX, hY⟩ := ih (i + 1) (by omega) (x + nI (v (16 * s + i)))
      have k1 : x + zs_N v (16 * nI s + nI i).toNatClampNeg = x + nI (v (16 * s + i)) := by rw [zs_at ex (by omega)]
      have k2 : ∀ {h2 : Nat → Bool} {v2 : Nat → Nat}, zs_Eq h v h2 v2 → x + zs_N v2 (16 * nI s + nI i).toNatClampNeg = x + nI (v (16 * s + i)) := fun E => by rw [zs_at ex (by omega), zs_Ev E hh (by omega)]
      exact ⟨r, fun post P => pk_lt j i (fun e => absurd e (by omega)) (fun _ => ⟨vi, br_f (zs_hT ex (by omega) hh) ⟨vi, nm_r k1 (nm_r (nI_1 i) (hX post P))⟩⟩), fun h2 v2 g7 g8 E post P => pk_lt j i (fun e => absurd e (by omega)) (fun _ => ⟨vi, br_f (zs_hT ex (by omega) (zs_Eh E hh (by omega))) ⟨vi, nm_r (k2 E) (nm_r (nI_1 i) (hY h2 v2 g7 g8 E post P))⟩⟩)⟩
/-! evaluate -/
def zs_wt (x : Nat) : Nat → Nat
  | 0 => 1
  | n + 1 => zs_wt x n * x % 97
def zs_pl (c : Nat → Nat) (x : Nat) : Nat → Nat
  | 0 => 0
  | n + 1 => (zs_pl c x n + c n * zs_wt x n) % 97
def zs_ho (c : Nat → Nat) (x : Nat) : Nat → Nat → Nat
  | 0 => fun t => t
  | n + 1 => fun t => zs_ho c x n ((t * x + c n) % 97)
theorem zs_mm (a b e : Nat) : (a % 97 * b + e) % 97 = (a * b + e) % 97 := by
  have q : a * b = 97 * (a / 97 * b) + a % 97 * b := by
    rw [← Nat.mul_assoc, ← Nat.add_mul, Nat.div_add_mod]
  rw [q]
  generalize a / 97 * b = Y
  generalize a % 97 * b = X
  omega
theorem zs_wt_lt (x n : Nat) : zs_wt x n < 97 := by
  cases n with
  | zero => exact (by decide : 1 < 97)
  | succ n => exact Nat.mod_lt _ (by decide)
theorem zs_pl_lt (c : Nat → Nat) (x n : Nat) : zs_pl c x n < 97 := by
  cases n with
  | zero => exact (by decide : 0 < 97)
  | succ n => exact Nat.mod_lt _ (by decide)
theorem zs_ho_e (c : Nat → Nat) (x : Nat) : ∀ n t, zs_ho c x n t % 97 = (t * zs_wt x n + zs_pl c x n) % 97 := by
  intro n
  induction n with
  | zero =>
    intro t
    show t % 97 = (t * 1 + 0) % 97
    rw [Nat.mul_one, Nat.add_zero]
  | succ n ih =>
    intro t
    show zs_ho c x n ((t * x + c n) % 97) % 97 = (t * (zs_wt x n * x % 97) + (zs_pl c x n + c n * zs_wt x n) % 97) % 97
    rw [ih, zs_mm, Nat.mul_comm t (zs_wt x n * x % 97), zs_mm]
    have e1 : (t * x + c n) * zs_wt x n = zs_wt x n * x * t + c n * zs_wt x n := by
      rw [Nat.add_mul, Nat.mul_comm (zs_wt x n) x, Nat.mul_comm (x * zs_wt x n) t, Nat.mul_assoc]
    rw [e1]
    generalize zs_wt x n * x * t = X
    generalize c n * zs_wt x n = Y
    generalize zs_pl c x n = Z
    omega
theorem zs_ho_lt (c : Nat → Nat) (x : Nat) : ∀ n t, t < 97 → zs_ho c x n t < 97 := by
  intro n
  induction n with
  | zero => intro t h; exact h
  | succ n ih => intro t h; exact ih _ (Nat.mod_lt _ (by decide))
theorem zs_ho_pl (c : Nat → Nat) (x n : Nat) : zs_ho c x n 0 = zs_pl c x n := by
  have e := zs_ho_e c x n 0
  rw [Nat.zero_mul, Nat.zero_add, Nat.mod_eq_of_lt (zs_ho_lt c x n 0 (by decide)), Nat.mod_eq_of_lt (zs_pl_lt c x n)] at e
  exact e
theorem zs_pl_c {c d : Nat → Nat} (x : Nat) : ∀ n, (∀ i, i < n → c i = d i) → zs_pl c x n = zs_pl d x n := by
  intro n
  induction n with
  | zero => intro _; rfl
  | succ n ih =>
    intro e
    show (zs_pl c x n + c n * zs_wt x n) % 97 = (zs_pl d x n + d n * zs_wt x n) % 97
    rw [ih (fun i hi => e i (by omega)), e n (by omega)]
theorem zx_ev {post : Int32 → Prop} {s x : Nat} (hs : s < 8) (hx : x < 97) (hv : ∀ q, v q < 97) : ∀ n t, n ≤ 16 → t < 97 → post (nI (zs_ho (fun i => v (16 * s + i)) x n t)) → wX_evaluate_48 post (nI s) (nI x) f1 f2 f3 f4 (zs_N v) f6 f7 f8 (n + 1) (nI t) (nI n + (-1)) := by
  intro n
  induction n with
  | zero =>
    intro t hn ht P
    exact br_t (by decide) P
  | succ n ih =>
    intro t hn ht P
    have ex : 16 * nI s + nI n = nI (16 * s + n) := zs_ix rfl
    have hb := zs_mul96 ht hx
    have hc := hv (16 * s + n)
    rw [pk_m1]
    refine br_f (nI_pos (by omega)) ⟨pk_in _ 128 (by omega) ex, by decide, nm_r (e' := nI ((t * x + v (16 * s + n)) % 97)) ?_ (nm_e (ih _ (by omega) (Nat.mod_lt _ (by decide)) P))⟩
    rw [zs_at ex (by omega), pk_mul, nI_add, zs_r97 (by omega)]
theorem zy_evT {post : Int32 → SY → Prop} {s m : Nat} {z : Int32} (hs : s < 8) (hm : m ≤ 16) (hv : ∀ q, v q < 97) (ha : ∀ i, i < m → h (16 * s + i) = true) (P : post (nI (zs_pl (fun i => v (16 * s + i)) (zs_md z) m)) (f1, f2, f3, zs_B h, zs_N v, f6, f7, f8)) : ∀ d i, i + d = m → wY_evaluate_36 post (nI s) (nI m) z f1 f2 f3 (zs_B h) (zs_N v) f6 f7 f8 (d + 1) (nI (zs_pl (fun i => v (16 * s + i)) (zs_md z) i)) (nI (zs_wt (zs_md z) i)) (nI i) := by
  intro d
  induction d with
  | zero =>
    intro i hi
    have e : i = m := by omega
    subst e
    exact pk_le i i (fun _ => P) (fun e => absurd e (by omega))
  | succ d ih =>
    intro i hi
    have ex : 16 * nI s + nI i = nI (16 * s + i) := zs_ix rfl
    have vi : vp_in (16 * nI s + nI i) 128 := pk_in _ 128 (by omega) ex
    have b1 := zs_mul96 (hv (16 * s + i)) (zs_wt_lt (zs_md z) i)
    have b2 := zs_pl_lt (fun i => v (16 * s + i)) (zs_md z) i
    have b3 := zs_mul96 (zs_wt_lt (zs_md z) i) (zs_md_lt z)
    refine pk_le m i (fun e => absurd e (by omega)) (fun _ => ⟨vi, br_f (zs_hT ex (by omega) (ha i (by omega))) ⟨vi, by decide, nm_r (e' := nI (zs_pl (fun i => v (16 * s + i)) (zs_md z) (i + 1))) ?_ (zy_red z ⟨by decide, nm_r (e' := nI (zs_wt (zs_md z) (i + 1))) ?_ (nm_r (nI_1 i) (ih (i + 1) (by omega)))⟩)⟩⟩)
    · rw [zs_at ex (by omega), pk_mul, nI_add, zs_r97 (by omega)]
      rfl
    · rw [pk_mul, zs_r97 (by omega)]
      rfl
theorem zy_evF {post : Int32 → SY → Prop} {s m U : Nat} {z : Int32} (hs : s < 8) (hm : m ≤ 16) (hU : U < m) (hh : h (16 * s + U) = false) (P : post (-3) (f1, f2, f3, zs_B h, zs_N v, f6, f7, f8)) : ∀ d i, i + d = U → ∀ x y : Int32, wY_evaluate_36 post (nI s) (nI m) z f1 f2 f3 (zs_B h) (zs_N v) f6 f7 f8 (d + 1) x y (nI i) := by
  intro d
  induction d with
  | zero =>
    intro i hi x y
    have ex : 16 * nI s + nI i = nI (16 * s + i) := zs_ix rfl
    have e : i = U := by omega
    subst e
    exact pk_le m i (fun e => absurd e (by omega)) (fun _ => ⟨pk_in _ 128 (by omega) ex, br_t (zs_hF ex (by omega) hh) P⟩)
  | succ d ih =>
    intro i hi x y
    have ex : 16 * nI s + nI i = nI (16 * s + i) := zs_ix rfl
    have vi : vp_in (16 * nI s + nI i) 128 := pk_in _ 128 (by omega) ex
    refine pk_le m i (fun e => absurd e (by omega)) (fun _ => ⟨vi, ?_⟩)
    cases hi2 : h (16 * s + i) with
    | false => exact br_t (zs_hF ex (by omega) hi2) P
    | true => exact br_f (zs_hT ex (by omega) hi2) ⟨vi, by decide, nm_e (zy_red z ⟨by decide, nm_e (nm_r (nI_1 i) (ih (i + 1) (by omega) _ _))⟩)⟩
/-! define -/
theorem zx_fst {post : Int32 → Prop} {k : Nat} (hk : k ≤ 9) (P : post (zs_b (decide (2 ≤ k)))) : wpX_firstPartIsSeries post (nI k) := by
  refine pk_eq k 0 (fun e => ?_) (fun e => pk_eq k 1 (fun e2 => ?_) (fun e2 => ?_))
  · rw [decide_eq_false (by omega)] at P; exact P
  · rw [decide_eq_false (by omega)] at P; exact P
  · rw [decide_eq_true (by omega)] at P; exact P
theorem zx_snd {post : Int32 → Prop} {k : Nat} (hk : k ≤ 9) (P : post (zs_b (decide (k = 2 ∨ k = 3 ∨ k = 9)))) : wpX_secondPartIsSeries post (nI k) := by
  refine pk_eq k 2 (fun e => ?_) (fun e => pk_eq k 3 (fun e2 => ?_) (fun e2 => pk_eq k 9 (fun e3 => ?_) (fun e3 => ?_)))
  · rw [decide_eq_true (by omega)] at P; exact P
  · rw [decide_eq_true (by omega)] at P; exact P
  · rw [decide_eq_true (by omega)] at P; exact P
  · rw [decide_eq_false (by omega)] at P; exact P
theorem zx_num {post : Int32 → Prop} {k : Nat} (hk : k ≤ 9) (P : post (zs_b (decide (k = 0 ∨ k = 4 ∨ k = 6 ∨ k = 8)))) : wpX_secondPartIsNumber post (nI k) := by
  refine pk_eq k 0 (fun e => ?_) (fun e => pk_eq k 4 (fun e2 => ?_) (fun e2 => pk_eq k 6 (fun e3 => ?_) (fun e3 => pk_eq k 8 (fun e4 => ?_) (fun e4 => ?_))))
  · rw [decide_eq_true (by omega)] at P; exact P
  · rw [decide_eq_true (by omega)] at P; exact P
  · rw [decide_eq_true (by omega)] at P; exact P
  · rw [decide_eq_true (by omega)] at P; exact P
  · rw [decide_eq_false (by omega)] at P; exact P
/-- the second part that X keeps -/
def zs_bX (k : Nat) (y : Int32) : Nat := if k = 0 ∨ k = 4 ∨ k = 6 ∨ k = 8 then zs_md y else 0
theorem zx_d95 {post : Int32 → SX → Prop} {s k a b : Nat} {x6 x7 y : Int32} (hs : s < 8) (hk : k ≤ 9) (P : ∀ u, u = zs_un B s b → wX_define_134 post x7 f1 (zs_N (zs_un A s a)) (zs_N u) f4 f5 f6 f7 f8) (h1 : k = 2 ∨ k = 3 ∨ k = 9 → x6 = 1 ∧ y = nI b) (h0 : ¬ (k = 2 ∨ k = 3 ∨ k = 9) → x6 = 0 ∧ b = zs_bX k y) : wX_define_95 post (nI s) (nI k) y x6 x7 (nI a) (nI s) f1 (zs_N A) (zs_N B) f4 f5 f6 f7 f8 := by
  have ei := vp_in_nI hs (by decide : 8 < 2 ^ 31)
  have e1 : upd (zs_N A) (nI s).toNatClampNeg (nI a) = zs_N (zs_un A s a) := by rw [nI_clamp (by omega)]; exact zs_updN _ _ _
  have e2 : ∀ c, upd (zs_N B) (nI s).toNatClampNeg (nI c) = zs_N (zs_un B s c) := fun c => by rw [nI_clamp (by omega)]; exact zs_updN _ _ _
  refine ⟨ei, nm_r e1 ?_⟩
  by_cases c : k = 2 ∨ k = 3 ∨ k = 9
  · obtain ⟨rfl, rfl⟩ := h1 c
    exact br_f (by decide) ⟨ei, nm_r (e2 b) (P _ rfl)⟩
  · obtain ⟨rfl, eb⟩ := h0 c
    refine br_t rfl (zx_num hk ?_)
    by_cases d : k = 0 ∨ k = 4 ∨ k = 6 ∨ k = 8
    · have e : b = zs_md y := by rw [eb]; exact if_pos d
      rw [decide_eq_true d]
      exact br_f (by decide) (zx_red y ⟨ei, nm_r (e2 _) (P _ (by rw [e]))⟩)
    · have e : b = 0 := by rw [eb]; exact if_neg d
      rw [decide_eq_false d]
      exact br_t rfl ⟨ei, nm_r (e2 0) (P _ (by rw [e]))⟩
theorem zx_d65 {post : Int32 → SX → Prop} {s k a b : Nat} {x3 x5 x6 y : Int32} (G : zs_Gd (zs_un K s k) (zs_un A s a) (zs_un B s b)) (hv : ∀ q, v q < 97) (hs : s < 8) (hk : k ≤ 9) (h51 : 2 ≤ k → x5 = 1 ∧ x3 = nI a) (h50 : ¬ 2 ≤ k → x5 = 0 ∧ a = 0) (h1 : k = 2 ∨ k = 3 ∨ k = 9 → x6 = 1 ∧ y = nI b) (h0 : ¬ (k = 2 ∨ k = 3 ∨ k = 9) → x6 = 0 ∧ b = zs_bX k y) (P : ∀ h v f6, (∀ q, v q < 97) → zs_Lf (zs_un K s k) (zs_un A s a) (zs_un B s b) h v → post (nI (K s)) (zs_N (zs_un K s k), zs_N (zs_un A s a), zs_N (zs_un B s b), zs_B h, zs_N v, f6, f7, f8)) : wX_define_65 post (nI s) (nI k) x3 y x5 x6 (zs_N K) (zs_N A) (zs_N B) (zs_B h) (zs_N v) f6 f7 f8 := by
  have ei := vp_in_nI hs (by decide : 8 < 2 ^ 31)
  have e1 : upd (zs_N K) (nI s).toNatClampNeg (nI k) = zs_N (zs_un K s k) := by rw [nI_clamp (by omega)]; exact zs_updN _ _ _
  have W : ∀ u, u = zs_un B s b → wX_define_134 post (nI (K s)) (zs_N (zs_un K s k)) (zs_N (zs_un A s a)) (zs_N u) (zs_B h) (zs_N v) f6 f7 f8 := fun u hu => by
    subst hu
    exact zx_find G hv P
  refine ⟨ei, nm_r (zs_at rfl (by omega)) ⟨ei, nm_r e1 ?_⟩⟩
  by_cases c : 2 ≤ k
  · obtain ⟨rfl, rfl⟩ := h51 c
    exact br_f (by decide) (zx_d95 hs hk W h1 h0)
  · obtain ⟨rfl, rfl⟩ := h50 c
    exact br_t rfl (zx_d95 (a := 0) hs hk W h1 h0)
theorem zx_d43 {post : Int32 → SX → Prop} {s k a b : Nat} {x3 x5 y : Int32} (G : zs_Gd (zs_un K s k) (zs_un A s a) (zs_un B s b)) (hv : ∀ q, v q < 97) (hs : s < 8) (hk : k ≤ 9) (h51 : 2 ≤ k → x5 = 1 ∧ x3 = nI a) (h50 : ¬ 2 ≤ k → x5 = 0 ∧ a = 0) (h1 : k = 2 ∨ k = 3 ∨ k = 9 → y = nI b ∧ b < 8) (h0 : ¬ (k = 2 ∨ k = 3 ∨ k = 9) → b = zs_bX k y) (P : ∀ h v f6, (∀ q, v q < 97) → zs_Lf (zs_un K s k) (zs_un A s a) (zs_un B s b) h v → post (nI (K s)) (zs_N (zs_un K s k), zs_N (zs_un A s a), zs_N (zs_un B s b), zs_B h, zs_N v, f6, f7, f8)) : wX_define_43 post (nI s) (nI k) x3 y x5 (zs_N K) (zs_N A) (zs_N B) (zs_B h) (zs_N v) f6 f7 f8 := by
  refine zx_snd hk ?_
  by_cases c : k = 2 ∨ k = 3 ∨ k = 9
  · obtain ⟨rfl, hb⟩ := h1 c
    rw [decide_eq_true c]
    exact br_f (by decide) (zx_isT hb (br_f (by decide) (zx_d65 G hv hs hk h51 h50 (fun _ => ⟨rfl, rfl⟩) (fun z => absurd c z) P)))
  · rw [decide_eq_false c]
    exact br_t rfl (zx_d65 G hv hs hk h51 h50 (fun z => absurd z c) (fun _ => ⟨rfl, h0 c⟩) P)
theorem zx_def {post : Int32 → SX → Prop} {s k a b : Nat} {x3 y : Int32} (G : zs_Gd (zs_un K s k) (zs_un A s a) (zs_un B s b)) (hv : ∀ q, v q < 97) (hs : s < 8) (hk : k ≤ 9) (h51 : 2 ≤ k → x3 = nI a ∧ a < 8) (h50 : ¬ 2 ≤ k → a = 0) (h1 : k = 2 ∨ k = 3 ∨ k = 9 → y = nI b ∧ b < 8) (h0 : ¬ (k = 2 ∨ k = 3 ∨ k = 9) → b = zs_bX k y) (P : ∀ h v f6, (∀ q, v q < 97) → zs_Lf (zs_un K s k) (zs_un A s a) (zs_un B s b) h v → post (nI (K s)) (zs_N (zs_un K s k), zs_N (zs_un A s a), zs_N (zs_un B s b), zs_B h, zs_N v, f6, f7, f8)) : wpX_define post (zs_N K, zs_N A, zs_N B, zs_B h, zs_N v, f6, f7, f8) (nI s) (nI k) x3 y := by
  unfold wpX_define
  dsimp only
  refine zx_isT hs ?_
  refine br_f (by decide) (br_f (nI_pos (by omega)) (pk_le k 9 (fun _ => zx_fst hk ?_) (fun e => absurd e (by omega))))
  by_cases c : 2 ≤ k
  · obtain ⟨rfl, ha⟩ := h51 c
    rw [decide_eq_true c]
    exact br_f (by decide) (zx_isT ha (br_f (by decide) (zx_d43 G hv hs hk (fun _ => ⟨rfl, rfl⟩) (fun z => absurd c z) h1 h0 P)))
  · rw [decide_eq_false c]
    exact br_t rfl (zx_d43 G hv hs hk (fun z => absurd z c) (fun _ => ⟨rfl, h50 c⟩) h1 h0 P)
theorem zx_def3 {post : Int32 → SX → Prop} {s k : Nat} {x3 y : Int32} (hs : s < 8) (hk : k ≤ 9) (c : 2 ≤ k) (hx : x3 < 0 ∨ nI 8 ≤ x3) (P : post (-3) (f1, f2, f3, f4, f5, f6, f7, f8)) : wpX_define post (f1, f2, f3, f4, f5, f6, f7, f8) (nI s) (nI k) x3 y := by
  unfold wpX_define
  dsimp only
  refine zx_isT hs ?_
  refine br_f (by decide) (br_f (nI_pos (by omega)) (pk_le k 9 (fun _ => zx_fst hk ?_) (fun e => absurd e (by omega))))
  rw [decide_eq_true c]
  exact br_f (by decide) (zx_isF hx (br_t rfl P))
theorem zx_def4 {post : Int32 → SX → Prop} {s k a : Nat} {y : Int32} (hs : s < 8) (hk : k ≤ 9) (c : k = 2 ∨ k = 3 ∨ k = 9) (ha : a < 8) (hx : y < 0 ∨ nI 8 ≤ y) (P : post (-4) (f1, f2, f3, f4, f5, f6, f7, f8)) : wpX_define post (f1, f2, f3, f4, f5, f6, f7, f8) (nI s) (nI k) (nI a) y := by
  unfold wpX_define
  dsimp only
  refine zx_isT hs ?_
  refine br_f (by decide) (br_f (nI_pos (by omega)) (pk_le k 9 (fun _ => zx_fst hk ?_) (fun e => absurd e (by omega))))
  rw [decide_eq_true (by omega)]
  refine br_f (by decide) (zx_isT ha (br_f (by decide) (zx_snd hk ?_)))
  rw [decide_eq_true c]
  exact br_f (by decide) (zx_isF hx (br_t rfl P))
theorem zy_d79 {post : Int32 → SY → Prop} {s k a b : Nat} {x3 x5 y : Int32} (hs : s < 8) (hk : k ≤ 9) (h51 : 2 ≤ k → x3 = nI a) (h50 : ¬ 2 ≤ k → a = 0) (h1 : k = 2 ∨ k = 3 ∨ k = 9 → x5 = 1 ∧ y = nI b) (h0 : ¬ (k = 2 ∨ k = 3 ∨ k = 9) → x5 = 0 ∧ b = zs_md y) (P : post (nI (K s)) (zs_N (zs_un K s k), zs_N (zs_un A s a), zs_N (zs_un B s b), f4, f5, f6, f7, f8)) : wY_define_79 post (nI s) (nI k) x3 y x5 (zs_N K) (zs_N A) (zs_N B) f4 f5 f6 f7 f8 := by
  have ei := vp_in_nI hs (by decide : 8 < 2 ^ 31)
  have e1 : upd (zs_N K) (nI s).toNatClampNeg (nI k) = zs_N (zs_un K s k) := by rw [nI_clamp (by omega)]; exact zs_updN _ _ _
  have e2 : upd (zs_N A) (nI s).toNatClampNeg (nI a) = zs_N (zs_un A s a) := by rw [nI_clamp (by omega)]; exact zs_updN _ _ _
  have e3 : upd (zs_N B) (nI s).toNatClampNeg (nI b) = zs_N (zs_un B s b) := by rw [nI_clamp (by omega)]; exact zs_updN _ _ _
  have W : wY_define_109 post (nI s) y x5 (nI (K s)) (nI a) (nI s) (zs_N (zs_un K s k)) (zs_N A) (zs_N B) f4 f5 f6 f7 f8 := by
    refine ⟨ei, nm_r e2 ?_⟩
    by_cases c : k = 2 ∨ k = 3 ∨ k = 9
    · obtain ⟨rfl, rfl⟩ := h1 c
      exact br_f (by decide) ⟨ei, nm_r e3 P⟩
    · obtain ⟨rfl, rfl⟩ := h0 c
      exact br_t rfl (zy_red y ⟨ei, nm_r e3 P⟩)
  refine ⟨ei, nm_r (zs_at rfl (by omega)) ⟨ei, nm_r e1 (pk_le k 1 (fun c => ?_) (fun c => ?_))⟩⟩
  · have e := h50 (by omega)
    subst e
    exact W
  · have e := h51 (by omega)
    subst e
    exact W
theorem zy_d39 {post : Int32 → SY → Prop} {s k a b : Nat} {x3 y : Int32} (hs : s < 8) (hk : k ≤ 9) (h51 : 2 ≤ k → x3 = nI a) (h50 : ¬ 2 ≤ k → a = 0) (h1 : k = 2 ∨ k = 3 ∨ k = 9 → y = nI b ∧ b < 8) (h0 : ¬ (k = 2 ∨ k = 3 ∨ k = 9) → b = zs_md y) (P : post (nI (K s)) (zs_N (zs_un K s k), zs_N (zs_un A s a), zs_N (zs_un B s b), f4, f5, f6, f7, f8)) : wY_define_39 post (nI s) (nI k) x3 y (zs_N K) (zs_N A) (zs_N B) f4 f5 f6 f7 f8 := by
  have T : k = 2 ∨ k = 3 ∨ k = 9 → wY_define_55 post (nI s) (nI k) x3 y (zs_N K) (zs_N A) (zs_N B) f4 f5 f6 f7 f8 := fun c => by
    obtain ⟨rfl, hb⟩ := h1 c
    exact br_f (by decide) (zy_bdF hb (br_t rfl (zy_d79 hs hk h51 h50 (fun _ => ⟨rfl, rfl⟩) (fun z => absurd c z) P)))
  refine pk_eq k 2 (fun e => T (Or.inl e)) (fun e => pk_eq k 3 (fun e2 => T (Or.inr (Or.inl e2))) (fun e2 => pk_eq k 9 (fun e3 => T (Or.inr (Or.inr e3))) (fun e3 => ?_)))
  have c : ¬ (k = 2 ∨ k = 3 ∨ k = 9) := by omega
  exact br_t rfl (zy_d79 hs hk h51 h50 (fun z => absurd z c) (fun _ => ⟨rfl, h0 c⟩) P)
theorem zy_def {post : Int32 → SY → Prop} {s k a b : Nat} {x3 y : Int32} (hs : s < 8) (hk : k ≤ 9) (h51 : 2 ≤ k → x3 = nI a ∧ a < 8) (h50 : ¬ 2 ≤ k → a = 0) (h1 : k = 2 ∨ k = 3 ∨ k = 9 → y = nI b ∧ b < 8) (h0 : ¬ (k = 2 ∨ k = 3 ∨ k = 9) → b = zs_md y) (P : post (nI (K s)) (zs_N (zs_un K s k), zs_N (zs_un A s a), zs_N (zs_un B s b), f4, f5, f6, f7, f8)) : wpY_define post (zs_N K, zs_N A, zs_N B, f4, f5, f6, f7, f8) (nI s) (nI k) x3 y := by
  unfold wpY_define
  dsimp only
  refine zy_bdF hs ?_
  refine br_t rfl (br_f (nI_pos (by omega)) (pk_le k 9 (fun _ => pk_le k 1 (fun c => ?_) (fun c => ?_)) (fun e => absurd e (by omega))))
  · exact zy_d39 hs hk (fun z => absurd z (by omega)) h50 h1 h0 P
  · obtain ⟨rfl, ha⟩ := h51 (by omega)
    exact zy_bdF ha (br_t rfl (zy_d39 hs hk (fun _ => rfl) h50 h1 h0 P))
theorem zy_def3 {post : Int32 → SY → Prop} {s k : Nat} {x3 y : Int32} (hs : s < 8) (hk : k ≤ 9) (c : 2 ≤ k) (hx : x3 < 0 ∨ nI 8 ≤ x3) (P : post (-3) (f1, f2, f3, f4, f5, f6, f7, f8)) : wpY_define post (f1, f2, f3, f4, f5, f6, f7, f8) (nI s) (nI k) x3 y := by
  unfold wpY_define
  dsimp only
  refine zy_bdF hs ?_
  exact (br_t rfl (br_f (nI_pos (by omega)) (pk_le k 9 (fun _ => pk_le k 1 (fun e => absurd e (by omega)) (fun _ => zy_bdT hx (br_f (by decide) P))) (fun e => absurd e (by omega)))))
theorem zy_def4 {post : Int32 → SY → Prop} {s k a : Nat} {y : Int32} (hs : s < 8) (hk : k ≤ 9) (c : k = 2 ∨ k = 3 ∨ k = 9) (ha : a < 8) (hx : y < 0 ∨ nI 8 ≤ y) (P : post (-4) (f1, f2, f3, f4, f5, f6, f7, f8)) : wpY_define post (f1, f2, f3, f4, f5, f6, f7, f8) (nI s) (nI k) (nI a) y := by
  have T : wY_define_55 post (nI s) (nI k) (nI a) y f1 f2 f3 f4 f5 f6 f7 f8 := br_f (by decide) (zy_bdT hx (br_f (by decide) P))
  unfold wpY_define
  dsimp only
  refine zy_bdF hs ?_
  refine br_t rfl (br_f (nI_pos (by omega)) (pk_le k 9 (fun _ => pk_le k 1 (fun e => absurd e (by omega)) (fun _ => zy_bdF ha ?_)) (fun e => absurd e (by omega))))
  refine br_t rfl ?_
  exact pk_eq k 2 (fun _ => T) (fun e => pk_eq k 3 (fun _ => T) (fun e2 => pk_eq k 9 (fun _ => T) (fun e3 => absurd c (by omega))))
end
end
section
/-- both hold the same kinds and first parts; the second parts agree where they play a role; X's table is the least -/
def i_Rel (_ : Nat) (u : SX) (v : SY) : Prop := ∃ (K A BX BY : Nat → Nat) (h : Nat → Bool) (x : Nat → Nat) (f6 f7 f8 : Nat → Int32) (h2 : Nat → Bool) (x2 : Nat → Nat) (g6 g7 g8 : Nat → Int32), u = (zs_N K, zs_N A, zs_N BX, zs_B h, zs_N x, f6, f7, f8) ∧ v = (zs_N K, zs_N A, zs_N BY, zs_B h2, zs_N x2, g6, g7, g8) ∧ zs_Gd K A BX ∧ zs_Gd K A BY ∧ zs_Ag K BX BY ∧ zs_Lf K A BX h x ∧ (∀ q, x q < 97) ∧ (∀ q, x2 q < 97)
theorem i_up {k : Nat} {u : SX} {v : SY} (h : i_Rel k u v) : i_Rel (k + 5) u v := h
theorem zs_z1 : zs_N (fun _ => 0) = (fun _ => 0) := rfl
theorem zs_z2 : zs_B (fun _ => false) = (fun _ => 0) := rfl
theorem i_vc0 : wpX_init (fun u => wpY_init (fun v => i_Rel 0 u v)) := by
  have G : zs_Gd (fun _ => 0) (fun _ => 0) (fun _ => 0) := fun s hs => ⟨(by decide : 0 ≤ 9), (by decide : 0 < 8), (by decide : 0 < 97), fun _ => (by decide : 0 < 8)⟩
  unfold wpX_init
  exact zx_find (K := fun _ => 0) (A := fun _ => 0) (B := fun _ => 0) (h := fun _ => false) (v := fun _ => 0) G (fun _ => (by decide : 0 < 97)) fun h x f6 hx L => ⟨fun _ => 0, fun _ => 0, fun _ => 0, fun _ => 0, h, x, f6, fun _ => 0, fun _ => 0, fun _ => false, fun _ => 0, fun _ => 0, fun _ => 0, fun _ => 0, rfl, rfl, G, G, fun _ => Or.inr rfl, L, hx, fun _ => (by decide : 0 < 97)⟩
theorem i_vc_kindOf {k : Nat} {u : SX} {v : SY} (I : i_Rel k u v) (hk : k + 5 ≤ 2560) (v1 : Int32) : wpX_kindOf (fun r => wpY_kindOf (fun r' => r' = r ∧ i_Rel (k + 5) u v) v v1) u v1 := by
  obtain ⟨K, A, BX, BY, h, x, f6, f7, f8, h2, x2, g6, g7, g8, rfl, rfl, GX, GY, Ag, L, hx, hx2⟩ := I
  have rel : ∀ h2 x2 g7 g8, (∀ q, x2 q < 97) → i_Rel (k + 5) (zs_N K, zs_N A, zs_N BX, zs_B h, zs_N x, f6, f7, f8) (zs_N K, zs_N A, zs_N BY, zs_B h2, zs_N x2, g6, g7, g8) := fun h2 x2 g7 g8 hx2 => ⟨K, A, BX, BY, h, x, f6, f7, f8, h2, x2, g6, g7, g8, rfl, rfl, GX, GY, Ag, L, hx, hx2⟩
  have rel0 := rel h2 x2 g7 g8 hx2
  unfold wpX_kindOf
  dsimp only
  rcases zs_ser v1 with c | ⟨s, hs, rfl⟩
  · refine zx_isF c (br_t rfl ?_)
    unfold wpY_kindOf
    dsimp only
    exact zy_bdT c (br_f (by decide) ⟨rfl, rel0⟩)
  · refine zx_isT hs ?_
    refine br_f (by decide) ⟨vp_in_nI hs (by decide), ?_⟩
    unfold wpY_kindOf
    dsimp only
    refine zy_bdF hs ?_
    exact br_t rfl ⟨vp_in_nI hs (by decide), rfl, rel0⟩
theorem i_vc_coefficient {k : Nat} {u : SX} {v : SY} (I : i_Rel k u v) (hk : k + 5 ≤ 2560) (v1 : Int32) (v2 : Int32) : wpX_coefficient (fun r => wpY_coefficient (fun r' v' => r' = r ∧ i_Rel (k + 5) u v') v v1 v2) u v1 v2 := by
  obtain ⟨K, A, BX, BY, h, x, f6, f7, f8, h2, x2, g6, g7, g8, rfl, rfl, GX, GY, Ag, L, hx, hx2⟩ := I
  have rel : ∀ h2 x2 g7 g8, (∀ q, x2 q < 97) → i_Rel (k + 5) (zs_N K, zs_N A, zs_N BX, zs_B h, zs_N x, f6, f7, f8) (zs_N K, zs_N A, zs_N BY, zs_B h2, zs_N x2, g6, g7, g8) := fun h2 x2 g7 g8 hx2 => ⟨K, A, BX, BY, h, x, f6, f7, f8, h2, x2, g6, g7, g8, rfl, rfl, GX, GY, Ag, L, hx, hx2⟩
  have rel0 := rel h2 x2 g7 g8 hx2
  unfold wpX_coefficient
  dsimp only
  rcases zs_ser v1 with c | ⟨s, hs, rfl⟩
  · refine zx_isF c (br_t rfl ?_)
    unfold wpY_coefficient
    dsimp only
    exact zy_bdT c (br_f (by decide) ⟨rfl, rel0⟩)
  · refine zx_isT hs ?_
    refine br_f (by decide) ?_
    by_cases c1 : v2 < 0
    · refine br_t c1 ?_
      unfold wpY_coefficient
      dsimp only
      refine zy_bdF hs ?_
      exact br_t rfl (br_t c1 ⟨rfl, rel0⟩)
    · refine br_f c1 ?_
      obtain ⟨n, hn, rfl⟩ := nI_of c1
      by_cases c2 : n < 16
      · have ex : 16 * nI s + nI n = nI (16 * s + n) := zs_ix rfl
        refine pk_lt n 16 (fun _ => nm_r ex ⟨vp_in_nI (by omega) (by decide), ?_⟩) (fun e => absurd e (by omega))
        cases hh : h (16 * s + n) with
        | false =>
          refine br_t (zs_hF rfl (by omega) hh) ?_
          unfold wpY_coefficient
          dsimp only
          refine zy_bdF hs ?_
          refine br_t rfl (br_f c1 (pk_le n 15 (fun _ => zy_q GY Ag L hx2 fun h3 x3 a b E hx3 => ⟨pk_in _ 128 (by omega) ex, ?_⟩) (fun e => absurd e (by omega))))
          exact br_t (zs_hF ex (by omega) ((E (16 * s + n) (by omega)).1.symm.trans hh)) ⟨rfl, rel _ _ _ _ hx3⟩
        | true =>
          refine br_f (zs_hT rfl (by omega) hh) ⟨vp_in_nI (by omega) (by decide), ?_⟩
          unfold wpY_coefficient
          dsimp only
          refine zy_bdF hs ?_
          refine br_t rfl (br_f c1 (pk_le n 15 (fun _ => zy_q GY Ag L hx2 fun h3 x3 a b E hx3 => ⟨pk_in _ 128 (by omega) ex, ?_⟩) (fun e => absurd e (by omega))))
          obtain ⟨e1, e2⟩ := E (16 * s + n) (by omega)
          refine br_f (zs_hT ex (by omega) (e1.symm.trans hh)) ⟨pk_in _ 128 (by omega) ex, ?_, rel _ _ _ _ hx3⟩
          show zs_N x3 (16 * nI s + nI n).toNatClampNeg = zs_N x (nI (16 * s + n)).toNatClampNeg
          rw [zs_at ex (by omega), zs_at rfl (by omega), e2 hh]
      · refine pk_lt n 16 (fun e => absurd e (by omega)) (fun _ => ?_)
        unfold wpY_coefficient
        dsimp only
        refine zy_bdF hs ?_
        exact br_t rfl (br_f c1 (pk_le n 15 (fun e => absurd e (by omega)) (fun _ => ⟨rfl, rel0⟩)))
theorem i_vc_known {k : Nat} {u : SX} {v : SY} (I : i_Rel k u v) (hk : k + 5 ≤ 2560) (v1 : Int32) : wpX_known (fun r => wpY_known (fun r' v' => r' = r ∧ i_Rel (k + 5) u v') v v1) u v1 := by
  obtain ⟨K, A, BX, BY, h, x, f6, f7, f8, h2, x2, g6, g7, g8, rfl, rfl, GX, GY, Ag, L, hx, hx2⟩ := I
  have rel : ∀ h2 x2 g7 g8, (∀ q, x2 q < 97) → i_Rel (k + 5) (zs_N K, zs_N A, zs_N BX, zs_B h, zs_N x, f6, f7, f8) (zs_N K, zs_N A, zs_N BY, zs_B h2, zs_N x2, g6, g7, g8) := fun h2 x2 g7 g8 hx2 => ⟨K, A, BX, BY, h, x, f6, f7, f8, h2, x2, g6, g7, g8, rfl, rfl, GX, GY, Ag, L, hx, hx2⟩
  have rel0 := rel h2 x2 g7 g8 hx2
  unfold wpX_known
  dsimp only
  rcases zs_ser v1 with c | ⟨s, hs, rfl⟩
  · refine zx_isF c (br_t rfl ?_)
    unfold wpY_known
    dsimp only
    exact zy_bdT c (br_f (by decide) ⟨rfl, rel0⟩)
  · refine zx_isT hs ?_
    refine br_f (by decide) (zx_vif hs ?_)
    unfold wpY_known
    dsimp only
    refine zy_bdF hs ?_
    refine br_t rfl (zy_q GY Ag L hx2 fun h3 x3 a b E hx3 => ⟨17, zy_knownL hs 16 0 rfl ⟨?_, rel _ _ _ _ hx3⟩⟩)
    rw [zs_fr_e hs (fun p hp => (E p hp).1) 16 0 rfl]
theorem i_vc_valued {k : Nat} {u : SX} {v : SY} (I : i_Rel k u v) (hk : k + 5 ≤ 2560) (v1 : Int32) : wpX_valued (fun r => wpY_valued (fun r' v' => r' = r ∧ i_Rel (k + 5) u v') v v1) u v1 := by
  obtain ⟨K, A, BX, BY, h, x, f6, f7, f8, h2, x2, g6, g7, g8, rfl, rfl, GX, GY, Ag, L, hx, hx2⟩ := I
  have rel : ∀ h2 x2 g7 g8, (∀ q, x2 q < 97) → i_Rel (k + 5) (zs_N K, zs_N A, zs_N BX, zs_B h, zs_N x, f6, f7, f8) (zs_N K, zs_N A, zs_N BY, zs_B h2, zs_N x2, g6, g7, g8) := fun h2 x2 g7 g8 hx2 => ⟨K, A, BX, BY, h, x, f6, f7, f8, h2, x2, g6, g7, g8, rfl, rfl, GX, GY, Ag, L, hx, hx2⟩
  have rel0 := rel h2 x2 g7 g8 hx2
  unfold wpX_valued
  dsimp only
  rcases zs_ser v1 with c | ⟨s, hs, rfl⟩
  · refine zx_isF c (br_t rfl ?_)
    unfold wpY_valued
    dsimp only
    exact zy_bdT c (br_f (by decide) ⟨rfl, rel0⟩)
  · refine zx_isT hs ?_
    obtain ⟨r, hX, hY⟩ := zs_lval (h := h) (v := x) (f1 := zs_N K) (f2 := zs_N A) (f3 := zs_N BX) (f6 := f6) (f7 := f7) (f8 := f8) (g1 := zs_N K) (g2 := zs_N A) (g3 := zs_N BY) (g6 := g6) hs 16 0 rfl 0
    refine br_f (by decide) ⟨17, hX _ ?_⟩
    unfold wpY_valued
    dsimp only
    refine zy_bdF hs ?_
    exact br_t rfl (zy_q GY Ag L hx2 fun h3 x3 a b E hx3 => ⟨17, hY h3 x3 a b E _ ⟨rfl, rel _ _ _ _ hx3⟩⟩)
theorem i_vc_order {k : Nat} {u : SX} {v : SY} (I : i_Rel k u v) (hk : k + 5 ≤ 2560) (v1 : Int32) : wpX_order (fun r => wpY_order (fun r' v' => r' = r ∧ i_Rel (k + 5) u v') v v1) u v1 := by
  obtain ⟨K, A, BX, BY, h, x, f6, f7, f8, h2, x2, g6, g7, g8, rfl, rfl, GX, GY, Ag, L, hx, hx2⟩ := I
  have rel : ∀ h2 x2 g7 g8, (∀ q, x2 q < 97) → i_Rel (k + 5) (zs_N K, zs_N A, zs_N BX, zs_B h, zs_N x, f6, f7, f8) (zs_N K, zs_N A, zs_N BY, zs_B h2, zs_N x2, g6, g7, g8) := fun h2 x2 g7 g8 hx2 => ⟨K, A, BX, BY, h, x, f6, f7, f8, h2, x2, g6, g7, g8, rfl, rfl, GX, GY, Ag, L, hx, hx2⟩
  have rel0 := rel h2 x2 g7 g8 hx2
  unfold wpX_order
  dsimp only
  rcases zs_ser v1 with c | ⟨s, hs, rfl⟩
  · refine zx_isF c (br_t rfl ?_)
    unfold wpY_order
    dsimp only
    exact zy_bdT c (br_f (by decide) ⟨rfl, rel0⟩)
  · refine zx_isT hs ?_
    obtain ⟨u1, u2, u3, u4⟩ := zs_fr_p h s 16 0
    obtain ⟨r, hX, hY⟩ := zs_lord (h := h) (v := x) (f1 := zs_N K) (f2 := zs_N A) (f3 := zs_N BX) (f6 := f6) (f7 := f7) (f8 := f8) (g1 := zs_N K) (g2 := zs_N A) (g3 := zs_N BY) (g6 := g6) hs hx (U := zs_fr h s 16 0) (by omega) (fun j hj => u3 j (by omega) hj) (fun z => u4 (by omega)) 16 0 rfl (by omega)
    refine br_f (by decide) (zx_vif hs ⟨17, hX _ ?_⟩)
    unfold wpY_order
    dsimp only
    refine zy_bdF hs ?_
    exact br_t rfl (zy_q GY Ag L hx2 fun h3 x3 a b E hx3 => ⟨17, hY h3 x3 a b E _ ⟨rfl, rel _ _ _ _ hx3⟩⟩)
theorem i_vc_agreeing {k : Nat} {u : SX} {v : SY} (I : i_Rel k u v) (hk : k + 5 ≤ 2560) (v1 : Int32) (v2 : Int32) : wpX_agreeing (fun r => wpY_agreeing (fun r' v' => r' = r ∧ i_Rel (k + 5) u v') v v1 v2) u v1 v2 := by
  obtain ⟨K, A, BX, BY, h, x, f6, f7, f8, h2, x2, g6, g7, g8, rfl, rfl, GX, GY, Ag, L, hx, hx2⟩ := I
  have rel : ∀ h2 x2 g7 g8, (∀ q, x2 q < 97) → i_Rel (k + 5) (zs_N K, zs_N A, zs_N BX, zs_B h, zs_N x, f6, f7, f8) (zs_N K, zs_N A, zs_N BY, zs_B h2, zs_N x2, g6, g7, g8) := fun h2 x2 g7 g8 hx2 => ⟨K, A, BX, BY, h, x, f6, f7, f8, h2, x2, g6, g7, g8, rfl, rfl, GX, GY, Ag, L, hx, hx2⟩
  have rel0 := rel h2 x2 g7 g8 hx2
  unfold wpX_agreeing
  dsimp only
  rcases zs_ser v1 with c | ⟨s, hs, rfl⟩
  · refine zx_isF c (br_t rfl ?_)
    unfold wpY_agreeing
    dsimp only
    exact zy_bdT c (br_f (by decide) ⟨rfl, rel0⟩)
  · refine zx_isT hs ?_
    refine br_f (by decide) ?_
    rcases zs_ser v2 with c | ⟨t, ht, rfl⟩
    · refine zx_isF c (br_t rfl ?_)
      unfold wpY_agreeing
      dsimp only
      refine zy_bdF hs ?_
      exact br_t rfl (zy_bdT c (br_f (by decide) ⟨rfl, rel0⟩))
    · refine zx_isT ht ?_
      obtain ⟨r, hX, hY⟩ := zs_lagr (h := h) (v := x) (f1 := zs_N K) (f2 := zs_N A) (f3 := zs_N BX) (f6 := f6) (f7 := f7) (f8 := f8) (g1 := zs_N K) (g2 := zs_N A) (g3 := zs_N BY) (g6 := g6) hs ht hx 16 0 rfl
      refine br_f (by decide) ⟨17, hX _ ?_⟩
      unfold wpY_agreeing
      dsimp only
      refine zy_bdF hs ?_
      refine br_t rfl (zy_bdF ht ?_)
      exact br_t rfl (zy_q GY Ag L hx2 fun h3 x3 a b E hx3 => ⟨17, hY h3 x3 a b E _ ⟨rfl, rel _ _ _ _ hx3⟩⟩)
theorem i_vc_evaluate {k : Nat} {u : SX} {v : SY} (I : i_Rel k u v) (hk : k + 5 ≤ 2560) (v1 : Int32) (v2 : Int32) (v3 : Int32) : wpX_evaluate (fun r => wpY_evaluate (fun r' v' => r' = r ∧ i_Rel (k + 5) u v') v v1 v2 v3) u v1 v2 v3 := by
  obtain ⟨K, A, BX, BY, h, x, f6, f7, f8, h2, x2, g6, g7, g8, rfl, rfl, GX, GY, Ag, L, hx, hx2⟩ := I
  have rel : ∀ h2 x2 g7 g8, (∀ q, x2 q < 97) → i_Rel (k + 5) (zs_N K, zs_N A, zs_N BX, zs_B h, zs_N x, f6, f7, f8) (zs_N K, zs_N A, zs_N BY, zs_B h2, zs_N x2, g6, g7, g8) := fun h2 x2 g7 g8 hx2 => ⟨K, A, BX, BY, h, x, f6, f7, f8, h2, x2, g6, g7, g8, rfl, rfl, GX, GY, Ag, L, hx, hx2⟩
  have rel0 := rel h2 x2 g7 g8 hx2
  unfold wpX_evaluate
  dsimp only
  rcases zs_ser v1 with c | ⟨s, hs, rfl⟩
  · refine zx_isF c (br_t rfl ?_)
    unfold wpY_evaluate
    dsimp only
    exact zy_bdT c (br_f (by decide) ⟨rfl, rel0⟩)
  · refine zx_isT hs ?_
    refine br_f (by decide) ?_
    by_cases c1 : v2 < 0
    · refine br_t c1 ?_
      unfold wpY_evaluate
      dsimp only
      refine zy_bdF hs ?_
      exact br_t rfl (br_t c1 ⟨rfl, rel0⟩)
    · by_cases c2 : v2 ≤ 16
      · obtain ⟨m, hm, rfl⟩ := nI_of2 (n := 16) (by decide) c1 c2
        obtain ⟨u1, u2, u3, u4⟩ := zs_fr_p h s 16 0
        refine br_f c1 (br_t c2 (zx_vif hs ?_))
        by_cases cU : m ≤ zs_fr h s 16 0
        · have e1 : nI m - 1 = nI m + (-1) := Int32.sub_eq_add_neg _ _
          refine pk_le m (zs_fr h s 16 0) (fun _ => zx_red v3 (nm_r e1 ⟨m + 1, zx_ev hs (zs_md_lt _) hx m 0 hm (by decide) ?_⟩)) (fun e => absurd e (by omega))
          unfold wpY_evaluate
          dsimp only
          refine zy_bdF hs ?_
          refine br_t rfl (br_f c1 (br_t c2 (zy_q GY Ag L hx2 fun h3 x3 a b E hx3 => ⟨m + 1, zy_evT hs hm hx3 (fun i hi => zs_Eh E (u3 i (by omega) (by omega)) (by omega)) ⟨?_, rel _ _ _ _ hx3⟩ m 0 (by omega)⟩)))
          rw [zs_ho_pl, zs_pl_c (d := fun i => x3 (16 * s + i)) _ m (fun i hi => (zs_Ev E (u3 i (by omega) (by omega)) (by omega)).symm)]
        · refine pk_le m (zs_fr h s 16 0) (fun e => absurd e cU) (fun _ => ?_)
          unfold wpY_evaluate
          dsimp only
          refine zy_bdF hs ?_
          exact br_t rfl (br_f c1 (br_t c2 (zy_q GY Ag L hx2 fun h3 x3 a b E hx3 => ⟨zs_fr h s 16 0 + 1, zy_evF hs hm (by omega) (zs_Eh E (u4 (by omega)) (by omega)) ⟨rfl, rel _ _ _ _ hx3⟩ (zs_fr h s 16 0) 0 (by omega) _ _⟩)))
      · refine br_f c1 (br_f c2 ?_)
        unfold wpY_evaluate
        dsimp only
        refine zy_bdF hs ?_
        exact br_t rfl (br_f c1 (br_f c2 ⟨rfl, rel0⟩))
theorem i_vc_sum {k : Nat} {u : SX} {v : SY} (I : i_Rel k u v) (hk : k + 5 ≤ 2560) (v1 : Int32) (v2 : Int32) (v3 : Int32) : wpX_sum (fun r => wpY_sum (fun r' v' => r' = r ∧ i_Rel (k + 5) u v') v v1 v2 v3) u v1 v2 v3 := by
  obtain ⟨K, A, BX, BY, h, x, f6, f7, f8, h2, x2, g6, g7, g8, rfl, rfl, GX, GY, Ag, L, hx, hx2⟩ := I
  have rel : ∀ h2 x2 g7 g8, (∀ q, x2 q < 97) → i_Rel (k + 5) (zs_N K, zs_N A, zs_N BX, zs_B h, zs_N x, f6, f7, f8) (zs_N K, zs_N A, zs_N BY, zs_B h2, zs_N x2, g6, g7, g8) := fun h2 x2 g7 g8 hx2 => ⟨K, A, BX, BY, h, x, f6, f7, f8, h2, x2, g6, g7, g8, rfl, rfl, GX, GY, Ag, L, hx, hx2⟩
  have rel0 := rel h2 x2 g7 g8 hx2
  unfold wpX_sum
  dsimp only
  rcases zs_ser v1 with c | ⟨s, hs, rfl⟩
  · refine zx_isF c (br_t rfl ?_)
    unfold wpY_sum
    dsimp only
    exact zy_bdT c (br_f (by decide) ⟨rfl, rel0⟩)
  · refine zx_isT hs ?_
    refine br_f (by decide) ?_
    by_cases c1 : v2 < 0
    · refine br_t c1 ?_
      unfold wpY_sum
      dsimp only
      refine zy_bdF hs ?_
      exact br_t rfl (br_t c1 ⟨rfl, rel0⟩)
    · by_cases c2 : v3 < v2
      · refine br_f c1 (br_t c2 ?_)
        unfold wpY_sum
        dsimp only
        refine zy_bdF hs ?_
        exact br_t rfl (br_f c1 (br_t c2 ⟨rfl, rel0⟩))
      · refine br_f c1 (br_f c2 ?_)
        have c3 : ¬ v3 < 0 := fun z => c2 (Int32.lt_of_lt_of_le z (Int32.not_lt.mp c1))
        obtain ⟨i, hi, rfl⟩ := nI_of c1
        obtain ⟨j, hj, rfl⟩ := nI_of c3
        have c4 : ¬ j < i := fun z => c2 ((nI_ltI hj hi).mpr z)
        by_cases c5 : j < 16
        · obtain ⟨r, hX, hY⟩ := zs_lsum (h := h) (v := x) (f1 := zs_N K) (f2 := zs_N A) (f3 := zs_N BX) (f6 := f6) (f7 := f7) (f8 := f8) (g1 := zs_N K) (g2 := zs_N A) (g3 := zs_N BY) (g6 := g6) hs c5 (j + 1 - i) i (by omega) 0
          refine pk_lt j 16 (fun _ => ⟨j + 1 - i + 1, hX _ ?_⟩) (fun e => absurd e (by omega))
          unfold wpY_sum
          dsimp only
          refine zy_bdF hs ?_
          exact br_t rfl (br_f c1 (br_f c2 (pk_le j 15 (fun _ => zy_q GY Ag L hx2 fun h3 x3 a b E hx3 => ⟨j + 1 - i + 1, hY h3 x3 a b E _ ⟨rfl, rel _ _ _ _ hx3⟩⟩) (fun e => absurd e (by omega)))))
        · refine pk_lt j 16 (fun e => absurd e c5) (fun _ => ?_)
          unfold wpY_sum
          dsimp only
          refine zy_bdF hs ?_
          exact br_t rfl (br_f c1 (br_f c2 (pk_le j 15 (fun e => absurd e (by omega)) (fun _ => ⟨rfl, rel0⟩))))
theorem i_vc_needs {k : Nat} {u : SX} {v : SY} (I : i_Rel k u v) (hk : k + 5 ≤ 2560) (v1 : Int32) (v2 : Int32) : wpX_needs (fun r u' => wpY_needs (fun r' v' => r' = r ∧ i_Rel (k + 5) u' v') v v1 v2) u v1 v2 := by
  obtain ⟨K, A, BX, BY, h, x, f6, f7, f8, h2, x2, g6, g7, g8, rfl, rfl, GX, GY, Ag, L, hx, hx2⟩ := I
  have rel : ∀ h2 x2 g7 g8, (∀ q, x2 q < 97) → i_Rel (k + 5) (zs_N K, zs_N A, zs_N BX, zs_B h, zs_N x, f6, f7, f8) (zs_N K, zs_N A, zs_N BY, zs_B h2, zs_N x2, g6, g7, g8) := fun h2 x2 g7 g8 hx2 => ⟨K, A, BX, BY, h, x, f6, f7, f8, h2, x2, g6, g7, g8, rfl, rfl, GX, GY, Ag, L, hx, hx2⟩
  have rel0 := rel h2 x2 g7 g8 hx2
  have relN : ∀ f7 f8 g6, i_Rel (k + 5) (zs_N K, zs_N A, zs_N BX, zs_B h, zs_N x, f6, f7, f8) (zs_N K, zs_N A, zs_N BY, zs_B h2, zs_N x2, g6, g7, g8) := fun f7 f8 g6 => ⟨K, A, BX, BY, h, x, f6, f7, f8, h2, x2, g6, g7, g8, rfl, rfl, GX, GY, Ag, L, hx, hx2⟩
  by_cases c1 : v1 < 0
  · exact br_t c1 (br_t c1 ⟨rfl, rel0⟩)
  · obtain ⟨a, ha, rfl⟩ := nI_of c1
    by_cases c2 : a < 128
    · by_cases c3 : v2 < 0
      · exact br_f c1 (pk_le 128 a (fun e => absurd e (by omega)) (fun _ => br_t c3 (br_f c1 (pk_lt 127 a (fun e => absurd e (by omega)) (fun _ => br_t c3 ⟨rfl, rel0⟩)))))
      · obtain ⟨o, ho, rfl⟩ := nI_of c3
        by_cases c4 : o < 128
        · refine br_f c1 (pk_le 128 a (fun e => absurd e (by omega)) (fun _ => br_f c3 (pk_lt o 128 (fun _ => zx_reach GX c2 fun S q7 q8 E Ln => ⟨vp_in_nI c4 (by decide), ?_⟩) (fun e => absurd e (by omega)))))
          have W : wpY_needs (fun r' v' => r' = zs_b (S o) ∧ i_Rel (k + 5) (zs_N K, zs_N A, zs_N BX, zs_B h, zs_N x, f6, q7, q8) v') (zs_N K, zs_N A, zs_N BY, zs_B h2, zs_N x2, g6, g7, g8) (nI a) (nI o) :=
            br_f c1 (pk_lt 127 a (fun e => absurd e (by omega)) (fun _ => br_f c3 (pk_le o 127 (fun _ => ⟨129, zy_n24 GY c2 c4 (fun S2 q6 L2 => ⟨congrArg zs_b (zs_nuni (zs_smLn Ag L2) Ln o c4), relN _ _ _⟩) 128 0 rfl g6 (fun q hq => absurd hq (by omega))⟩) (fun e => absurd e (by omega)))))
          cases hh : S o with
          | false => rw [hh] at W; exact br_t (zs_EF E c4 hh) W
          | true => rw [hh] at W; exact br_f (zs_ET E c4 hh) W
        · exact br_f c1 (pk_le 128 a (fun e => absurd e (by omega)) (fun _ => br_f c3 (pk_lt o 128 (fun e => absurd e (by omega)) (fun _ => br_f c1 (pk_lt 127 a (fun e => absurd e (by omega)) (fun _ => br_f c3 (pk_le o 127 (fun e => absurd e (by omega)) (fun _ => ⟨rfl, rel0⟩))))))))
    · exact br_f c1 (pk_le 128 a (fun _ => br_f c1 (pk_lt 127 a (fun _ => ⟨rfl, rel0⟩) (fun e => absurd e (by omega)))) (fun e => absurd e (by omega)))
theorem zs_GdU {K A B : Nat → Nat} {s k a b : Nat} (G : zs_Gd K A B) (hk : k ≤ 9) (ha : a < 8) (hb : b < 97) (hc : k = 2 ∨ k = 3 ∨ k = 9 → b < 8) : zs_Gd (zs_un K s k) (zs_un A s a) (zs_un B s b) := by
  intro t ht
  by_cases z : t = s
  · subst z; rw [zs_un_s, zs_un_s, zs_un_s]; exact ⟨hk, ha, hb, hc⟩
  · rw [zs_un_n z, zs_un_n z, zs_un_n z]; exact G t ht
theorem zs_AgU {K BX BY : Nat → Nat} {s k a b : Nat} (G : zs_Ag K BX BY) (e : (k = 1 ∨ k = 5 ∨ k = 7) ∨ a = b) : zs_Ag (zs_un K s k) (zs_un BX s a) (zs_un BY s b) := by
  intro t
  by_cases z : t = s
  · subst z; rw [zs_un_s, zs_un_s, zs_un_s]; exact e
  · rw [zs_un_n z, zs_un_n z, zs_un_n z]; exact G t
theorem zs_bX_lt (k : Nat) (y : Int32) : zs_bX k y < 97 := by
  unfold zs_bX
  split
  · exact zs_md_lt y
  · decide
theorem zs_bX_e {k : Nat} (hk : k ≤ 9) (hc : ¬ (k = 2 ∨ k = 3 ∨ k = 9)) (y : Int32) : (k = 1 ∨ k = 5 ∨ k = 7) ∨ zs_bX k y = zs_md y := by
  unfold zs_bX
  by_cases d : k = 0 ∨ k = 4 ∨ k = 6 ∨ k = 8
  · exact Or.inr (if_pos d)
  · exact Or.inl (by omega)
theorem i_vc_define {k : Nat} {u : SX} {v : SY} (I : i_Rel k u v) (hk : k + 5 ≤ 2560) (v1 : Int32) (v2 : Int32) (v3 : Int32) (v4 : Int32) : wpX_define (fun r u' => wpY_define (fun r' v' => r' = r ∧ i_Rel (k + 5) u' v') v v1 v2 v3 v4) u v1 v2 v3 v4 := by
  obtain ⟨K, A, BX, BY, h, x, f6, f7, f8, h2, x2, g6, g7, g8, rfl, rfl, GX, GY, Ag, L, hx, hx2⟩ := I
  have rel : ∀ h2 x2 g7 g8, (∀ q, x2 q < 97) → i_Rel (k + 5) (zs_N K, zs_N A, zs_N BX, zs_B h, zs_N x, f6, f7, f8) (zs_N K, zs_N A, zs_N BY, zs_B h2, zs_N x2, g6, g7, g8) := fun h2 x2 g7 g8 hx2 => ⟨K, A, BX, BY, h, x, f6, f7, f8, h2, x2, g6, g7, g8, rfl, rfl, GX, GY, Ag, L, hx, hx2⟩
  have rel0 := rel h2 x2 g7 g8 hx2
  rcases zs_ser v1 with c | ⟨s, hs, rfl⟩
  · unfold wpX_define
    dsimp only
    refine zx_isF c (br_t rfl ?_)
    unfold wpY_define
    dsimp only
    exact zy_bdT c (br_f (by decide) ⟨rfl, rel0⟩)
  · by_cases c1 : v2 < 0
    · unfold wpX_define
      dsimp only
      refine zx_isT hs ?_
      refine br_f (by decide) (br_t c1 ?_)
      unfold wpY_define
      dsimp only
      refine zy_bdF hs ?_
      exact br_t rfl (br_t c1 ⟨rfl, rel0⟩)
    · by_cases c2 : v2 ≤ 9
      · obtain ⟨q, hq, rfl⟩ := nI_of2 (n := 9) (by decide) c1 c2
        have fin : ∀ a bX bY, a < 8 → bX < 97 → bY < 97 → (q = 2 ∨ q = 3 ∨ q = 9 → bX = bY ∧ v4 = nI bX ∧ bX < 8) → (¬ (q = 2 ∨ q = 3 ∨ q = 9) → bX = zs_bX q v4 ∧ bY = zs_md v4) → (2 ≤ q → v3 = nI a) → (¬ 2 ≤ q → a = 0) → wpX_define (fun r u' => wpY_define (fun r' v' => r' = r ∧ i_Rel (k + 5) u' v') (zs_N K, zs_N A, zs_N BY, zs_B h2, zs_N x2, g6, g7, g8) (nI s) (nI q) v3 v4) (zs_N K, zs_N A, zs_N BX, zs_B h, zs_N x, f6, f7, f8) (nI s) (nI q) v3 v4 := by
          intro a bX bY ha hbX hbY e1 e0 e3 e4
          have GX' : zs_Gd (zs_un K s q) (zs_un A s a) (zs_un BX s bX) := zs_GdU GX hq ha hbX (fun z => (e1 z).2.2)
          have GY' : zs_Gd (zs_un K s q) (zs_un A s a) (zs_un BY s bY) := zs_GdU GY hq ha hbY (fun z => by rw [← (e1 z).1]; exact (e1 z).2.2)
          have Ag' : zs_Ag (zs_un K s q) (zs_un BX s bX) (zs_un BY s bY) := by
            refine zs_AgU Ag ?_
            by_cases z : q = 2 ∨ q = 3 ∨ q = 9
            · exact Or.inr (e1 z).1
            · rw [(e0 z).1, (e0 z).2]; exact zs_bX_e hq z v4
          exact zx_def GX' hx hs hq (fun z => ⟨e3 z, ha⟩) e4 (fun z => (e1 z).2) (fun z => (e0 z).1) fun h' x' f6' hx' L' => zy_def hs hq (fun z => ⟨e3 z, ha⟩) e4 (fun z => by rw [← (e1 z).1]; exact (e1 z).2) (fun z => (e0 z).2) ⟨rfl, ⟨_, _, _, _, h', x', f6', f7, f8, h2, x2, g6, g7, g8, rfl, rfl, GX', GY', Ag', L', hx', hx2⟩⟩
        by_cases d2 : 2 ≤ q
        · rcases zs_ser v3 with c | ⟨a, ha, rfl⟩
          · exact zx_def3 hs hq d2 c (zy_def3 hs hq d2 c ⟨rfl, rel0⟩)
          · by_cases d3 : q = 2 ∨ q = 3 ∨ q = 9
            · rcases zs_ser v4 with c | ⟨b, hb, rfl⟩
              · exact zx_def4 hs hq d3 ha c (zy_def4 hs hq d3 ha c ⟨rfl, rel0⟩)
              · exact fin a b b ha (by omega) (by omega) (fun _ => ⟨rfl, rfl, hb⟩) (fun z => absurd d3 z) (fun _ => rfl) (fun z => absurd d2 z)
            · exact fin a _ _ ha (zs_bX_lt q v4) (zs_md_lt v4) (fun z => absurd z d3) (fun _ => ⟨rfl, rfl⟩) (fun _ => rfl) (fun z => absurd d2 z)
        · exact fin 0 _ _ (by decide) (zs_bX_lt q v4) (zs_md_lt v4) (fun z => absurd z (by omega)) (fun _ => ⟨rfl, rfl⟩) (fun z => absurd z d2) (fun _ => rfl)
      · unfold wpX_define
        dsimp only
        refine zx_isT hs ?_
        refine br_f (by decide) (br_f c1 (br_f c2 ?_))
        unfold wpY_define
        dsimp only
        refine zy_bdF hs ?_
        exact br_t rfl (br_f c1 (br_f c2 ⟨rfl, rel0⟩))
end
