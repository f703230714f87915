theorem pk_us {f : Nat → Int32} {k : Nat} {x : Int32} : upd f k x k = x := if_pos rfl
theorem pk_un {f : Nat → Int32} {k j : Nat} {x : Int32} (h : j ≠ k) : upd f k x j = f j := if_neg h
theorem pk_sub {a b : Nat} (h : b ≤ a) : nI a - nI b = nI (a - b) := by
  obtain ⟨c, rfl⟩ : ∃ c, a = c + b := ⟨a - b, by omega⟩
  rw [← nI_add, Int32.add_sub_cancel, Nat.add_sub_cancel]
theorem pk_m1 (n : Nat) : nI (n + 1) + (-1) = nI n := by
  rw [← nI_1, Int32.add_assoc, show (1 : Int32) + (-1) = 0 from rfl, Int32.add_zero]
theorem pk_mul (a b : Nat) : nI a * nI b = nI (a * b) := (Int32.ofNat_mul a b).symm
theorem pk_div {a d : Nat} (ha : a < 2 ^ 31) (h0 : 0 < d) (hd : d < 2 ^ 31) : nI a / nI d = nI (a / d) := by
  apply Int32.toInt_inj.mp
  rw [lg_idiv_nonneg (by rw [nI_toInt ha]; omega) (by rw [nI_toInt hd]; omega), nI_toInt ha, nI_toInt hd, nI_toInt (Nat.lt_of_le_of_lt (Nat.div_le_self a d) ha)]
  first | rfl | exact (Int.natCast_ediv _ _).symm
theorem pk_rem {a d : Nat} (ha : a < 2 ^ 31) (h0 : 0 < d) (hd : d < 2 ^ 31) : nI a - nI a / nI d * nI d = nI (a % d) := by
  rw [pk_div ha h0 hd, pk_mul, pk_sub (Nat.div_mul_le_self a d)]
  exact congrArg nI (by have := Nat.div_add_mod' a d; omega)
theorem pk_ix (x : Int32) {n : Nat} (hn : n < 2 ^ 31) : x < 0 ∨ nI n ≤ x ∨ ∃ j : Nat, j < n ∧ x = nI j := by
  by_cases h : x < 0
  · exact Or.inl h
  · obtain ⟨j, hj, rfl⟩ := nI_of h
    by_cases h2 : j < n
    · exact Or.inr (Or.inr ⟨j, h2, rfl⟩)
    · exact Or.inr (Or.inl (nI_le (by omega) hj))
theorem pk_le {x y : Int32} {A B : Prop} (a b : Nat) (f : a ≤ b → A) (g : b < a → B) (hx : x = nI a := by rfl) (hy : y = nI b := by rfl) (ha : a < 2 ^ 31 := by omega) (hb : b < 2 ^ 31 := by omega) : (x ≤ y → A) ∧ (¬ x ≤ y → B) := by
  subst hx hy
  rw [nI_leI ha hb]
  exact ⟨f, fun z => g (by omega)⟩
theorem pk_lt {x y : Int32} {A B : Prop} (a b : Nat) (f : a < b → A) (g : b ≤ a → B) (hx : x = nI a := by rfl) (hy : y = nI b := by rfl) (ha : a < 2 ^ 31 := by omega) (hb : b < 2 ^ 31 := by omega) : (x < y → A) ∧ (¬ x < y → B) := by
  subst hx hy
  rw [nI_ltI ha hb]
  exact ⟨f, fun z => g (by omega)⟩
theorem pk_eq {x y : Int32} {A B : Prop} (a b : Nat) (f : a = b → A) (g : a ≠ b → B) (hx : x = nI a := by rfl) (hy : y = nI b := by rfl) (ha : a < 2 ^ 31 := by omega) (hb : b < 2 ^ 31 := by omega) : (x = y → A) ∧ (¬ x = y → B) := by
  subst hx hy
  rw [nI_eq ha hb]
  exact ⟨f, g⟩
theorem pk_in {x : Int32} (n N : Nat) (h : n < N) (hx : x = nI n := by rfl) (hN : N < 2 ^ 31 := by omega) : vp_in x N := by
  subst hx
  exact vp_in_nI h hN
theorem pk_cl {x : Int32} (n : Nat) (hx : x = nI n := by rfl) (h : n < 2 ^ 31 := by omega) : x.toNatClampNeg = n := by
  subst hx
  exact nI_clamp h

/-! sums, powers, inverses modulo 97 -/
def zs_sum (f : Nat → Nat) : Nat → Nat
  | 0 => 0
  | k + 1 => zs_sum f k + f k
theorem zs_sum_s (f : Nat → Nat) (k : Nat) : zs_sum f (k + 1) = zs_sum f k + f k := rfl
theorem zs_sum_congr {f g : Nat → Nat} {k : Nat} (h : ∀ i, i < k → f i = g i) : zs_sum f k = zs_sum g k := by
  induction k with
  | zero => rfl
  | succ k ih =>
    show zs_sum f k + f k = zs_sum g k + g k
    rw [ih (fun i hi => h i (by omega)), h k (by omega)]
theorem zs_sum_le {f : Nat → Nat} {M k : Nat} (h : ∀ i, i < k → f i ≤ M) : zs_sum f k ≤ k * M := by
  induction k with
  | zero => exact Nat.zero_le _
  | succ k ih =>
    have a := ih (fun i hi => h i (by omega))
    have b := h k (by omega)
    show zs_sum f k + f k ≤ (k + 1) * M
    rw [Nat.succ_mul]
    omega
theorem zs_mul96 {a b : Nat} (ha : a < 97) (hb : b < 97) : a * b ≤ 9216 := Nat.mul_le_mul (Nat.le_of_lt_succ ha) (Nat.le_of_lt_succ hb)
def zs_pw (b : Nat → Nat) : Nat → Nat → Nat
  | 0 => fun d => if d = 0 then 1 else 0
  | j + 1 => fun d => zs_sum (fun i => zs_pw b j i * b (d - i)) (d + 1) % 97
theorem zs_pw_lt (b : Nat → Nat) (j d : Nat) : zs_pw b j d < 97 := by
  cases j with
  | zero =>
    show (if d = 0 then 1 else 0) < 97
    split <;> omega
  | succ j => exact Nat.mod_lt _ (by decide)
theorem zs_pw_congr {b c : Nat → Nat} {n : Nat} (h : ∀ i, i ≤ n → b i = c i) : ∀ j d, d ≤ n → zs_pw b j d = zs_pw c j d := by
  intro j
  induction j with
  | zero => intro d _; rfl
  | succ j ih =>
    intro d hd
    refine congrArg (· % 97) (zs_sum_congr fun i hi => ?_)
    show zs_pw b j i * b (d - i) = zs_pw c j i * c (d - i)
    rw [ih i (by omega), h (d - i) (by omega)]
def zs_invF (a : Nat) : Nat → Nat → Nat
  | 0 => fun _ => 0
  | k + 1 => fun z => if a * z % 97 = 1 then z else zs_invF a k (z + 1)
def zs_inv (a : Nat) : Nat := zs_invF a 96 1
theorem zs_inv_lt' : ∀ k z a, z + k ≤ 97 → zs_invF a k z < 97 := by
  intro k
  induction k with
  | zero => intro z a _; exact (by decide : 0 < 97)
  | succ k ih =>
    intro z a h
    show (if a * z % 97 = 1 then z else zs_invF a k (z + 1)) < 97
    split
    · omega
    · exact ih (z + 1) a (by omega)
theorem zs_inv_lt (a : Nat) : zs_inv a < 97 := zs_inv_lt' 96 1 a (by decide)
/-! stores, as functions of naturals -/
def zs_un (v : Nat → Nat) (p x : Nat) : Nat → Nat := fun j => if j = p then x else v j
def zs_ub (h : Nat → Bool) (p : Nat) (x : Bool) : Nat → Bool := fun j => if j = p then x else h j
theorem zs_un_s {v : Nat → Nat} {p x : Nat} : zs_un v p x p = x := if_pos rfl
theorem zs_un_n {v : Nat → Nat} {p x j : Nat} (h : j ≠ p) : zs_un v p x j = v j := if_neg h
theorem zs_ub_s {v : Nat → Bool} {p : Nat} {x : Bool} : zs_ub v p x p = x := if_pos rfl
theorem zs_ub_n {v : Nat → Bool} {p j : Nat} {x : Bool} (h : j ≠ p) : zs_ub v p x j = v j := if_neg h
def zs_b : Bool → Int32
  | true => 1
  | false => 0
def zs_N (v : Nat → Nat) : Nat → Int32 := fun q => nI (v q)
def zs_B (h : Nat → Bool) : Nat → Int32 := fun q => zs_b (h q)
theorem zs_updN (v : Nat → Nat) (p x : Nat) : upd (zs_N v) p (nI x) = zs_N (zs_un v p x) := by
  funext j
  show (if j = p then nI x else nI (v j)) = nI (if j = p then x else v j)
  split <;> rfl
theorem zs_updB (v : Nat → Bool) (p : Nat) (x : Bool) : upd (zs_B v) p (zs_b x) = zs_B (zs_ub v p x) := by
  funext j
  show (if j = p then zs_b x else zs_b (v j)) = zs_b (if j = p then x else v j)
  split <;> rfl
/-! how many of the first k -/
def zs_cn (h : Nat → Bool) : Nat → Nat
  | 0 => 0
  | k + 1 => zs_cn h k + (if h k = true then 1 else 0)
theorem zs_cn_le (h : Nat → Bool) (k : Nat) : zs_cn h k ≤ k := by
  induction k with
  | zero => exact Nat.le_refl _
  | succ k ih =>
    show zs_cn h k + (if h k = true then 1 else 0) ≤ k + 1
    split <;> omega
theorem zs_cn_all {h : Nat → Bool} {k : Nat} (e : k ≤ zs_cn h k) : ∀ q, q < k → h q = true := by
  induction k with
  | zero => intro q hq; omega
  | succ k ih =>
    intro q hq
    have e' : k + 1 ≤ zs_cn h k + (if h k = true then 1 else 0) := e
    have l := zs_cn_le h k
    by_cases c : h k = true
    · rw [if_pos c] at e'
      by_cases z : q = k
      · rw [z]; exact c
      · exact ih (by omega) q (by omega)
    · rw [if_neg c] at e'
      omega
theorem zs_cn_congr {h g : Nat → Bool} {k : Nat} (e : ∀ q, q < k → h q = g q) : zs_cn h k = zs_cn g k := by
  induction k with
  | zero => rfl
  | succ k ih =>
    show zs_cn h k + (if h k = true then 1 else 0) = zs_cn g k + (if g k = true then 1 else 0)
    rw [ih (fun q hq => e q (by omega)), e k (by omega)]
theorem zs_cn_add {h : Nat → Bool} {p : Nat} (hp : h p = false) : ∀ k, p < k → zs_cn (zs_ub h p true) k = zs_cn h k + 1 := by
  intro k
  induction k with
  | zero => intro h; omega
  | succ k ih =>
    intro hk
    show zs_cn (zs_ub h p true) k + (if zs_ub h p true k = true then 1 else 0) = zs_cn h k + (if h k = true then 1 else 0) + 1
    by_cases z : p = k
    · subst z
      rw [zs_ub_s, if_pos rfl, hp, if_neg (by decide), zs_cn_congr (g := h) (fun q hq => zs_ub_n (by omega))]
    · rw [zs_ub_n (fun e => z e.symm), ih (by omega)]
      omega
/-! what a coefficient needs, when it is ruled out, its value -/
def zs_nd (k a b s n t m : Nat) : Bool :=
  match k with
  | 2 => decide (m = n) && (decide (t = a) || decide (t = b))
  | 3 => decide (m ≤ n) && (decide (t = a) || decide (t = b))
  | 4 => decide (m = n) && decide (t = a)
  | 5 => decide (m = n + 1) && decide (t = a)
  | 6 => decide (m + 1 = n) && decide (t = a)
  | 7 => (decide (m ≤ n) && decide (t = a)) || (decide (m < n) && decide (t = s))
  | 8 => decide (m + 1 = n) && decide (t = a)
  | 9 => decide (m ≤ n) && (decide (t = a) || decide (t = b))
  | _ => false
def zs_rl (k a b n : Nat) (v : Nat → Nat) : Bool :=
  match k with
  | 5 => decide (n = 15)
  | 7 => decide (v (16 * a) = 0)
  | 9 => decide (v (16 * b) ≠ 0)
  | _ => false
def zs_vl (k a b s n : Nat) (v : Nat → Nat) : Nat :=
  match k with
  | 0 => if n = 0 then b else 0
  | 1 => if n = 1 then 1 else 0
  | 2 => (v (16 * a + n) + v (16 * b + n)) % 97
  | 3 => zs_sum (fun i => v (16 * a + i) * v (16 * b + (n - i))) (n + 1) % 97
  | 4 => b * v (16 * a + n) % 97
  | 5 => if n + 1 < 16 then (n + 1) * v (16 * a + (n + 1)) % 97 else 0
  | 6 => if n = 0 then b else v (16 * a + (n - 1)) * zs_inv n % 97
  | 7 => if n = 0 then zs_inv (v (16 * a)) else (97 - v (16 * s) * (zs_sum (fun i => v (16 * a + (i + 1)) * v (16 * s + (n - (i + 1)))) n % 97) % 97) % 97
  | 8 => if n = 0 then b else v (16 * a + (n - 1))
  | 9 => zs_sum (fun j => v (16 * a + j) * zs_pw (fun d => v (16 * b + d)) j n) (n + 1) % 97
  | _ => 0
theorem zs_k10 {k : Nat} (h : k ≤ 9) : k = 0 ∨ k = 1 ∨ k = 2 ∨ k = 3 ∨ k = 4 ∨ k = 5 ∨ k = 6 ∨ k = 7 ∨ k = 8 ∨ k = 9 := by omega
theorem zs_vl_lt {k a b s n : Nat} {v : Nat → Nat} (hb : b < 97) (hv : ∀ q, v q < 97) : zs_vl k a b s n v < 97 := by
  unfold zs_vl
  split
  · split <;> omega
  · split <;> omega
  · omega
  · omega
  · omega
  · split <;> omega
  · split
    · exact hb
    · omega
  · split
    · exact zs_inv_lt _
    · omega
  · split
    · exact hb
    · exact hv _
  · omega
  · omega
theorem zs_cg {k a b s n : Nat} {v w : Nat → Nat} (hk : k ≤ 9) (ha : a < 8) (hb : k = 2 ∨ k = 3 ∨ k = 9 → b < 8) (hs : s < 8) (hn : n < 16) (H : ∀ t m, t < 8 → m < 16 → zs_nd k a b s n t m = true → v (16 * t + m) = w (16 * t + m)) : zs_rl k a b n v = zs_rl k a b n w ∧ zs_vl k a b s n v = zs_vl k a b s n w := by
  rcases zs_k10 hk with rfl | rfl | rfl | rfl | rfl | rfl | rfl | rfl | rfl | rfl
  · exact ⟨rfl, rfl⟩
  · exact ⟨rfl, rfl⟩
  · have h1 := H a n ha hn (by simp [zs_nd])
    have h2 := H b n (hb (by decide)) hn (by simp [zs_nd])
    refine ⟨rfl, ?_⟩
    show (v (16 * a + n) + v (16 * b + n)) % 97 = (w (16 * a + n) + w (16 * b + n)) % 97
    rw [h1, h2]
  · have h1 : ∀ i, i ≤ n → v (16 * a + i) = w (16 * a + i) := fun i hi => H a i ha (by omega) (by simp [zs_nd, hi])
    have h2 : ∀ i, i ≤ n → v (16 * b + i) = w (16 * b + i) := fun i hi => H b i (hb (by decide)) (by omega) (by simp [zs_nd, hi])
    refine ⟨rfl, congrArg (· % 97) (zs_sum_congr fun i hi => ?_)⟩
    show v (16 * a + i) * v (16 * b + (n - i)) = w (16 * a + i) * w (16 * b + (n - i))
    rw [h1 i (by omega), h2 (n - i) (by omega)]
  · have h1 := H a n ha hn (by simp [zs_nd])
    refine ⟨rfl, ?_⟩
    show b * v (16 * a + n) % 97 = b * w (16 * a + n) % 97
    rw [h1]
  · refine ⟨rfl, ?_⟩
    show (if n + 1 < 16 then (n + 1) * v (16 * a + (n + 1)) % 97 else 0) = (if n + 1 < 16 then (n + 1) * w (16 * a + (n + 1)) % 97 else 0)
    by_cases c : n + 1 < 16
    · rw [if_pos c, if_pos c, H a (n + 1) ha c (by simp [zs_nd])]
    · rw [if_neg c, if_neg c]
  · refine ⟨rfl, ?_⟩
    show (if n = 0 then b else v (16 * a + (n - 1)) * zs_inv n % 97) = (if n = 0 then b else w (16 * a + (n - 1)) * zs_inv n % 97)
    by_cases c : n = 0
    · rw [if_pos c, if_pos c]
    · rw [if_neg c, if_neg c, H a (n - 1) ha (by omega) (by have : n - 1 + 1 = n := by omega
                                                            simp [zs_nd, this])]
  · have h1 : ∀ i, i ≤ n → v (16 * a + i) = w (16 * a + i) := fun i hi => H a i ha (by omega) (by simp [zs_nd, hi])
    have h2 : ∀ i, i < n → v (16 * s + i) = w (16 * s + i) := fun i hi => H s i hs (by omega) (by simp [zs_nd, hi])
    have h0 : v (16 * a) = w (16 * a) := h1 0 (by omega)
    refine ⟨?_, ?_⟩
    · show decide (v (16 * a) = 0) = decide (w (16 * a) = 0)
      rw [h0]
    · show (if n = 0 then zs_inv (v (16 * a)) else (97 - v (16 * s) * (zs_sum (fun i => v (16 * a + (i + 1)) * v (16 * s + (n - (i + 1)))) n % 97) % 97) % 97) = (if n = 0 then zs_inv (w (16 * a)) else (97 - w (16 * s) * (zs_sum (fun i => w (16 * a + (i + 1)) * w (16 * s + (n - (i + 1)))) n % 97) % 97) % 97)
      by_cases c : n = 0
      · rw [if_pos c, if_pos c, h0]
      · have e : zs_sum (fun i => v (16 * a + (i + 1)) * v (16 * s + (n - (i + 1)))) n = zs_sum (fun i => w (16 * a + (i + 1)) * w (16 * s + (n - (i + 1)))) n := by
          refine zs_sum_congr fun i hi => ?_
          show v (16 * a + (i + 1)) * v (16 * s + (n - (i + 1))) = w (16 * a + (i + 1)) * w (16 * s + (n - (i + 1)))
          rw [h1 (i + 1) (by omega), h2 (n - (i + 1)) (by omega)]
        have e0 : v (16 * s) = w (16 * s) := h2 0 (by omega)
        rw [if_neg c, if_neg c, e, e0]
  · refine ⟨rfl, ?_⟩
    show (if n = 0 then b else v (16 * a + (n - 1))) = (if n = 0 then b else w (16 * a + (n - 1)))
    by_cases c : n = 0
    · rw [if_pos c, if_pos c]
    · rw [if_neg c, if_neg c, H a (n - 1) ha (by omega) (by have : n - 1 + 1 = n := by omega
                                                            simp [zs_nd, this])]
  · have h1 : ∀ i, i ≤ n → v (16 * a + i) = w (16 * a + i) := fun i hi => H a i ha (by omega) (by simp [zs_nd, hi])
    have h2 : ∀ i, i ≤ n → v (16 * b + i) = w (16 * b + i) := fun i hi => H b i (hb (by decide)) (by omega) (by simp [zs_nd, hi])
    have h0 : v (16 * b) = w (16 * b) := h2 0 (by omega)
    refine ⟨?_, congrArg (· % 97) (zs_sum_congr fun i hi => ?_)⟩
    · show decide (v (16 * b) ≠ 0) = decide (w (16 * b) ≠ 0)
      rw [h0]
    · show v (16 * a + i) * zs_pw (fun d => v (16 * b + d)) i n = w (16 * a + i) * zs_pw (fun d => w (16 * b + d)) i n
      rw [h1 i (by omega), zs_pw_congr (c := fun d => w (16 * b + d)) (fun d hd => h2 d hd) i n (Nat.le_refl n)]
/-! the definitions of the eight series, and the least table -/
def zs_need (K A B : Nat → Nat) (p q : Nat) : Bool := zs_nd (K (p / 16)) (A (p / 16)) (B (p / 16)) (p / 16) (p % 16) (q / 16) (q % 16)
def zs_rul (K A B : Nat → Nat) (v : Nat → Nat) (p : Nat) : Bool := zs_rl (K (p / 16)) (A (p / 16)) (B (p / 16)) (p % 16) v
def zs_val (K A B : Nat → Nat) (v : Nat → Nat) (p : Nat) : Nat := zs_vl (K (p / 16)) (A (p / 16)) (B (p / 16)) (p / 16) (p % 16) v
def zs_Gd (K A B : Nat → Nat) : Prop := ∀ s, s < 8 → K s ≤ 9 ∧ A s < 8 ∧ B s < 97 ∧ (K s = 2 ∨ K s = 3 ∨ K s = 9 → B s < 8)
def zs_All (K A B : Nat → Nat) (h : Nat → Bool) (p : Nat) : Prop := ∀ q, q < 128 → zs_need K A B p q = true → h q = true
def zs_Cl (K A B : Nat → Nat) (h : Nat → Bool) (v : Nat → Nat) : Prop := ∀ p, p < 128 → zs_All K A B h p → zs_rul K A B v p = false → h p = true ∧ v p = zs_val K A B v p
def zs_Bel (K A B : Nat → Nat) (h : Nat → Bool) (v : Nat → Nat) : Prop := ∀ h2 v2, zs_Cl K A B h2 v2 → ∀ p, p < 128 → h p = true → h2 p = true ∧ v2 p = v p
def zs_Con (K A B : Nat → Nat) (h : Nat → Bool) (v : Nat → Nat) : Prop := ∀ p, p < 128 → h p = true → zs_All K A B h p ∧ zs_rul K A B v p = false ∧ v p = zs_val K A B v p
def zs_Lf (K A B : Nat → Nat) (h : Nat → Bool) (v : Nat → Nat) : Prop := zs_Cl K A B h v ∧ zs_Bel K A B h v
theorem zs_uni {K A B : Nat → Nat} {h h2 : Nat → Bool} {v v2 : Nat → Nat} (a : zs_Lf K A B h v) (b : zs_Lf K A B h2 v2) : ∀ p, p < 128 → h p = h2 p ∧ (h p = true → v p = v2 p) := by
  intro p hp
  have f := a.2 h2 v2 b.1 p hp
  have g := b.2 h v a.1 p hp
  cases e : h p with
  | true => exact ⟨(f e).1.symm, fun _ => (f e).2.symm⟩
  | false =>
    refine ⟨?_, fun z => nomatch z⟩
    cases e2 : h2 p with
    | true => exact absurd (g e2).1 (by rw [e]; decide)
    | false => rfl
theorem zs_cong {K A B : Nat → Nat} (G : zs_Gd K A B) {p : Nat} (hp : p < 128) {v w : Nat → Nat} (h : ∀ q, q < 128 → zs_need K A B p q = true → v q = w q) : zs_rul K A B v p = zs_rul K A B w p ∧ zs_val K A B v p = zs_val K A B w p := by
  have hs : p / 16 < 8 := by omega
  obtain ⟨g1, g2, g3, g4⟩ := G (p / 16) hs
  refine zs_cg g1 g2 g4 hs (by omega) fun t m ht hm hn => h (16 * t + m) (by omega) ?_
  unfold zs_need
  rw [show (16 * t + m) / 16 = t from by omega, show (16 * t + m) % 16 = m from by omega]
  exact hn
theorem zs_step {K A B : Nat → Nat} (G : zs_Gd K A B) {h : Nat → Bool} {v : Nat → Nat} (hB : zs_Bel K A B h v) (hC : zs_Con K A B h v) {p : Nat} (hp : p < 128) (hh : h p = false) (ha : zs_All K A B h p) (hr : zs_rul K A B v p = false) : zs_Bel K A B (zs_ub h p true) (zs_un v p (zs_val K A B v p)) ∧ zs_Con K A B (zs_ub h p true) (zs_un v p (zs_val K A B v p)) := by
  have keep : ∀ q, h q = true → q ≠ p := fun q hq e => by rw [e, hh] at hq; exact nomatch hq
  constructor
  · intro h2 v2 c q hq hq2
    by_cases z : q = p
    · subst z
      have e : ∀ q', q' < 128 → zs_need K A B q q' = true → v q' = v2 q' := fun q' l n => (hB h2 v2 c q' l (ha q' l n)).2.symm
      have cg := zs_cong G hq e
      have r := c q hq (fun q' l n => (hB h2 v2 c q' l (ha q' l n)).1) (by rw [← cg.1]; exact hr)
      rw [zs_un_s]
      exact ⟨r.1, r.2.trans cg.2.symm⟩
    · rw [zs_ub_n z] at hq2
      rw [zs_un_n z]
      exact hB h2 v2 c q hq hq2
  · have sub : ∀ q, zs_All K A B h q → zs_All K A B (zs_ub h p true) q := fun q a q' l n => by
      rw [zs_ub_n (keep q' (a q' l n))]
      exact a q' l n
    have cg : ∀ q, q < 128 → zs_All K A B h q → zs_rul K A B (zs_un v p (zs_val K A B v p)) q = zs_rul K A B v q ∧ zs_val K A B (zs_un v p (zs_val K A B v p)) q = zs_val K A B v q := fun q l a => zs_cong G l fun q' l' n' => zs_un_n (keep q' (a q' l' n'))
    intro q hq hq2
    by_cases z : q = p
    · subst z
      have c := cg q hq ha
      exact ⟨sub q ha, by rw [c.1]; exact hr, by rw [c.2, zs_un_s]⟩
    · rw [zs_ub_n z] at hq2
      obtain ⟨a1, a2, a3⟩ := hC q hq hq2
      have c := cg q hq a1
      exact ⟨sub q a1, by rw [c.1]; exact a2, by rw [c.2, zs_un_n z]; exact a3⟩
/-! reduction to 0 .. 96 -/
def zs_md (x : Int32) : Nat := (x.toInt % 97).toNat
theorem zs_md_lt (x : Int32) : zs_md x < 97 := by unfold zs_md; omega
theorem zs_97 : (97 : Int32).toInt = 97 := by decide
theorem zs_rem (x : Int32) : (x - x / 97 * 97).toInt = x.toInt.tmod 97 := by rw [rem_toInt, zs_97]
theorem zs_tm (a : Int) : -97 < a.tmod 97 ∧ a.tmod 97 < 97 ∧ ((a.tmod 97 < 0 → a % 97 = a.tmod 97 + 97) ∧ (¬ a.tmod 97 < 0 → a % 97 = a.tmod 97)) := by
  have t := tmod_bounds (a := a) (M := 97) (by decide)
  have e := Int.mul_tdiv_add_tmod a 97
  generalize a.tmod 97 = r at *
  generalize a.tdiv 97 = d at *
  omega
theorem zs_red {x r : Int32} (hr : r = x - x / 97 * 97) : (r < 0 → r + 97 = nI (zs_md x)) ∧ (¬ r < 0 → r = nI (zs_md x)) := by
  have e : r.toInt = x.toInt.tmod 97 := by rw [hr]; exact zs_rem x
  obtain ⟨t1, t2, t3, t4⟩ := zs_tm x.toInt
  rw [← e] at t1 t2 t3 t4
  have l : r < 0 ↔ r.toInt < 0 := by rw [Int32.lt_iff_toInt_lt]; exact Iff.rfl
  have m : (nI (zs_md x)).toInt = x.toInt % 97 := by
    rw [nI_toInt (Nat.lt_trans (zs_md_lt x) (by decide))]
    unfold zs_md
    omega
  constructor
  · intro h
    apply Int32.toInt_inj.mp
    rw [m, t3 (l.mp h), Int32.toInt_add, zs_97]
    exact Int.bmod_eq_of_le (by omega) (by omega)
  · intro h
    apply Int32.toInt_inj.mp
    rw [m, t4 (fun z => h (l.mpr z))]
theorem zs_md_n {n : Nat} (h : n < 2 ^ 31) : zs_md (nI n) = n % 97 := by
  unfold zs_md
  rw [nI_toInt h]
  omega
theorem zs_neg {w : Nat} (h : w < 2 ^ 31) : (-nI w).toInt = -(w : Int) := by
  rw [Int32.toInt_neg, nI_toInt h]
  exact Int.bmod_eq_of_le (by omega) (by omega)
theorem zs_md_neg {n : Nat} (h : n < 2 ^ 31) : zs_md (-nI n) = (97 - n % 97) % 97 := by
  unfold zs_md
  rw [zs_neg h]
  omega
theorem zs_r97 {a : Nat} (h : a < 2 ^ 31) : nI a - nI a / 97 * 97 = nI (a % 97) := pk_rem (d := 97) h (by decide) (by decide)
