section
variable {K A B : Nat → Nat} {h : Nat → Bool} {v : Nat → Nat} {f1 f2 f3 f4 f5 f6 f7 f8 : Nat → Int32}
/-! direct -/
theorem zy_a1 {post : Int32 → Prop} {s t : Nat} (hs : s < 8) (ha : A s < 8) (ht : t < 8) (P : post (zs_b (decide (t = A s)))) : vp_in (nI s) 8 ∧ ((nI t = (zs_N A (nI s).toNatClampNeg) → post 1) ∧ (¬ nI t = (zs_N A (nI s).toNatClampNeg) → post 0)) := by
  refine ⟨vp_in_nI hs (by decide), pk_eq t (A s) (fun e => ?_) (fun e => ?_) rfl (zs_at rfl (by omega))⟩
  · rw [decide_eq_true e] at P; exact P
  · rw [decide_eq_false e] at P; exact P
theorem zy_ab {post : Int32 → Prop} {s t : Nat} (hs : s < 8) (ha : A s < 8) (hb : B s < 97) (ht : t < 8) (P : post (zs_b (decide (t = A s) || decide (t = B s)))) : vp_in (nI s) 8 ∧ ((nI t = (zs_N A (nI s).toNatClampNeg) → post 1) ∧ (¬ nI t = (zs_N A (nI s).toNatClampNeg) → (vp_in (nI s) 8 ∧ ((nI t = (zs_N B (nI s).toNatClampNeg) → post 1) ∧ (¬ nI t = (zs_N B (nI s).toNatClampNeg) → post 0))))) := by
  refine ⟨vp_in_nI hs (by decide), pk_eq t (A s) (fun e => ?_) (fun e => ⟨vp_in_nI hs (by decide), pk_eq t (B s) (fun e2 => ?_) (fun e2 => ?_) rfl (zs_at rfl (by omega))⟩) rfl (zs_at rfl (by omega))⟩
  · rw [decide_eq_true e] at P; exact P
  · rw [decide_eq_false e, decide_eq_true e2] at P; exact P
  · rw [decide_eq_false e, decide_eq_false e2] at P; exact P
theorem zy_d59 {post : Int32 → Prop} {s n t m : Nat} (hs : s < 8) (ha : A s < 8) (hb : B s < 97) (hn : n < 16) (ht : t < 8) (hm : m < 16) (P : post (zs_b (decide (m ≤ n) && (decide (t = A s) || decide (t = B s))))) : wY_direct_59 post (nI s) (nI n) (nI t) (nI m) f1 (zs_N A) (zs_N B) f4 f5 f6 f7 f8 := by
  refine pk_lt n m (fun e => ?_) (fun e => ?_)
  · rw [decide_eq_false (show ¬ m ≤ n by omega)] at P; exact P
  · rw [decide_eq_true e] at P; exact zy_ab hs ha hb ht P
theorem zy_d169 {post : Int32 → Prop} {s n t m : Nat} (hs : s < 8) (ha : A s < 8) (hn : n < 16) (ht : t < 8) (hm : m < 16) (P : post (zs_b (decide (m + 1 = n) && decide (t = A s)))) : wY_direct_169 post (nI s) (nI n) (nI t) (nI m) f1 (zs_N A) f3 f4 f5 f6 f7 f8 := by
  refine pk_le n 0 (fun e => ?_) (fun e => ?_)
  · rw [decide_eq_false (show ¬ m + 1 = n by omega)] at P; exact P
  · obtain ⟨n', rfl⟩ : ∃ n', n = n' + 1 := ⟨n - 1, by omega⟩
    refine pk_eq m n' (fun e => ?_) (fun e => ?_) rfl (nI_pred n')
    · rw [decide_eq_true (show m + 1 = n' + 1 by omega)] at P
      exact zy_a1 hs ha ht P
    · rw [decide_eq_false (show ¬ m + 1 = n' + 1 by omega)] at P
      exact P
theorem zy_d220 {post : Int32 → Prop} {s n t m : Nat} (hs : s < 8) (hn : n < 16) (ht : t < 8) (hm : m < 16) (P : post (zs_b (decide (m < n) && decide (t = s)))) : wY_direct_220 post (nI s) (nI n) (nI t) (nI m) f1 f2 f3 f4 f5 f6 f7 f8 := by
  refine pk_le n m (fun e => ?_) (fun e => pk_eq t s (fun e2 => ?_) (fun e2 => ?_))
  · rw [decide_eq_false (show ¬ m < n by omega)] at P; exact P
  · rw [decide_eq_true e, decide_eq_true e2] at P; exact P
  · rw [decide_eq_true e, decide_eq_false e2] at P; exact P
theorem zy_dir {post : Int32 → Prop} (G : zs_Gd K A B) {s n t m : Nat} (hs : s < 8) (hn : n < 16) (ht : t < 8) (hm : m < 16) (P : post (zs_b (zs_nd (K s) (A s) (B s) s n t m))) : wpY_direct post (zs_N K, zs_N A, zs_N B, f4, f5, f6, f7, f8) (nI s) (nI n) (nI t) (nI m) := by
  obtain ⟨g1, g2, g3, g4⟩ := G s hs
  refine ⟨vp_in_nI hs (by decide), nm_r (zs_at rfl (by omega)) ?_⟩
  generalize hk : K s = k at *
  rcases zs_k10 g1 with rfl | rfl | rfl | rfl | rfl | rfl | rfl | rfl | rfl | rfl
  · exact br_f (by decide) (br_f (by decide) (br_f (by decide) (br_f (by decide) (br_f (by decide) (br_f (by decide) (br_f (by decide) (br_f (by decide) P)))))))
  · exact br_f (by decide) (br_f (by decide) (br_f (by decide) (br_f (by decide) (br_f (by decide) (br_f (by decide) (br_f (by decide) (br_f (by decide) P)))))))
  · have Q : post (zs_b (decide (m = n) && (decide (t = A s) || decide (t = B s)))) := P
    refine br_t (by decide) (pk_eq m n (fun e => ?_) (fun e => ?_))
    · rw [decide_eq_true e] at Q; exact zy_ab hs g2 g3 ht Q
    · rw [decide_eq_false e] at Q; exact Q
  · exact br_f (by decide) (br_t (by decide) (zy_d59 hs g2 g3 hn ht hm P))
  · have Q : post (zs_b (decide (m = n) && decide (t = A s))) := P
    refine br_f (by decide) (br_f (by decide) (br_f (by decide) (br_t (by decide) (pk_eq m n (fun e => ?_) (fun e => ?_)))))
    · rw [decide_eq_true e] at Q; exact zy_a1 hs g2 ht Q
    · rw [decide_eq_false e] at Q; exact Q
  · have Q : post (zs_b (decide (m = n + 1) && decide (t = A s))) := P
    refine br_f (by decide) (br_f (by decide) (br_f (by decide) (br_f (by decide) (br_t (by decide) (pk_le 15 n (fun e => ?_) (fun e => pk_eq m (n + 1) (fun e => ?_) (fun e => ?_) rfl (nI_1 n)))))))
    · rw [decide_eq_false (show ¬ m = n + 1 by omega)] at Q; exact Q
    · rw [decide_eq_true e] at Q; exact zy_a1 hs g2 ht Q
    · rw [decide_eq_false e] at Q; exact Q
  · exact br_f (by decide) (br_f (by decide) (br_f (by decide) (br_f (by decide) (br_f (by decide) (br_t (by decide) (zy_d169 hs g2 hn ht hm P))))))
  · have Q : post (zs_b ((decide (m ≤ n) && decide (t = A s)) || (decide (m < n) && decide (t = s)))) := P
    refine br_f (by decide) (br_f (by decide) (br_f (by decide) (br_f (by decide) (br_f (by decide) (br_f (by decide) (br_f (by decide) (br_t (by decide) (pk_lt n m (fun e => ?_) (fun e => ?_)))))))))
    · rw [decide_eq_false (show ¬ m ≤ n by omega)] at Q
      exact zy_d220 hs hn ht hm Q
    · rw [decide_eq_true e] at Q
      refine ⟨vp_in_nI hs (by decide), pk_eq t (A s) (fun e2 => ?_) (fun e2 => ?_) rfl (zs_at rfl (by omega))⟩
      · rw [decide_eq_true e2] at Q; exact Q
      · rw [decide_eq_false e2] at Q; exact zy_d220 hs hn ht hm Q
  · exact br_f (by decide) (br_f (by decide) (br_f (by decide) (br_f (by decide) (br_f (by decide) (br_f (by decide) (br_t (by decide) (zy_d169 hs g2 hn ht hm P)))))))
  · exact br_f (by decide) (br_f (by decide) (br_t (by decide) (zy_d59 hs g2 g3 hn ht hm P)))
/-! ready -/
theorem zs_and7 {n : Nat} (h : n < 97) : nI n &&& 7 = nI (n % 8) := by
  have a : ∀ n, n < 97 → nI n &&& 7 = nI (n % 8) := by decide +kernel
  exact a n h
theorem zs_nd_t {k a b s n t m : Nat} (e : zs_nd k a b s n t m = true) : t = a ∨ t = b ∨ t = s := by
  unfold zs_nd at e
  split at e <;> simp at e <;> omega
theorem zs_needQ (s n t m : Nat) (hn : n < 16) (hm : m < 16) : zs_need K A B (16 * s + n) (16 * t + m) = zs_nd (K s) (A s) (B s) s n t m := by
  unfold zs_need
  rw [show (16 * s + n) / 16 = s from by omega, show (16 * s + n) % 16 = n from by omega, show (16 * t + m) / 16 = t from by omega, show (16 * t + m) % 16 = m from by omega]
theorem zs_ix {a i : Nat} {x : Int32} (e : x = nI a) : 16 * x + nI i = nI (16 * a + i) := by rw [e, zs_16, nI_add]
theorem zy_chk {C D E : Prop} (G : zs_Gd K A B) {s n t m : Nat} {x y : Int32} (hs : s < 8) (hn : n < 16) (ht : t < 8) (hm : m < 16) (hx : x = nI t) (hy : y = 16 * x + nI m) (c1 : zs_need K A B (16 * s + n) (16 * t + m) = false → C) (c2 : zs_need K A B (16 * s + n) (16 * t + m) = true → h (16 * t + m) = false → D) (c3 : h (16 * t + m) = true → E) : wpY_direct (fun r => ((r = 0 → C) ∧ (¬ r = 0 → (vp_in y 128 ∧ ((((zs_B h y.toNatClampNeg) = 0 → D) ∧ (¬ (zs_B h y.toNatClampNeg) = 0 → E))))))) (zs_N K, zs_N A, zs_N B, zs_B h, f5, f6, f7, f8) (nI s) (nI n) x (nI m) := by
  subst hx
  have e : y = nI (16 * t + m) := hy.trans (zs_ix rfl)
  refine zy_dir G hs hn ht hm ?_
  rw [← zs_needQ (K := K) (A := A) (B := B) s n t m hn hm]
  cases q : zs_need K A B (16 * s + n) (16 * t + m) with
  | false => exact br_t rfl (c1 q)
  | true =>
    refine br_f (by decide) ⟨pk_in _ 128 (by omega) e, ?_⟩
    cases hh : h (16 * t + m) with
    | false => exact br_t (zs_hF e (by omega) hh) (c2 q hh)
    | true => exact br_f (zs_hT e (by omega) hh) (c3 hh)
theorem zs_nAll {p q : Nat} (hq : q < 128) (a : zs_need K A B p q = true) (b : h q = false) : ¬ zs_All K A B h p := fun c => by
  have := c q hq a
  rw [b] at this
  exact nomatch this
theorem zy_readyL {post : Int32 → Prop} (G : zs_Gd K A B) {s n c : Nat} (hs : s < 8) (hn : n < 16) (hc : c = B s % 8) (h1 : zs_All K A B h (16 * s + n) → post 1) (h0 : ¬ zs_All K A B h (16 * s + n) → post 0) : ∀ d i, i + d = 16 → (∀ m t, m < i → t = A s ∨ t = c ∨ t = s → zs_need K A B (16 * s + n) (16 * t + m) = true → h (16 * t + m) = true) → wY_ready_13 post (nI s) (nI n) (nI c) (zs_N K) (zs_N A) (zs_N B) (zs_B h) f5 f6 f7 f8 (d + 1) (nI i) := by
  obtain ⟨g1, g2, g3, g4⟩ := G s hs
  intro d
  induction d with
  | zero =>
    intro i hi a
    refine pk_le 16 i (fun _ => h1 fun q hq nq => ?_) (fun e => absurd e (by omega))
    have nq2 := nq
    unfold zs_need at nq2
    rw [show (16 * s + n) / 16 = s from by omega] at nq2
    have eq : 16 * (q / 16) + q % 16 = q := by omega
    have r := a (q % 16) (q / 16) (by omega) (by rcases zs_nd_t nq2 with z | z | z <;> omega)
    rw [eq] at r
    exact r nq
  | succ d ih =>
    intro i hi a
    have hl : i < 16 := by omega
    have ea : zs_N A (nI s).toNatClampNeg = nI (A s) := zs_at rfl (by omega)
    have st : ∀ t, t < 8 → zs_need K A B (16 * s + n) (16 * t + i) = true → h (16 * t + i) = false → post 0 := fun t ht x y => h0 (zs_nAll (by omega) x y)
    have ok : (zs_need K A B (16 * s + n) (16 * A s + i) = true → h (16 * A s + i) = true) → (zs_need K A B (16 * s + n) (16 * c + i) = true → h (16 * c + i) = true) → (zs_need K A B (16 * s + n) (16 * s + i) = true → h (16 * s + i) = true) → wY_ready_13 post (nI s) (nI n) (nI c) (zs_N K) (zs_N A) (zs_N B) (zs_B h) f5 f6 f7 f8 (d + 1) (nI (i + 1)) := fun x y z => by
      refine ih (i + 1) (by omega) fun m t hm ht => ?_
      by_cases e : m = i
      · subst e
        rcases ht with rfl | rfl | rfl
        · exact x
        · exact y
        · exact z
      · exact a m t (by omega) ht
    have nF : ∀ {x : Bool} {R : Prop}, x = false → (x = true → R) := fun e z => by rw [e] at z; exact nomatch z
    have s3 : (zs_need K A B (16 * s + n) (16 * A s + i) = true → h (16 * A s + i) = true) → (zs_need K A B (16 * s + n) (16 * c + i) = true → h (16 * c + i) = true) → wY_ready_88 post (wY_ready_13 post (nI s) (nI n) (nI c) (zs_N K) (zs_N A) (zs_N B) (zs_B h) f5 f6 f7 f8 (d + 1)) (nI s) (nI n) (nI c) (nI i) (zs_N K) (zs_N A) (zs_N B) (zs_B h) f5 f6 f7 f8 := fun x y =>
      zy_chk G hs hn hs hl rfl rfl (fun q => nm_r (nI_1 i) (ok x y (nF q))) (st s hs) (fun q => nm_r (nI_1 i) (ok x y (fun _ => q)))
    have s2 : (zs_need K A B (16 * s + n) (16 * A s + i) = true → h (16 * A s + i) = true) → wY_ready_59 post (wY_ready_13 post (nI s) (nI n) (nI c) (zs_N K) (zs_N A) (zs_N B) (zs_B h) f5 f6 f7 f8 (d + 1)) (nI s) (nI n) (nI c) (nI i) (zs_N K) (zs_N A) (zs_N B) (zs_B h) f5 f6 f7 f8 := fun x =>
      zy_chk G hs hn (by omega : c < 8) hl rfl rfl (fun q => s3 x (nF q)) (st c (by omega)) (fun q => s3 x (fun _ => q))
    refine pk_le 16 i (fun e => absurd e (by omega)) (fun _ => ⟨vp_in_nI hs (by decide), ?_⟩)
    rw [ea]
    refine zy_dir G hs hn g2 hl ?_
    rw [← zs_needQ (K := K) (A := A) (B := B) s n (A s) i hn hl]
    cases q : zs_need K A B (16 * s + n) (16 * A s + i) with
    | false => exact br_t rfl (s2 (nF q))
    | true =>
      refine br_f (by decide) ⟨vp_in_nI hs (by decide), pk_in _ 128 (by omega) (zs_ix rfl), ?_⟩
      cases hh : h (16 * A s + i) with
      | false => exact br_t (zs_hF (zs_ix rfl) (by omega) hh) (st (A s) g2 q hh)
      | true => exact br_f (zs_hT (zs_ix rfl) (by omega) hh) (s2 (fun _ => hh))
theorem zy_ready {post : Int32 → Prop} (G : zs_Gd K A B) {s n : Nat} (hs : s < 8) (hn : n < 16) (h1 : zs_All K A B h (16 * s + n) → post 1) (h0 : ¬ zs_All K A B h (16 * s + n) → post 0) : wpY_ready post (zs_N K, zs_N A, zs_N B, zs_B h, f5, f6, f7, f8) (nI s) (nI n) := by
  obtain ⟨g1, g2, g3, g4⟩ := G s hs
  have e : zs_N B (nI s).toNatClampNeg &&& 7 = nI (B s % 8) := by
    rw [zs_at rfl (by omega)]
    exact zs_and7 (by omega)
  exact ⟨vp_in_nI hs (by decide), nm_r e ⟨17, zy_readyL G hs hn rfl h1 h0 16 0 rfl (fun m t hm => absurd hm (by omega))⟩⟩
end
