section
variable {K A B : Nat → Nat} {h : Nat → Bool} {v : Nat → Nat} {f1 f2 f3 f4 f5 f6 f7 f8 : Nat → Int32}
theorem zs_at {f : Nat → Nat} {x : Int32} {q : Nat} (e : x = nI q) (hq : q < 2 ^ 31) : zs_N f x.toNatClampNeg = nI (f q) := by
  rw [e, nI_clamp hq]
  rfl
theorem zs_atB {f : Nat → Bool} {x : Int32} {q : Nat} (e : x = nI q) (hq : q < 2 ^ 31) : zs_B f x.toNatClampNeg = zs_b (f q) := by
  rw [e, nI_clamp hq]
  rfl
theorem zs_hF {f : Nat → Bool} {x : Int32} {q : Nat} (e : x = nI q) (hq : q < 2 ^ 31) (hh : f q = false) : zs_B f x.toNatClampNeg = 0 := by
  rw [zs_atB e hq, hh]
  rfl
theorem zs_hT {f : Nat → Bool} {x : Int32} {q : Nat} (e : x = nI q) (hq : q < 2 ^ 31) (hh : f q = true) : ¬ zs_B f x.toNatClampNeg = 0 := by
  rw [zs_atB e hq, hh]
  decide
theorem zs_i3 {a n i : Nat} (hi : i ≤ n) : nI a + nI n - nI i = nI (a + (n - i)) := by
  rw [nI_add, pk_sub (by omega)]
  exact congrArg nI (by omega)
theorem zs_16 (a : Nat) : 16 * nI a = nI (16 * a) := pk_mul 16 a
theorem zs_d16 {p : Nat} (hp : p < 128) : nI p / 16 = nI (p / 16) := pk_div (d := 16) (by omega) (by decide) (by decide)
theorem zs_m16 {p : Nat} (hp : p < 128) : nI p - nI p / 16 * 16 = nI (p % 16) := pk_rem (d := 16) (by omega) (by decide) (by decide)
theorem zs_bn : vp_nar .boolean 1 = zs_b true := by decide
theorem zs_bf : vp_nar .boolean 0 = zs_b false := by decide
/-! needsDirectly -/
theorem zx_nd228 {post : Int32 → Prop} {s n t m : Nat} (hs : s < 8) (hn : n < 16) (ht : t < 8) (hm : m < 16) (P : post (zs_b (decide (m < n) && decide (t = s)))) : wX_needsDirectly_228 post (nI s) (nI n) (nI t) (nI m) f1 f2 f3 f4 f5 f6 f7 f8 := by
  refine pk_le n m (fun e => ?_) (fun e => pk_eq t s (fun e2 => ?_) (fun e2 => ?_))
  · rw [decide_eq_false (show ¬ m < n by omega)] at P; exact P
  · rw [decide_eq_true e, decide_eq_true e2] at P; exact P
  · rw [decide_eq_true e, decide_eq_false e2] at P; exact P
theorem zx_nd196 {post : Int32 → Prop} {n m : Nat} {ca : Bool} (hn : n < 16) (hm : m < 16) (P : post (zs_b (decide (m + 1 = n) && ca))) : wX_needsDirectly_196 post (nI n) (nI m) (zs_b ca) f1 f2 f3 f4 f5 f6 f7 f8 := by
  cases n with
  | zero =>
    have z : ¬ nI m = nI 0 - 1 := by
      intro e
      have e2 := congrArg Int32.toInt e
      rw [nI_toInt (by omega), show (nI 0 - 1).toInt = -1 from by decide] at e2
      omega
    refine br_f z ?_
    rw [decide_eq_false (show ¬ m + 1 = 0 by omega)] at P
    exact P
  | succ n =>
    refine pk_eq m n (fun e => ?_) (fun e => ?_) rfl (nI_pred n)
    · rw [decide_eq_true (show m + 1 = n + 1 by omega)] at P
      cases ca
      · exact br_t rfl P
      · exact br_f (by decide) P
    · rw [decide_eq_false (show ¬ m + 1 = n + 1 by omega)] at P
      exact P
theorem zx_nd135 {post : Int32 → Prop} {n m : Nat} {ca cb : Bool} (hn : n < 16) (hm : m < 16) (P : post (zs_b (decide (m ≤ n) && (ca || cb)))) : wX_needsDirectly_135 post (nI n) (nI m) (zs_b ca) (zs_b cb) f1 f2 f3 f4 f5 f6 f7 f8 := by
  refine pk_lt n m (fun e => ?_) (fun e => ?_)
  · rw [decide_eq_false (show ¬ m ≤ n by omega)] at P; exact P
  · rw [decide_eq_true e] at P
    cases ca
    · refine br_t rfl ?_
      cases cb
      · exact br_t rfl P
      · exact br_f (by decide) P
    · exact br_f (by decide) P
theorem zx_nd57 {post : Int32 → Prop} {s n t m : Nat} {ca cb : Bool} (hs : s < 8) (hk : K s ≤ 9) (hn : n < 16) (ht : t < 8) (hm : m < 16) (hca : ca = decide (t = A s)) (hcb : cb = decide (t = B s)) (P : post (zs_b (zs_nd (K s) (A s) (B s) s n t m))) : wX_needsDirectly_57 post (nI s) (nI n) (nI t) (nI m) (zs_b ca) (zs_b cb) (zs_N K) f2 f3 f4 f5 f6 f7 f8 := by
  refine ⟨vp_in_nI hs (by decide), nm_r (zs_at rfl (by omega)) ?_⟩
  generalize K s = k at *
  generalize A s = a at *
  generalize B s = b at *
  rcases zs_k10 hk with rfl | rfl | rfl | rfl | rfl | rfl | rfl | rfl | rfl | rfl
  · exact br_t (by decide) P
  · exact br_t (by decide) P
  · have Q : post (zs_b (decide (m = n) && (ca || cb))) := by rw [hca, hcb]; exact P
    refine br_f (by decide) (br_f (by decide) (br_t (by decide) (pk_eq m n (fun e => ?_) (fun e => ?_))))
    · rw [decide_eq_true e] at Q
      cases ca
      · refine br_t rfl ?_
        cases cb
        · exact br_t rfl Q
        · exact br_f (by decide) Q
      · exact br_f (by decide) Q
    · rw [decide_eq_false e] at Q; exact Q
  · have Q : post (zs_b (decide (m ≤ n) && (ca || cb))) := by rw [hca, hcb]; exact P
    exact br_f (by decide) (br_f (by decide) (br_f (by decide) (br_t (by decide) (zx_nd135 hn hm Q))))
  · have Q : post (zs_b (decide (m = n) && ca)) := by rw [hca]; exact P
    refine br_f (by decide) (br_f (by decide) (br_f (by decide) (br_f (by decide) (br_t (by decide) (pk_eq m n (fun e => ?_) (fun e => ?_))))))
    · rw [decide_eq_true e] at Q
      cases ca
      · exact br_t rfl Q
      · exact br_f (by decide) Q
    · rw [decide_eq_false e] at Q; exact Q
  · have Q : post (zs_b (decide (m = n + 1) && ca)) := by rw [hca]; exact P
    refine br_f (by decide) (br_f (by decide) (br_f (by decide) (br_f (by decide) (br_f (by decide) (br_t (by decide) (pk_eq m (n + 1) (fun e => ?_) (fun e => ?_) rfl (nI_1 n)))))))
    · rw [decide_eq_true e] at Q
      cases ca
      · exact br_t rfl Q
      · exact br_f (by decide) Q
    · rw [decide_eq_false e] at Q; exact Q
  · have Q : post (zs_b (decide (m + 1 = n) && ca)) := by rw [hca]; exact P
    exact br_f (by decide) (br_f (by decide) (br_f (by decide) (br_f (by decide) (br_f (by decide) (br_f (by decide) (br_t (by decide) (zx_nd196 hn hm Q)))))))
  · have Q : post (zs_b ((decide (m ≤ n) && ca) || (decide (m < n) && decide (t = s)))) := by rw [hca]; exact P
    refine br_f (by decide) (br_f (by decide) (br_f (by decide) (br_f (by decide) (br_f (by decide) (br_f (by decide) (br_f (by decide) (br_t (by decide) (pk_lt n m (fun e => ?_) (fun e => ?_)))))))))
    · rw [decide_eq_false (show ¬ m ≤ n by omega)] at Q
      exact zx_nd228 hs hn ht hm Q
    · rw [decide_eq_true e] at Q
      cases ca
      · exact br_t rfl (zx_nd228 hs hn ht hm Q)
      · exact br_f (by decide) Q
  · have Q : post (zs_b (decide (m + 1 = n) && ca)) := by rw [hca]; exact P
    exact br_f (by decide) (br_f (by decide) (br_f (by decide) (br_f (by decide) (br_f (by decide) (br_f (by decide) (br_f (by decide) (br_f (by decide) (br_t (by decide) (zx_nd196 hn hm Q)))))))))
  · have Q : post (zs_b (decide (m ≤ n) && (ca || cb))) := by rw [hca, hcb]; exact P
    exact br_f (by decide) (br_f (by decide) (br_f (by decide) (br_f (by decide) (br_f (by decide) (br_f (by decide) (br_f (by decide) (br_f (by decide) (br_f (by decide) (br_t (by decide) (zx_nd135 hn hm Q))))))))))
theorem zx_nd39 {post : Int32 → Prop} {s n t m : Nat} {ca : Bool} (hs : s < 8) (hk : K s ≤ 9) (hb : B s < 97) (hn : n < 16) (ht : t < 8) (hm : m < 16) (hca : ca = decide (t = A s)) (P : post (zs_b (zs_nd (K s) (A s) (B s) s n t m))) : wX_needsDirectly_39 post (nI s) (nI n) (nI t) (nI m) (zs_b ca) (zs_N K) f2 (zs_N B) f4 f5 f6 f7 f8 :=
  ⟨vp_in_nI hs (by decide), pk_eq t (B s) (fun e => zx_nd57 (cb := true) hs hk hn ht hm hca (decide_eq_true e).symm P) (fun e => zx_nd57 (cb := false) hs hk hn ht hm hca (decide_eq_false e).symm P) rfl (zs_at rfl (by omega))⟩
theorem zx_nd {post : Int32 → Prop} (G : zs_Gd K A B) {p q : Nat} (hp : p < 128) (hq : q < 128) (P : post (zs_b (zs_need K A B p q))) : wpX_needsDirectly post (zs_N K, zs_N A, zs_N B, f4, f5, f6, f7, f8) (nI p) (nI q) := by
  have hs : p / 16 < 8 := by omega
  obtain ⟨g1, g2, g3, g4⟩ := G (p / 16) hs
  have hn : p % 16 < 16 := by omega
  have ht : q / 16 < 8 := by omega
  have hm : q % 16 < 16 := by omega
  refine ⟨by decide, nm_r (zs_d16 hp) ⟨by decide, nm_r (zs_m16 hp) ⟨by decide, nm_r (zs_d16 hq) ⟨by decide, nm_r (zs_m16 hq) ⟨vp_in_nI hs (by decide), ?_⟩⟩⟩⟩⟩
  exact pk_eq (q / 16) (A (p / 16)) (fun e => zx_nd39 (ca := true) hs g1 g3 hn ht hm (decide_eq_true e).symm P) (fun e => zx_nd39 (ca := false) hs g1 g3 hn ht hm (decide_eq_false e).symm P) rfl (zs_at rfl (by omega))
/-! allNeedsHaveValues -/
theorem zx_allL {post : Int32 → Prop} (G : zs_Gd K A B) {p : Nat} (hp : p < 128) (h1 : zs_All K A B h p → post 1) (h0 : ¬ zs_All K A B h p → post 0) : ∀ d i, i + d = 128 → (∀ q, q < i → zs_need K A B p q = true → h q = true) → wX_allNeedsHaveValues_2 post (nI p) (zs_N K) (zs_N A) (zs_N B) (zs_B h) f5 f6 f7 f8 (d + 1) (nI i) := by
  intro d
  induction d with
  | zero =>
    intro i hi a
    exact pk_le 128 i (fun _ => h1 (fun q hq => a q (by omega))) (fun e => absurd e (by omega))
  | succ d ih =>
    intro i hi a
    have hl : i < 128 := by omega
    refine pk_le 128 i (fun e => absurd e (by omega)) (fun _ => ⟨vp_in_nI hl (by decide), ?_⟩)
    cases hh : h i with
    | false =>
      refine br_t (zs_hF rfl (by omega) hh) (zx_nd G hp hl ?_)
      cases hn : zs_need K A B p i with
      | false =>
        refine br_t rfl (nm_r (nI_1 i) (ih (i + 1) (by omega) ?_))
        intro q hq hnq
        by_cases z : q = i
        · rw [z, hn] at hnq; exact nomatch hnq
        · exact a q (by omega) hnq
      | true =>
        refine br_f (by decide) (h0 fun c => ?_)
        have := c i hl hn
        rw [hh] at this
        exact nomatch this
    | true =>
      refine br_f (zs_hT rfl (by omega) hh) (nm_r (nI_1 i) (ih (i + 1) (by omega) ?_))
      intro q hq hnq
      by_cases z : q = i
      · rw [z]; exact hh
      · exact a q (by omega) hnq
theorem zx_all {post : Int32 → Prop} (G : zs_Gd K A B) {p : Nat} (hp : p < 128) (h1 : zs_All K A B h p → post 1) (h0 : ¬ zs_All K A B h p → post 0) : wpX_allNeedsHaveValues post (zs_N K, zs_N A, zs_N B, zs_B h, f5, f6, f7, f8) (nI p) :=
  ⟨129, zx_allL G hp h1 h0 128 0 rfl (fun q hq => absurd hq (by omega))⟩
/-! isRuledOut -/
theorem zx_rul {post : Int32 → Prop} (G : zs_Gd K A B) {p : Nat} (hp : p < 128) (hv : ∀ q, v q < 97) (P : post (zs_b (zs_rul K A B v p))) : wpX_isRuledOut post (zs_N K, zs_N A, zs_N B, f4, zs_N v, f6, f7, f8) (nI p) := by
  have hs : p / 16 < 8 := by omega
  obtain ⟨g1, g2, g3, g4⟩ := G (p / 16) hs
  refine ⟨by decide, nm_r (zs_d16 hp) ⟨vp_in_nI hs (by decide), nm_r (zs_at rfl (by omega)) ?_⟩⟩
  have Q : post (zs_b (zs_rl (K (p / 16)) (A (p / 16)) (B (p / 16)) (p % 16) v)) := P
  have ea : 16 * zs_N A (nI (p / 16)).toNatClampNeg = nI (16 * A (p / 16)) := by rw [zs_at rfl (by omega)]; exact zs_16 _
  have eb : 16 * zs_N B (nI (p / 16)).toNatClampNeg = nI (16 * B (p / 16)) := by rw [zs_at rfl (by omega)]; exact zs_16 _
  have h1 := hv (16 * A (p / 16))
  have h2 := hv (16 * B (p / 16))
  generalize K (p / 16) = k at *
  rcases zs_k10 g1 with rfl | rfl | rfl | rfl | rfl | rfl | rfl | rfl | rfl | rfl
  · exact br_t (by decide) Q
  · exact br_t (by decide) Q
  · exact br_t (by decide) Q
  · exact br_t (by decide) Q
  · exact br_t (by decide) Q
  · refine br_f (by decide) (br_f (by decide) (br_t (by decide) ⟨by decide, pk_eq (p % 16) 15 (fun e => ?_) (fun e => ?_) (zs_m16 hp)⟩))
    · have Q2 : post (zs_b (decide (p % 16 = 15))) := Q
      rw [decide_eq_true e] at Q2; exact Q2
    · have Q2 : post (zs_b (decide (p % 16 = 15))) := Q
      rw [decide_eq_false e] at Q2; exact Q2
  · exact br_f (by decide) (br_f (by decide) (br_f (by decide) (br_t (by decide) Q)))
  · have Q2 : post (zs_b (decide (v (16 * A (p / 16)) = 0))) := Q
    refine br_f (by decide) (br_f (by decide) (br_f (by decide) (br_f (by decide) (br_t (by decide) ⟨vp_in_nI hs (by decide), pk_in (16 * A (p / 16)) 128 (by omega) ea, pk_eq (v (16 * A (p / 16))) 0 (fun e => ?_) (fun e => ?_) (zs_at ea (by omega))⟩))))
    · rw [decide_eq_true e] at Q2; exact Q2
    · rw [decide_eq_false e] at Q2; exact Q2
  · exact br_f (by decide) (br_f (by decide) (br_f (by decide) (br_f (by decide) (br_f (by decide) (br_t (by decide) Q)))))
  · have g5 : B (p / 16) < 8 := g4 (by decide)
    have Q2 : post (zs_b (decide (v (16 * B (p / 16)) ≠ 0))) := Q
    refine br_f (by decide) (br_f (by decide) (br_f (by decide) (br_f (by decide) (br_f (by decide) (br_f (by decide) (br_t (by decide) ⟨vp_in_nI hs (by decide), pk_in (16 * B (p / 16)) 128 (by omega) eb, pk_eq (v (16 * B (p / 16))) 0 (fun e => ?_) (fun e => ?_) (zs_at eb (by omega))⟩))))))
    · rw [decide_eq_false (fun z => z e)] at Q2; exact Q2
    · rw [decide_eq_true e] at Q2; exact Q2
end
