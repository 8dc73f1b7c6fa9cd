/-! the component's own methods, each at its value -/
theorem mx_has {post : Int32 → Prop} {s v : Nat} (hs : s < 2 ^ 31) (hv : v < 32) (f : s.testBit v = false → post 0) (t : s.testBit v = true → post 1) : wpX_has post (nI s) (nI v) :=
  mb_ek (mb_g0 hs hv) f (fun h => t (mb_nf h))
theorem mx_good {post : Int32 → Prop} {n j : Nat} {a b : Int32} {J w : Nat → Int32} (hn : n ≤ 12) (hj : j < n) (h : post 1) : wpX_isGood post (nI n, a, b, J, w) (nI j) :=
  br_f (nI_pos (by omega)) (br_f (nI_ge hj (by omega)) h)
theorem mx_bad {post : Int32 → Prop} {n : Nat} {a b x : Int32} {J w : Nat → Int32} (hx : x < 0 ∨ nI n ≤ x) (h : post 0) : wpX_isGood post (nI n, a, b, J, w) x := by
  by_cases h0 : x < 0
  · exact br_t h0 h
  · rcases hx with h1 | h1
    · exact absurd h1 h0
    · exact br_f h0 (br_t h1 h)
theorem mx_size {post : Int32 → Prop} {s n : Nat} {a b : Int32} {J w : Nat → Int32} (hs : s < 2 ^ 31) (hn : n ≤ 12) (h : post (nI (mb_sz s n))) : wpX_sizeOf post (nI n, a, b, J, w) (nI s) := by
  have L : ∀ d v, v + d = n → wX_sizeOf_4 post (nI s) (nI n) a b J w (d + 1) (nI (mb_sz s v)) (nI v) := by
    intro d
    induction d with
    | zero =>
      intro v hv
      have e : v = n := by omega
      rw [e]
      exact br_t (nI_le (Nat.le_refl _) (by omega)) h
    | succ d ih =>
      intro v hv
      refine br_f (nI_ge (by omega) (by omega)) ?_
      refine nm_r (e' := nI (mb_sz s (v + 1))) (by rw [mb_get hs (by omega), mb_sz_s]) ?_
      exact nm_r (nI_1 v) (ih (v + 1) (by omega))
  show ∃ k, wX_sizeOf_4 post (nI s) (nI n) a b J w k 0 0
  exact ⟨n + 1, L n 0 (by omega)⟩
theorem mx_ind {post : Int32 → Prop} {s n : Nat} {a b : Int32} {J w : Nat → Int32} (hs : s < 2 ^ 31) (hn : n ≤ 12) (f : ¬ mb_in J n s → post 0) (t : mb_in J n s → post 1) : wpX_isIndependent post (nI n, a, b, J, w) (nI s) := by
  have L : ∀ d v, v + d = n → (∀ i, i < v → s.testBit i = true → J i &&& nI s = 0) → wX_isIndependent_2 post (nI s) (nI n) a b J w (d + 1) (nI v) := by
    intro d
    induction d with
    | zero =>
      intro v hv hi
      have e : v = n := by omega
      rw [e] at hi ⊢
      exact br_t (nI_le (Nat.le_refl _) (by omega)) (t hi)
    | succ d ih =>
      intro v hv hi
      refine br_f (nI_ge (by omega) (by omega)) ?_
      refine mx_has hs (by omega) (fun e => ?_) (fun e => ?_)
      · refine br_t rfl (nm_r (nI_1 v) (ih (v + 1) (by omega) ?_))
        exact lt_s hi (fun c => by rw [e] at c; exact absurd c (by decide))
      · refine br_f (by decide) ⟨vp_in_nI (by omega) (by omega), ?_⟩
        have hc : (nI v).toNatClampNeg = v := mb_cl (by omega)
        by_cases q : J v &&& nI s = 0
        · refine br_t (by rw [hc]; exact q) (nm_r (nI_1 v) (ih (v + 1) (by omega) ?_))
          exact lt_s hi (fun _ => q)
        · exact br_f (by rw [hc]; exact q) (f (fun c => q (c v (by omega) e)))
  show ∃ k, wX_isIndependent_2 post (nI s) (nI n) a b J w k 0
  exact ⟨n + 1, L n 0 (by omega) lt_0⟩
theorem mx_ok {post : Int32 → Prop} {s n A B : Nat} {J w : Nat → Int32} (hs : s < 2 ^ n) (hn : n ≤ 12) (hA : A < 2 ^ n) (hB : B < 2 ^ n) (f : ¬ mb_ok J A B n s → post 0) (t : mb_ok J A B n s → post 1) : wpX_isAllowed post (nI n, nI A, nI B, J, w) (nI s) := by
  refine mb_ek (mb_aA (mb_p31 hn hA)) (fun h1 => ?_) (fun h1 => f (fun q => h1 q.1))
  refine mb_ek (mb_a0 (mb_p31 hn hB)) (fun h2 => ?_) (fun h2 => f (fun q => h2 q.2.1))
  refine mx_ind (mb_p31 hn hs) hn (fun h3 => br_t rfl (f (fun q => h3 q.2.2))) (fun h3 => br_f (by decide) (t ⟨h1, h2, h3⟩))
theorem mx_wt {post : Int32 → Prop} {s n : Nat} {a b : Int32} {J w : Nat → Int32} (hs : s < 2 ^ 31) (hn : n ≤ 12) (hW : mb_W w) (h : post (nI (mb_wt w s n))) : wpX_weightOf post (nI n, a, b, J, w) (nI s) := by
  have L : ∀ d v, v + d = n → wX_weightOf_4 post (nI s) (nI n) a b J w (d + 1) (nI (mb_wt w s v)) (nI v) := by
    intro d
    induction d with
    | zero =>
      intro v hv
      have e : v = n := by omega
      rw [e]
      exact br_t (nI_le (Nat.le_refl _) (by omega)) h
    | succ d ih =>
      intro v hv
      refine br_f (nI_ge (by omega) (by omega)) ?_
      have I := ih (v + 1) (by omega)
      refine mx_has hs (by omega) (fun e => ?_) (fun e => ?_)
      · rw [mb_wt_f e] at I
        exact br_t rfl (nm_r (nI_1 v) I)
      · refine br_f (by decide) ⟨vp_in_nI (by omega) (by omega), ?_⟩
        refine nm_r (e' := nI (mb_wt w s (v + 1))) (by rw [mb_cl (by omega), mb_wt_t hW (by omega) e]) ?_
        exact nm_r (nI_1 v) I
  show ∃ k, wX_weightOf_4 post (nI s) (nI n) a b J w k 0 0
  exact ⟨n + 1, L n 0 (by omega)⟩
theorem mx_ba {post : Int32 → Prop} {n A B p q : Nat} {J w : Nat → Int32} (hn : n ≤ 12) (hA : A < 2 ^ n) (hB : B < 2 ^ n) (hp : p < 2 ^ 31) (hq : q < 2 ^ 31) (hW : mb_W w) (h : post (mb_xb (mb_be (mb_P J A B n p q) (mb_z w n) (2 ^ n)))) : wpX_bestAllowed post (nI n, nI A, nI B, J, w) (nI p) (nI q) := by
  have hN := mb_p12 hn
  have e1 : (1 : Int32) <<< (nI n &&& 31) = nI (2 ^ n) := mb_one n (by omega)
  have L : ∀ d i, i + d = 2 ^ n → wX_bestAllowed_8 post (nI p) (nI q) (nI n) (nI A) (nI B) J w (d + 1) (mb_xb (mb_be (mb_P J A B n p q) (mb_z w n) i)) (mb_xw (mb_z w n) (mb_be (mb_P J A B n p q) (mb_z w n) i)) (nI i) := by
    intro d
    induction d with
    | zero =>
      intro i hi
      have e : i = 2 ^ n := by omega
      rw [e]
      exact br_t (by rw [e1]; exact nI_le (Nat.le_refl _) (by omega)) h
    | succ d ih =>
      intro i hi
      have I := ih (i + 1) (by omega)
      have his : i < 2 ^ n := by omega
      refine br_f (by rw [e1]; exact nI_ge his (by omega)) ?_
      refine mb_ek (mb_aA hp) (fun h1 => ?_) (fun h1 => ?_)
      · refine mb_ek (mb_a0 hq) (fun h2 => ?_) (fun h2 => ?_)
        · refine mx_ok his hn hA hB (fun h3 => ?_) (fun h3 => ?_)
          · rw [mb_be_f (fun c => h3 c.2.2)] at I
            exact br_t rfl (nm_r (nI_1 i) I)
          · refine br_f (by decide) ?_
            refine mx_wt (mb_p31 hn his) hn hW ?_
            refine mb_ek (mb_xw_lt (z := mb_z w n) (m := mb_z w n i) (mb_z_lt hn hW i) (mb_z_lt hn hW) (mb_be (mb_P J A B n p q) (mb_z w n) i)) (fun h4 => ?_) (fun h4 => ?_)
            · rw [mb_be_g h4] at I
              exact nm_r (nI_1 i) I
            · rw [mb_be_t ⟨h1, h2, h3⟩ h4] at I
              exact nm_r (nI_1 i) I
        · rw [mb_be_f (fun c => h2 c.2.1)] at I
          exact nm_r (nI_1 i) I
      · rw [mb_be_f (fun c => h1 c.1)] at I
        exact nm_r (nI_1 i) I
  show ∃ k, wX_bestAllowed_8 post (nI p) (nI q) (nI n) (nI A) (nI B) J w k (-1) (-1) 0
  exact ⟨2 ^ n + 1, L (2 ^ n) 0 (by omega)⟩
theorem mx_won {post : Int32 → Prop} {n : Nat} {a b : Int32} {J w : Nat → Int32} (hn : n ≤ 12) (hW : mb_W w) (o : Option Nat) (ho : ∀ c, o = some c → c < 2 ^ n) (h : post (mb_xw (mb_z w n) o)) : wpX_weightOrNone post (nI n, a, b, J, w) (mb_xb o) := by
  cases o with
  | none => exact br_t rfl h
  | some c =>
    have hc := mb_p31 hn (ho c rfl)
    exact br_f (mb_nm1 hc) (mx_wt hc hn hW h)
theorem mx_bv {post : Int32 → Prop} {n A B p q : Nat} {J w : Nat → Int32} (hn : n ≤ 12) (hA : A < 2 ^ n) (hB : B < 2 ^ n) (hp : p < 2 ^ 31) (hq : q < 2 ^ 31) (hW : mb_W w) (h : post (mb_xw (mb_z w n) (mb_be (mb_P J A B n p q) (mb_z w n) (2 ^ n)))) : wpX_bestAllowed (fun r => wpX_weightOrNone post (nI n, nI A, nI B, J, w) r) (nI n, nI A, nI B, J, w) (nI p) (nI q) :=
  mx_ba hn hA hB hp hq hW (mx_won hn hW _ (fun _ hc => (mb_be_some hc).1) h)
def mb_C (J w : Nat → Int32) (A B n : Nat) (b : Int32) (s : Nat) : Prop := mb_ok J A B n s ∧ ¬ nI (mb_wt w s n) < b
theorem mx_ct {post : Int32 → Prop} {n A B : Nat} {x : Int32} {J w : Nat → Int32} (hn : n ≤ 12) (hA : A < 2 ^ n) (hB : B < 2 ^ n) (hW : mb_W w) (h : post (nI (mb_ct (mb_C J w A B n x) (2 ^ n)))) : wpX_countAllowed post (nI n, nI A, nI B, J, w) x := by
  have hN := mb_p12 hn
  have e1 : (1 : Int32) <<< (nI n &&& 31) = nI (2 ^ n) := mb_one n (by omega)
  have L : ∀ d i, i + d = 2 ^ n → wX_countAllowed_4 post x (nI n) (nI A) (nI B) J w (d + 1) (nI (mb_ct (mb_C J w A B n x) i)) (nI i) := by
    intro d
    induction d with
    | zero =>
      intro i hi
      have e : i = 2 ^ n := by omega
      rw [e]
      exact br_t (by rw [e1]; exact nI_le (Nat.le_refl _) (by omega)) h
    | succ d ih =>
      intro i hi
      have I := ih (i + 1) (by omega)
      have his : i < 2 ^ n := by omega
      refine br_f (by rw [e1]; exact nI_ge his (by omega)) ?_
      refine mx_ok his hn hA hB (fun h3 => ?_) (fun h3 => ?_)
      · rw [mb_ct_f (fun c => h3 c.1)] at I
        exact br_t rfl (nm_r (nI_1 i) I)
      · refine br_f (by decide) ?_
        refine mx_wt (mb_p31 hn his) hn hW ?_
        refine br_c (fun h4 => ?_) (fun h4 => ?_)
        · rw [mb_ct_f (fun c => c.2 h4)] at I
          exact nm_r (nI_1 i) I
        · rw [mb_ct_t ⟨h3, h4⟩] at I
          exact nm_r (nI_1 _) (nm_r (nI_1 i) I)
  show ∃ k, wX_countAllowed_4 post x (nI n) (nI A) (nI B) J w k 0 0
  exact ⟨2 ^ n + 1, L (2 ^ n) 0 (by omega)⟩
def mb_s (n : Nat) (s : Nat) : Nat := mb_sz s n
theorem mb_s_le (n s : Nat) : mb_s n s ≤ n := mb_sz_le s n
theorem mx_al {post : Int32 → Prop} {n : Nat} {a b : Int32} {J w : Nat → Int32} (hn : n ≤ 12) (h : post (nI (mb_al (mb_in J n) (mb_s n) (2 ^ n)))) : wpX_alpha post (nI n, a, b, J, w) := by
  have hN := mb_p12 hn
  have e1 : (1 : Int32) <<< (nI n &&& 31) = nI (2 ^ n) := mb_one n (by omega)
  have L : ∀ d i, i + d = 2 ^ n → wX_alpha_4 post (nI n) a b J w (d + 1) (nI (mb_al (mb_in J n) (mb_s n) i)) (nI i) := by
    intro d
    induction d with
    | zero =>
      intro i hi
      have e : i = 2 ^ n := by omega
      rw [e]
      exact br_t (by rw [e1]; exact nI_le (Nat.le_refl _) (by omega)) h
    | succ d ih =>
      intro i hi
      have I := ih (i + 1) (by omega)
      have his : i < 2 ^ n := by omega
      have hs := mb_p31 hn his
      have hz : mb_s n i ≤ n := mb_s_le n i
      have hy : mb_al (mb_in J n) (mb_s n) i ≤ n := mb_al_le (mb_s_le n) i
      refine br_f (by rw [e1]; exact nI_ge his (by omega)) ?_
      refine mx_ind hs hn (fun h3 => ?_) (fun h3 => ?_)
      · rw [mb_al_f (fun c => h3 c.1)] at I
        exact br_t rfl (nm_r (nI_1 i) I)
      · refine br_f (by decide) ?_
        refine mx_size hs hn ?_
        refine mb_ek (nI_leI (a := mb_s n i) (b := mb_al (mb_in J n) (mb_s n) i) (by omega) (by omega)) (fun h4 => ?_) (fun h4 => ?_)
        · rw [mb_al_f (fun c => by have := c.2; omega)] at I
          exact nm_r (nI_1 i) I
        · rw [mb_al_t h3 (by omega)] at I
          exact nm_r (nI_1 i) I
  show ∃ k, wX_alpha_4 post (nI n) a b J w k 0 0
  exact ⟨2 ^ n + 1, L (2 ^ n) 0 (by omega)⟩
def mb_V (J : Nat → Int32) (n s : Nat) : Prop := mb_in J n (2 ^ n - 1 - s)
theorem mb_V_all (J : Nat → Int32) (n : Nat) : mb_V J n (2 ^ n - 1) := by
  unfold mb_V
  rw [Nat.sub_self]
  exact mb_in_0 J n
theorem mx_lc {post : Int32 → Prop} {n : Nat} {a b : Int32} {J w : Nat → Int32} (hn : n ≤ 12) (h : ∀ c, mb_lc (mb_V J n) (mb_s n) (2 ^ n) c → post (nI c)) : wpX_leastCover post (nI n, a, b, J, w) := by
  have hN := mb_p12 hn
  have h0 : 0 < 2 ^ n := Nat.two_pow_pos n
  have e1 : (1 : Int32) <<< (nI n &&& 31) - 1 = nI (2 ^ n - 1) := by rw [mb_one n (by omega), mb_s1 h0]
  have ez : mb_s n (2 ^ n - 1) = n := mb_sz_all n n (Nat.le_refl n)
  have L : ∀ d i c, i + d = 2 ^ n - 1 → mb_lx (mb_V J n) (mb_s n) n i c → wX_leastCover_19 post (nI (2 ^ n - 1)) (nI n) a b J w (d + 1) (nI c) (nI (mb_s n c)) (nI i) := by
    intro d
    induction d with
    | zero =>
      intro i c hi hc
      have e : i = 2 ^ n - 1 := by omega
      rw [e] at hc ⊢
      exact br_t (nI_le (Nat.le_refl _) (by omega)) (h c (mb_lx_e hc ez))
    | succ d ih =>
      intro i c hi hc
      have his : i < 2 ^ n := by omega
      have hs := mb_p31 hn his
      have hz : mb_s n i ≤ n := mb_s_le n i
      have hy : mb_s n c ≤ n := mb_s_le n c
      have hl : mb_s n i < n := mb_sz_lt (by omega)
      refine br_f (nI_ge (by omega) (by omega)) ?_
      refine mx_size hs hn ?_
      refine mb_ek (nI_leI (a := mb_s n c) (b := mb_s n i) (by omega) (by omega)) (fun h4 => ?_) (fun h4 => ?_)
      · exact nm_r (nI_1 i) (ih (i + 1) c (by omega) (mb_lx_f hc hl (fun q => by have := q.1; omega)))
      · rw [mb_dif, mb_cmp his]
        refine mx_ind (mb_p31 hn (by omega)) hn (fun h3 => ?_) (fun h3 => ?_)
        · exact br_t rfl (nm_r (nI_1 i) (ih (i + 1) c (by omega) (mb_lx_f hc hl (fun q => h3 q.2))))
        · exact br_f (by decide) (nm_r (nI_1 i) (ih (i + 1) i (by omega) (mb_lx_t hc h3 (by omega))))
  show ∀ x, x = (1 : Int32) <<< (nI n &&& 31) - 1 → ∃ k, wX_leastCover_19 post x (nI n) a b J w k x (nI n) 0
  refine nm_r e1 ⟨2 ^ n - 1 + 1, ?_⟩
  have F := L (2 ^ n - 1) 0 (2 ^ n - 1) (by omega) (mb_lx_0 (mb_V_all J n) ez)
  rw [ez] at F
  exact F
/-! joins and the count of edges -/
theorem mx_join {post : SX → Prop} {n c d : Nat} {a b : Int32} {J w : Nat → Int32} (hc : c < 12) (hd : d < 12) (h : post (nI n, a, b, mb_jo J c d, w)) : wpX_join post (nI n, a, b, J, w) (nI c) (nI d) := by
  have i1 : vp_in (nI c) 12 := vp_in_nI hc (by omega)
  have i2 : vp_in (nI d) 12 := vp_in_nI hd (by omega)
  refine ⟨i1, i1, nm_r (e' := upd J c (J c ||| nI (2 ^ d))) (by rw [mb_cl hc, mb_one d (by omega)]) ⟨i2, i2, nm_r (e' := mb_jo J c d) (by rw [mb_cl hd, mb_one c (by omega)]; rfl) h⟩⟩
theorem mx_part {post : SX → Prop} {n c d : Nat} {a b : Int32} {J w : Nat → Int32} (hc : c < 12) (hd : d < 12) (h : post (nI n, a, b, mb_pa J c d, w)) : wpX_part post (nI n, a, b, J, w) (nI c) (nI d) := by
  have i1 : vp_in (nI c) 12 := vp_in_nI hc (by omega)
  have i2 : vp_in (nI d) 12 := vp_in_nI hd (by omega)
  refine ⟨i1, i1, nm_r (e' := upd J c (J c &&& (nI (2 ^ d) ^^^ (-1)))) (by rw [mb_cl hc, mb_one d (by omega)]) ⟨i2, i2, nm_r (e' := mb_pa J c d) (by rw [mb_cl hd, mb_one c (by omega)]; rfl) h⟩⟩
theorem mx_ec {post : Int32 → Prop} {n : Nat} {a b : Int32} {J w : Nat → Int32} (hn : n ≤ 12) (hR : mb_R n J) (h : post (nI (mb_ec J n n) / 2)) : wpX_edgeCount post (nI n, a, b, J, w) := by
  have L : ∀ d v, v + d = n → wX_edgeCount_4 post (nI n) a b J w (d + 1) (nI (mb_ec J n v)) (nI v) := by
    intro d
    induction d with
    | zero =>
      intro v hv
      have e : v = n := by omega
      rw [e]
      exact br_t (nI_le (Nat.le_refl _) (by omega)) ⟨by decide, h⟩
    | succ d ih =>
      intro v hv
      refine br_f (nI_ge (by omega) (by omega)) ⟨vp_in_nI (by omega) (by omega), ?_⟩
      obtain ⟨r, hr, er⟩ := hR v (by omega)
      rw [mb_cl (by omega), er]
      refine mx_size (mb_p31 hn hr) hn ?_
      exact nm_r (mb_ec_s er (mb_p31 hn hr)) (nm_r (nI_1 v) (ih (v + 1) (by omega)))
  show ∃ k, wX_edgeCount_4 post (nI n) a b J w k 0 0
  exact ⟨n + 1, L n 0 (by omega)⟩
theorem mb_md (v k t n : Nat) : ((v + k * t) % n + t) % n = (v + k * t + t) % n := Nat.mod_add_mod _ _ _
theorem mb_k1 (v k t : Nat) : v + (k + 1) * t = v + k * t + t := by rw [Nat.add_mul, Nat.one_mul, Nat.add_assoc]
theorem mx_ch {post : Int32 → SX → Prop} {n v t m : Nat} {a b : Int32} {J w : Nat → Int32} (h0 : 0 < n) (hn : n ≤ 12) (hv : v < n) (ht : t ≤ 11) (hm : m ≤ 12) (hR : mb_R n J) (h : post (nI (mb_ec (mb_ch J n v t m) n n) / 2) (nI n, a, b, mb_ch J n v t m, w)) : ∃ k, wX_chain_44 post (nI t) (nI m) k (nI v) 0 (nI n) a b J w := by
  have L : ∀ d k, k + d = m → wX_chain_44 post (nI t) (nI m) (d + 1) (nI ((v + k * t) % n)) (nI k) (nI n) a b (mb_ch J n v t k) w := by
    intro d
    induction d with
    | zero =>
      intro k hk
      have e : k = m := by omega
      rw [e]
      exact br_t (nI_le (Nat.le_refl _) (by omega)) (mx_ec hn (mb_R_ch h0 hn hR m) h)
    | succ d ih =>
      intro k hk
      have I := ih (k + 1) (by omega)
      rw [mb_k1] at I
      have l1 : (v + k * t) % n < n := Nat.mod_lt _ h0
      have l2 : (v + k * t + t) % n < n := Nat.mod_lt _ h0
      refine br_f (nI_ge (by omega) (by omega)) ⟨nI_ne0 h0 (by omega), ?_⟩
      refine nm_r (e' := nI ((v + k * t + t) % n)) (by rw [nI_add, pk_rem (by omega) h0 (by omega), mb_md]) ?_
      refine mb_ek (nI_eq (by omega) (by omega)) (fun e => ?_) (fun e => ?_)
      · rw [mb_ch_t e.symm] at I
        exact nm_r (nI_1 k) I
      · rw [mb_ch_f (fun q => e q.symm)] at I
        exact mx_join (by omega) (by omega) (nm_r (nI_1 k) I)
  have F := L m 0 (by omega)
  rw [Nat.zero_mul, Nat.add_zero v, Nat.mod_eq_of_lt hv] at F
  exact ⟨m + 1, F⟩
