/-! sets as naturals: one bit, the bit alone, or, without -/
def mb_b (s v : Nat) : Int32 := if s.testBit v = true then 1 else 0
theorem mb_b_t {s v : Nat} (h : s.testBit v = true) : mb_b s v = 1 := if_pos h
theorem mb_b_f {s v : Nat} (h : s.testBit v = false) : mb_b s v = 0 := if_neg (by rw [h]; decide)
theorem mb_bF {x : Bool} (h : ¬ x = true) : x = false := by cases x <;> simp_all
theorem mb_get {s v : Nat} (hs : s < 2 ^ 31) (hv : v < 32) : (nI s >>> (nI v &&& 31)) &&& 1 = mb_b s v := by
  rw [pk_shrN hs _ v (s_l v hv)]
  show nI (s / 2 ^ v) &&& nI 1 = _
  rw [nx_and, Nat.and_one_is_mod]
  unfold mb_b
  rw [Nat.testBit_eq_decide_div_mod_eq]
  generalize s / 2 ^ v = z
  rcases Nat.mod_two_eq_zero_or_one z with h | h
  · rw [h]; rfl
  · rw [h]; rfl
theorem mb_one : ∀ v, v < 31 → (1 : Int32) <<< (nI v &&& 31) = nI (2 ^ v) := by decide +kernel
theorem mb_or (a b : Nat) : nI a ||| nI b = nI (a ||| b) := by
  apply Int32.toBitVec_inj.1
  show BitVec.ofNat 32 a ||| BitVec.ofNat 32 b = BitVec.ofNat 32 (a ||| b)
  apply BitVec.eq_of_getLsbD_eq
  intro i hi
  simp [hi]
def mb_wo (a b : Nat) : Nat := a ^^^ (a &&& b)
theorem mb_wo_t (a b i : Nat) : (mb_wo a b).testBit i = (a.testBit i && !b.testBit i) := by
  unfold mb_wo
  rw [Nat.testBit_xor, Nat.testBit_and]
  cases a.testBit i <;> cases b.testBit i <;> rfl
theorem mb_dif (a b : Nat) : nI a &&& (nI b ^^^ (-1)) = nI (mb_wo a b) := by
  apply b_ext
  intro i hi
  unfold mb_wo
  rw [b_and, b_xor, b_m1 i hi, ← nx_xor, ← nx_and, b_xor, b_and]
  cases bt (nI a) i <;> cases bt (nI b) i <;> rfl
theorem mb_wo_lt {a b n : Nat} (h : a < 2 ^ n) : mb_wo a b < 2 ^ n := by
  apply Nat.lt_pow_two_of_testBit
  intro i hi
  rw [mb_wo_t, Nat.testBit_lt_two_pow (Nat.lt_of_lt_of_le h (Nat.pow_le_pow_right (by decide) hi))]
  rfl
theorem mb_cmp {n s : Nat} (h : s < 2 ^ n) : mb_wo (2 ^ n - 1) s = 2 ^ n - 1 - s := by
  apply Nat.eq_of_testBit_eq
  intro i
  rw [mb_wo_t, Nat.testBit_two_pow_sub_one, Nat.sub_sub, Nat.add_comm 1 s, Nat.testBit_two_pow_sub_succ h]
theorem mb_hi {a n i : Nat} (h : a < 2 ^ n) (hi : n ≤ i) : a.testBit i = false :=
  Nat.testBit_lt_two_pow (Nat.lt_of_lt_of_le h (Nat.pow_le_pow_right (by decide) hi))
theorem mb_p12 {n : Nat} (h : n ≤ 12) : 2 ^ n ≤ 4096 := Nat.le_trans (Nat.pow_le_pow_right (by decide) h) (by decide)
theorem mb_p31 {n a : Nat} (h : n ≤ 12) (ha : a < 2 ^ n) : a < 2 ^ 31 := by
  have := mb_p12 h
  have e : (2 : Nat) ^ 31 = 2147483648 := by decide
  omega
/-! sizes -/
def mb_sz (s : Nat) : Nat → Nat
  | 0 => 0
  | n + 1 => mb_sz s n + (if s.testBit n = true then 1 else 0)
theorem mb_sz_le (s : Nat) : ∀ n, mb_sz s n ≤ n
  | 0 => Nat.le_refl 0
  | n + 1 => by
    have h := mb_sz_le s n
    show mb_sz s n + (if s.testBit n = true then 1 else 0) ≤ n + 1
    split <;> omega
theorem mb_sz_s (s v : Nat) : nI (mb_sz s v) + mb_b s v = nI (mb_sz s (v + 1)) := by
  show _ = nI (mb_sz s v + (if s.testBit v = true then 1 else 0))
  rw [← nI_add]
  unfold mb_b
  split <;> rfl
theorem mb_sz_ext {s n : Nat} (h : s < 2 ^ n) : ∀ d, mb_sz s (n + d) = mb_sz s n
  | 0 => rfl
  | d + 1 => by
    have e : s.testBit (n + d) = false := mb_hi h (by omega)
    show mb_sz s (n + d) + (if s.testBit (n + d) = true then 1 else 0) = _
    rw [mb_sz_ext h d, e]
    rfl
theorem mb_sz_12 {s n : Nat} (h : s < 2 ^ n) (hn : n ≤ 12) : mb_sz s 12 = mb_sz s n := by
  have e := mb_sz_ext h (12 - n)
  rwa [show n + (12 - n) = 12 from by omega] at e
theorem mb_sz_all (m : Nat) : ∀ n, n ≤ m → mb_sz (2 ^ m - 1) n = n
  | 0, _ => rfl
  | n + 1, h => by
    have e : (2 ^ m - 1).testBit n = true := by rw [Nat.testBit_two_pow_sub_one]; exact decide_eq_true (by omega)
    show mb_sz (2 ^ m - 1) n + (if (2 ^ m - 1).testBit n = true then 1 else 0) = n + 1
    rw [mb_sz_all m n (by omega), e]
    rfl
theorem mb_sz_b (s : Nat) : ∀ n, mb_sz s n = n → ∀ i, i < n → s.testBit i = true
  | 0, _, i, hi => absurd hi (Nat.not_lt_zero i)
  | n + 1, h, i, hi => by
    have e := mb_sz_le s n
    have h' : mb_sz s n + (if s.testBit n = true then 1 else 0) = n + 1 := h
    by_cases q : s.testBit n = true
    · rw [if_pos q] at h'
      rcases Nat.lt_or_ge i n with y | y
      · exact mb_sz_b s n (by omega) i y
      · have e2 : i = n := by omega
        rw [e2]
        exact q
    · rw [if_neg q] at h'
      omega
theorem mb_sz_lt {s n : Nat} (h : s < 2 ^ n - 1) : mb_sz s n < n := by
  have e := mb_sz_le s n
  rcases Nat.lt_or_ge (mb_sz s n) n with y | y
  · exact y
  · have e2 : s = 2 ^ n - 1 := by
      apply Nat.eq_of_testBit_eq
      intro i
      rw [Nat.testBit_two_pow_sub_one]
      rcases Nat.lt_or_ge i n with q | q
      · rw [mb_sz_b s n (by omega) i q, decide_eq_true q]
      · rw [mb_hi (n := n) (by omega) q, decide_eq_false (by omega)]
    omega
/-! a choice by a proposition -/
noncomputable def mb_if {α : Type} (c : Prop) (a b : α) : α := @ite α c (Classical.propDecidable c) a b
theorem mb_if_t {α : Type} {c : Prop} {a b : α} (h : c) : mb_if c a b = a := if_pos h
theorem mb_if_f {α : Type} {c : Prop} {a b : α} (h : ¬ c) : mb_if c a b = b := if_neg h
theorem mb_if_c {α : Type} {c d : Prop} {a b : α} (h : c ↔ d) : mb_if c a b = mb_if d a b := by rw [propext h]
/-! independence, forcing -/
def mb_in (J : Nat → Int32) (n s : Nat) : Prop := ∀ v, v < n → s.testBit v = true → J v &&& nI s = 0
theorem mb_in_sub {J : Nat → Int32} {n s t : Nat} (h : s &&& t = s) (ht : mb_in J n t) : mb_in J n s := by
  intro v hv hb
  have hb' : t.testBit v = true := by
    rw [← h, Nat.testBit_and, Bool.and_eq_true] at hb
    exact hb.2
  have e := ht v hv hb'
  rw [← h, ← nx_and, Int32.and_comm (nI s), ← Int32.and_assoc, e, Int32.zero_and]
theorem mb_in_0 (J : Nat → Int32) (n : Nat) : mb_in J n 0 := by
  intro v _ h
  rw [Nat.zero_testBit] at h
  exact absurd h (by decide)
def mb_fo (H : Nat → Int32) (n s : Nat) : Prop := ∀ v, v < n → (H v = 1 → s.testBit v = true) ∧ (H v = 2 → s.testBit v = false)
def mb_F (H : Nat → Int32) (A B n : Nat) : Prop := A < 2 ^ n ∧ B < 2 ^ n ∧ ∀ v, v < n → (A.testBit v = true ↔ H v = 1) ∧ (B.testBit v = true ↔ H v = 2) ∧ (H v = 0 ∨ H v = 1 ∨ H v = 2)
def mb_ok (J : Nat → Int32) (A B n s : Nat) : Prop := s &&& A = A ∧ s &&& B = 0 ∧ mb_in J n s
theorem mb_sub {s A : Nat} : s &&& A = A ↔ ∀ i, A.testBit i = true → s.testBit i = true := by
  constructor
  · intro h i hi
    rw [← h, Nat.testBit_and, Bool.and_eq_true] at hi
    exact hi.1
  · intro h
    apply Nat.eq_of_testBit_eq
    intro i
    rw [Nat.testBit_and]
    cases e : A.testBit i
    · exact Bool.and_false _
    · rw [h i e]; rfl
theorem mb_dis {s B : Nat} : s &&& B = 0 ↔ ∀ i, B.testBit i = true → s.testBit i = false := by
  constructor
  · intro h i hi
    have e : (s &&& B).testBit i = false := by rw [h]; exact Nat.zero_testBit i
    rw [Nat.testBit_and, hi, Bool.and_true] at e
    exact e
  · intro h
    apply Nat.eq_of_testBit_eq
    intro i
    rw [Nat.testBit_and, Nat.zero_testBit]
    cases e : B.testBit i
    · exact Bool.and_false _
    · rw [h i e]; rfl
theorem mb_fo_iff {H : Nat → Int32} {A B n s : Nat} (h : mb_F H A B n) : mb_fo H n s ↔ s &&& A = A ∧ s &&& B = 0 := by
  obtain ⟨hA, hB, hv⟩ := h
  rw [mb_sub, mb_dis]
  constructor
  · intro f
    constructor
    · intro i hi
      rcases Nat.lt_or_ge i n with z | z
      · exact (f i z).1 ((hv i z).1.mp hi)
      · rw [mb_hi hA z] at hi; exact absurd hi (by decide)
    · intro i hi
      rcases Nat.lt_or_ge i n with z | z
      · exact (f i z).2 ((hv i z).2.1.mp hi)
      · rw [mb_hi hB z] at hi; exact absurd hi (by decide)
  · intro f v z
    exact ⟨fun e => f.1 v ((hv v z).1.mpr e), fun e => f.2 v ((hv v z).2.1.mpr e)⟩
theorem mb_F_self {J H : Nat → Int32} {A B n : Nat} (h : mb_F H A B n) : A &&& A = A ∧ A &&& B = 0 := by
  refine ⟨Nat.and_self A, mb_dis.mpr ?_⟩
  intro i hi
  rcases Nat.lt_or_ge i n with z | z
  · have e2 := (h.2.2 i z).2.1.mp hi
    apply mb_bF
    intro c
    have e1 := (h.2.2 i z).1.mp c
    rw [e1] at e2
    exact absurd e2 (by decide)
  · rw [mb_hi h.2.1 z] at hi; exact absurd hi (by decide)
/-! weights -/
def mb_W (w : Nat → Int32) : Prop := ∀ v, v < 12 → (w v).toNatClampNeg ≤ 30 ∧ w v = nI (w v).toNatClampNeg
def mb_wt (w : Nat → Int32) (s : Nat) : Nat → Nat
  | 0 => 0
  | n + 1 => mb_wt w s n + (if s.testBit n = true then (w n).toNatClampNeg else 0)
theorem mb_wt_le {w : Nat → Int32} (h : mb_W w) (s : Nat) : ∀ n, n ≤ 12 → mb_wt w s n ≤ 30 * n
  | 0, _ => Nat.le_refl 0
  | n + 1, hn => by
    have e := mb_wt_le h s n (by omega)
    have f := (h n (by omega)).1
    show mb_wt w s n + (if s.testBit n = true then (w n).toNatClampNeg else 0) ≤ 30 * (n + 1)
    split <;> omega
theorem mb_wt_t {w : Nat → Int32} (h : mb_W w) {s n : Nat} (hn : n < 12) (hb : s.testBit n = true) : nI (mb_wt w s n) + w n = nI (mb_wt w s (n + 1)) := by
  show _ = nI (mb_wt w s n + (if s.testBit n = true then (w n).toNatClampNeg else 0))
  rw [if_pos hb, ← nI_add, ← (h n hn).2]
theorem mb_wt_f {w : Nat → Int32} {s n : Nat} (hb : s.testBit n = false) : mb_wt w s (n + 1) = mb_wt w s n := by
  show mb_wt w s n + (if s.testBit n = true then (w n).toNatClampNeg else 0) = _
  rw [hb]
  rfl
/-! search, counts, greatest size -/
noncomputable def mb_be (P : Nat → Prop) (z : Nat → Nat) : Nat → Option Nat
  | 0 => none
  | k + 1 => mb_if (P k ∧ ∀ c, mb_be P z k = some c → z c ≤ z k) (some k) (mb_be P z k)
theorem mb_be_some {P : Nat → Prop} {z : Nat → Nat} : ∀ {k c : Nat}, mb_be P z k = some c → c < k ∧ P c
  | 0, c, h => by cases h
  | k + 1, c, h => by
    by_cases q : P k ∧ ∀ c, mb_be P z k = some c → z c ≤ z k
    · have e : mb_be P z (k + 1) = some k := mb_if_t q
      rw [e] at h
      cases h
      exact ⟨Nat.lt_succ_self k, q.1⟩
    · have e : mb_be P z (k + 1) = mb_be P z k := mb_if_f q
      rw [e] at h
      have r := mb_be_some h
      exact ⟨Nat.lt_succ_of_lt r.1, r.2⟩
theorem mb_be_none {P : Nat → Prop} {z : Nat → Nat} : ∀ {k : Nat}, mb_be P z k = none ↔ ∀ j, j < k → ¬ P j
  | 0 => ⟨fun _ j hj => absurd hj (Nat.not_lt_zero j), fun _ => rfl⟩
  | k + 1 => by
    by_cases q : P k ∧ ∀ c, mb_be P z k = some c → z c ≤ z k
    · have e : mb_be P z (k + 1) = some k := mb_if_t q
      rw [e]
      exact ⟨fun h => (by cases h), fun h => absurd q.1 (h k (Nat.lt_succ_self k))⟩
    · have e : mb_be P z (k + 1) = mb_be P z k := mb_if_f q
      rw [e]
      constructor
      · intro h j hj
        rcases Nat.lt_or_ge j k with y | y
        · exact mb_be_none.mp h j y
        · have e2 : j = k := by omega
          subst e2
          intro p
          exact q ⟨p, fun c hc => by rw [h] at hc; cases hc⟩
      · intro h
        exact mb_be_none.mpr (fun j hj => h j (Nat.lt_succ_of_lt hj))
theorem mb_be_c {P Q : Nat → Prop} {z : Nat → Nat} : ∀ {k : Nat}, (∀ j, j < k → (P j ↔ Q j)) → mb_be P z k = mb_be Q z k
  | 0, _ => rfl
  | k + 1, h => by
    have e := mb_be_c (P := P) (Q := Q) (z := z) (k := k) (fun j hj => h j (Nat.lt_succ_of_lt hj))
    show mb_if _ _ _ = mb_if _ _ _
    rw [e, propext (h k (Nat.lt_succ_self k))]
noncomputable def mb_ct (P : Nat → Prop) : Nat → Nat
  | 0 => 0
  | k + 1 => mb_ct P k + mb_if (P k) 1 0
theorem mb_ct_t {P : Nat → Prop} {k : Nat} (h : P k) : mb_ct P (k + 1) = mb_ct P k + 1 := by
  show mb_ct P k + mb_if (P k) 1 0 = _
  rw [mb_if_t h]
theorem mb_ct_f {P : Nat → Prop} {k : Nat} (h : ¬ P k) : mb_ct P (k + 1) = mb_ct P k := by
  show mb_ct P k + mb_if (P k) 1 0 = _
  rw [mb_if_f h]
  rfl
theorem mb_ct_c {P Q : Nat → Prop} : ∀ {k : Nat}, (∀ j, j < k → (P j ↔ Q j)) → mb_ct P k = mb_ct Q k
  | 0, _ => rfl
  | k + 1, h => by
    have e := mb_ct_c (P := P) (Q := Q) (k := k) (fun j hj => h j (Nat.lt_succ_of_lt hj))
    show _ + mb_if _ _ _ = _ + mb_if _ _ _
    rw [e, propext (h k (Nat.lt_succ_self k))]
theorem mb_ct_0 {P : Nat → Prop} : ∀ {k : Nat}, (∀ j, j < k → ¬ P j) → mb_ct P k = 0
  | 0, _ => rfl
  | k + 1, h => by
    rw [mb_ct_f (h k (Nat.lt_succ_self k))]
    exact mb_ct_0 (fun j hj => h j (Nat.lt_succ_of_lt hj))
noncomputable def mb_al (P : Nat → Prop) (z : Nat → Nat) : Nat → Nat
  | 0 => 0
  | k + 1 => mb_if (P k ∧ mb_al P z k < z k) (z k) (mb_al P z k)
theorem mb_al_t {P : Nat → Prop} {z : Nat → Nat} {k : Nat} (h : P k) (h2 : mb_al P z k < z k) : mb_al P z (k + 1) = z k := mb_if_t ⟨h, h2⟩
theorem mb_al_f {P : Nat → Prop} {z : Nat → Nat} {k : Nat} (h : ¬ (P k ∧ mb_al P z k < z k)) : mb_al P z (k + 1) = mb_al P z k := mb_if_f h
theorem mb_al_le {P : Nat → Prop} {z : Nat → Nat} {m : Nat} (hz : ∀ j, z j ≤ m) : ∀ k, mb_al P z k ≤ m
  | 0 => Nat.zero_le m
  | k + 1 => by
    by_cases q : P k ∧ mb_al P z k < z k
    · rw [mb_al_t q.1 q.2]; exact hz k
    · rw [mb_al_f q]; exact mb_al_le hz k
/-! the least cover -/
def mb_lc (C : Nat → Prop) (z : Nat → Nat) (N c : Nat) : Prop := c < N ∧ C c ∧ ∀ j, j < N → C j → z c < z j ∨ (z c = z j ∧ c ≤ j)
theorem mb_lc_u {C : Nat → Prop} {z : Nat → Nat} {N c d : Nat} (h : mb_lc C z N c) (g : mb_lc C z N d) : c = d := by
  have a := h.2.2 d g.1 g.2.1
  have b := g.2.2 c h.1 h.2.1
  omega
/-- X, upwards: i sets looked at -/
def mb_lx (C : Nat → Prop) (z : Nat → Nat) (n i c : Nat) : Prop := C c ∧ z c ≤ n ∧ (c < i ∨ (c = 2 ^ n - 1 ∧ z c = n)) ∧ ∀ j, j < i → C j → z c < z j ∨ (z c = z j ∧ c ≤ j)
theorem mb_lx_0 {C : Nat → Prop} {z : Nat → Nat} {n : Nat} (h : C (2 ^ n - 1)) (hz : z (2 ^ n - 1) = n) : mb_lx C z n 0 (2 ^ n - 1) :=
  ⟨h, Nat.le_of_eq hz, Or.inr ⟨rfl, hz⟩, fun j hj => absurd hj (Nat.not_lt_zero j)⟩
theorem mb_lx_t {C : Nat → Prop} {z : Nat → Nat} {n i c : Nat} (h : mb_lx C z n i c) (hc : C i) (hz : z i < z c) : mb_lx C z n (i + 1) i := by
  obtain ⟨h1, h2, h3, h4⟩ := h
  refine ⟨hc, by omega, Or.inl (Nat.lt_succ_self i), ?_⟩
  intro j hj cj
  rcases Nat.lt_or_ge j i with y | y
  · have := h4 j y cj
    omega
  · have e : j = i := by omega
    subst e
    omega
theorem mb_lx_f {C : Nat → Prop} {z : Nat → Nat} {n i c : Nat} (h : mb_lx C z n i c) (hi : z i < n) (hq : ¬ (z i < z c ∧ C i)) : mb_lx C z n (i + 1) c := by
  obtain ⟨h1, h2, h3, h4⟩ := h
  refine ⟨h1, h2, by omega, ?_⟩
  intro j hj cj
  rcases Nat.lt_or_ge j i with y | y
  · exact h4 j y cj
  · have e : j = i := by omega
    subst e
    have q : ¬ z j < z c := fun q => hq ⟨q, cj⟩
    omega
theorem mb_lx_e {C : Nat → Prop} {z : Nat → Nat} {n c : Nat} (h : mb_lx C z n (2 ^ n - 1) c) (hz : z (2 ^ n - 1) = n) : mb_lc C z (2 ^ n) c := by
  obtain ⟨h1, h2, h3, h4⟩ := h
  have p : 0 < 2 ^ n := Nat.two_pow_pos n
  refine ⟨by omega, h1, ?_⟩
  intro j hj cj
  rcases Nat.lt_or_ge j (2 ^ n - 1) with y | y
  · exact h4 j y cj
  · have e : j = 2 ^ n - 1 := by omega
    subst e
    omega
/-- Y, downwards: the sets at i and above looked at -/
def mb_ly (C : Nat → Prop) (z : Nat → Nat) (N i c : Nat) : Prop := c < N ∧ C c ∧ (i ≤ c ∨ c = N - 1) ∧ ∀ j, i ≤ j → j < N → C j → z c < z j ∨ (z c = z j ∧ c ≤ j)
theorem mb_ly_0 {C : Nat → Prop} {z : Nat → Nat} {N : Nat} (p : 0 < N) (h : C (N - 1)) : mb_ly C z N N (N - 1) :=
  ⟨by omega, h, Or.inr rfl, fun j h1 h2 => absurd h2 (by omega)⟩
theorem mb_ly_t {C : Nat → Prop} {z : Nat → Nat} {N i c : Nat} (h : mb_ly C z N (i + 1) c) (hi : i < N) (hc : C i) (hz : z i ≤ z c) : mb_ly C z N i i := by
  obtain ⟨h1, h2, h3, h4⟩ := h
  refine ⟨hi, hc, Or.inl (Nat.le_refl i), ?_⟩
  intro j hj hN cj
  rcases Nat.lt_or_ge i j with y | y
  · have := h4 j y hN cj
    omega
  · have e : j = i := by omega
    subst e
    omega
theorem mb_ly_f {C : Nat → Prop} {z : Nat → Nat} {N i c : Nat} (h : mb_ly C z N (i + 1) c) (hq : ¬ (z i ≤ z c ∧ C i)) : mb_ly C z N i c := by
  obtain ⟨h1, h2, h3, h4⟩ := h
  refine ⟨h1, h2, by omega, ?_⟩
  intro j hj hN cj
  rcases Nat.lt_or_ge i j with y | y
  · exact h4 j y hN cj
  · have e : j = i := by omega
    subst e
    have q : ¬ z j ≤ z c := fun q => hq ⟨q, cj⟩
    omega
theorem mb_ly_e {C : Nat → Prop} {z : Nat → Nat} {N c : Nat} (h : mb_ly C z N 0 c) : mb_lc C z N c :=
  ⟨h.1, h.2.1, fun j hj cj => h.2.2.2 j (Nat.zero_le j) hj cj⟩
