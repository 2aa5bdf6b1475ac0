section Sets
def mkS (f : Nat → Bool) : Nat → Nat
  | 0 => 0
  | n + 1 => if f n = true then mkS f n ||| 2 ^ n else mkS f n
theorem mkS_lt (f : Nat → Bool) : ∀ n, mkS f n < 2 ^ n
  | 0 => by show 0 < 1; omega
  | n + 1 => by
    have ih := mkS_lt f n
    unfold mkS
    by_cases g : f n = true
    · rw [if_pos g]
      exact Nat.or_lt_two_pow (by rw [Nat.pow_succ]; omega) (Nat.pow_lt_pow_right (by omega) (by omega))
    · rw [if_neg g, Nat.pow_succ]; omega
theorem mkS_bit (f : Nat → Bool) (k : Nat) : ∀ n, (mkS f n).testBit k = (decide (k < n) && f k)
  | 0 => by simp [mkS]
  | n + 1 => by
    have ih := mkS_bit f k n
    unfold mkS
    by_cases e : n = k
    · subst e
      by_cases g : f n = true
      · rw [if_pos g, Nat.testBit_or, ih, Nat.testBit_two_pow]
        simp [g]
      · rw [if_neg g, ih]
        simp at g
        simp [g]
    · by_cases g : f n = true
      · rw [if_pos g, Nat.testBit_or, ih, Nat.testBit_two_pow]
        by_cases l : k < n
        · simp [l, show k < n + 1 by omega]; exact fun z => absurd z e
        · simp [l, show ¬ k < n + 1 by omega]; exact e
      · rw [if_neg g, ih]
        by_cases l : k < n
        · simp [l, show k < n + 1 by omega]
        · simp [l, show ¬ k < n + 1 by omega]
/-- how many of the first n bits are set -/
def pcs (s : Nat) : Nat → Nat
  | 0 => 0
  | n + 1 => if s.testBit n = true then pcs s n + 1 else pcs s n
abbrev sbs (s m : Nat) : Prop := ∀ k, s.testBit k = true → m.testBit k = true
theorem pcs_le (s : Nat) : ∀ n, pcs s n ≤ n
  | 0 => Nat.le_refl _
  | n + 1 => by
    have ih := pcs_le s n
    unfold pcs
    by_cases g : s.testBit n = true
    · rw [if_pos g]; omega
    · rw [if_neg g]; omega
theorem pcs_mono {s m : Nat} (hs : sbs s m) : ∀ n, pcs s n ≤ pcs m n
  | 0 => Nat.le_refl _
  | n + 1 => by
    have ih := pcs_mono hs n
    unfold pcs
    by_cases g : s.testBit n = true
    · rw [if_pos g, if_pos (hs n g)]; omega
    · rw [if_neg g]
      by_cases g2 : m.testBit n = true
      · rw [if_pos g2]; omega
      · rw [if_neg g2]; exact ih
theorem pcs_eq {s m : Nat} (hs : sbs s m) : ∀ n, pcs m n ≤ pcs s n → ∀ k, k < n → s.testBit k = m.testBit k
  | 0, _ => fun k hk => absurd hk (Nat.not_lt_zero k)
  | n + 1, hle => by
    have mo := pcs_mono hs n
    have ih := pcs_eq hs n
    unfold pcs at hle
    intro k hk
    by_cases g : s.testBit n = true
    · rw [if_pos g, if_pos (hs n g)] at hle
      by_cases e : k = n
      · rw [e, g, hs n g]
      · exact ih (by omega) k (by omega)
    · rw [if_neg g] at hle
      by_cases g2 : m.testBit n = true
      · rw [if_pos g2] at hle; omega
      · rw [if_neg g2] at hle
        by_cases e : k = n
        · rw [e, Bool.eq_false_iff.mpr g, Bool.eq_false_iff.mpr g2]
        · exact ih hle k (by omega)
theorem bit_hi {s k : Nat} (hs : s < 1024) (hk : 10 ≤ k) : s.testBit k = false :=
  Nat.testBit_lt_two_pow (Nat.lt_of_lt_of_le (show s < 2 ^ 10 from hs) (Nat.pow_le_pow_right (by omega) hk))
theorem pcs_same {s m : Nat} (hs : s < 1024) (hm : m < 1024) (hb : sbs s m) (hle : pcs m 10 ≤ pcs s 10) : s = m := by
  apply Nat.eq_of_testBit_eq
  intro k
  rcases Nat.lt_or_ge k 10 with q | q
  · exact pcs_eq hb 10 hle k q
  · rw [bit_hi hs q, bit_hi hm q]
theorem sbs_le {s m : Nat} (hb : sbs s m) : s ≤ m := by
  have : s &&& m = s := by
    apply Nat.eq_of_testBit_eq
    intro k
    rw [Nat.testBit_and]
    by_cases g : s.testBit k = true
    · rw [g, hb k g]; rfl
    · rw [Bool.eq_false_iff.mpr g]; rfl
  rw [← this]
  exact Nat.and_le_right
def lft (o : Nat → Nat) (s : Nat) : Nat → Nat
  | 0 => 0
  | n + 1 => if s.testBit n = true then lft o s n else lft o s n + o n
def tkn (o : Nat → Nat) (s : Nat) : Nat → Nat
  | 0 => 0
  | n + 1 => if s.testBit n = true then tkn o s n + o n else tkn o s n
def tot (o : Nat → Nat) : Nat → Nat
  | 0 => 0
  | n + 1 => tot o n + o n
theorem lft_tkn {o : Nat → Nat} {s : Nat} : ∀ n, lft o s n + tkn o s n = tot o n
  | 0 => rfl
  | n + 1 => by
    have ih := lft_tkn (o := o) (s := s) n
    unfold lft tkn tot
    by_cases g : s.testBit n = true
    · rw [if_pos g, if_pos g]; omega
    · rw [if_neg g, if_neg g]; omega
theorem tkn_congr {o o' : Nat → Nat} {s : Nat} : ∀ n, (∀ i, i < n → s.testBit i = true → o i = o' i) → tkn o s n = tkn o' s n
  | 0, _ => rfl
  | n + 1, hh => by
    have ih := tkn_congr (o := o) (o' := o') (s := s) n (fun i hi => hh i (by omega))
    unfold tkn
    by_cases g : s.testBit n = true
    · rw [if_pos g, if_pos g, ih, hh n (by omega) g]
    · rw [if_neg g, if_neg g, ih]
theorem lft_congr {o : Nat → Nat} {s s' : Nat} : ∀ n, (∀ i, i < n → s.testBit i = s'.testBit i ∨ o i = 0) → lft o s n = lft o s' n
  | 0, _ => rfl
  | n + 1, hh => by
    have ih := lft_congr (o := o) (s := s) (s' := s') n (fun i hi => hh i (by omega))
    unfold lft
    rcases hh n (by omega) with g | g
    · rw [g, ih]
    · rw [g, ih]
      simp
theorem tot_le {o : Nat → Nat} : ∀ n, (∀ i, i < n → o i ≤ 1000000) → tot o n ≤ n * 1000000
  | 0, _ => Nat.zero_le _
  | n + 1, hh => by
    have ih := tot_le (o := o) n (fun i hi => hh i (by omega))
    have := hh n (by omega)
    unfold tot
    omega
def lex (m s : Nat) : Prop := pcs m 10 < pcs s 10 ∨ (pcs m 10 = pcs s 10 ∧ m ≤ s)
/-- a set of those below that leaves no more than a -/
def gdS (B : Nat) (o : Nat → Nat) (n a s : Nat) : Prop := sbs s B ∧ lft o s n ≤ a
def bst (B : Nat) (o : Nat → Nat) (n a b : Nat) : Prop := b < 1024 ∧ gdS B o n a b ∧ ∀ s, s < 1024 → gdS B o n a s → lex b s
theorem bst_one {B n a b b' : Nat} {o : Nat → Nat} (h1 : bst B o n a b) (h2 : bst B o n a b') : b = b' := by
  have x1 := h1.2.2 b' h2.1 h2.2.1
  have x2 := h2.2.2 b h1.1 h1.2.1
  unfold lex at x1 x2
  omega
/-- it is enough to look at a part of those below, if the others leave nothing -/
theorem bst_part {A B n a b : Nat} {o : Nat → Nat} (hA : sbs A B) (h0 : ∀ i, i < n → A.testBit i = false → o i = 0) (h1 : bst A o n a b) : bst B o n a b := by
  obtain ⟨b1, ⟨b2, b3⟩, b4⟩ := h1
  refine ⟨b1, ⟨fun k hk => hA k (b2 k hk), b3⟩, fun s hs g => ?_⟩
  have l1 : s &&& A < 1024 := Nat.lt_of_le_of_lt Nat.and_le_left hs
  have s1 : sbs (s &&& A) s := fun k hk => by
    rw [Nat.testBit_and, Bool.and_eq_true] at hk; exact hk.1
  have s2 : sbs (s &&& A) A := fun k hk => by
    rw [Nat.testBit_and, Bool.and_eq_true] at hk; exact hk.2
  have e : lft o (s &&& A) n = lft o s n := lft_congr n (fun i hi => by
    by_cases g : A.testBit i = true
    · left; rw [Nat.testBit_and, g, Bool.and_true]
    · right; exact h0 i hi (Bool.eq_false_iff.mpr g))
  have := b4 (s &&& A) l1 ⟨s2, by rw [e]; exact g.2⟩
  have p1 := pcs_mono s1 10
  have p2 : s &&& A ≤ s := Nat.and_le_left
  unfold lex at this ⊢
  omega
theorem nI_and (a b : Nat) : nI a &&& nI b = nI (a &&& b) := by
  apply Int32.toBitVec_inj.mp
  show BitVec.ofNat 32 a &&& BitVec.ofNat 32 b = BitVec.ofNat 32 (a &&& b)
  exact BitVec.ofNat_and.symm
theorem nI_xor (a b : Nat) : nI a ^^^ nI b = nI (a ^^^ b) := by
  apply Int32.toBitVec_inj.mp
  show BitVec.ofNat 32 a ^^^ BitVec.ofNat 32 b = BitVec.ofNat 32 (a ^^^ b)
  exact BitVec.ofNat_xor.symm
theorem sub_nI {s m : Nat} (hs : s < 1024) (hm : m < 1024) : (nI s &&& (nI m ^^^ (-1)) = 0) ↔ sbs s m := by
  rw [show (-1 : Int32) = nI (2 ^ 32 - 1) by decide, nI_xor, nI_and]
  have l : s &&& (m ^^^ (2 ^ 32 - 1)) ≤ s := Nat.and_le_left
  rw [show (0 : Int32) = nI 0 from rfl, nI_eq (by omega) (by omega)]
  constructor
  · intro e k hk
    have := congrArg (fun x => Nat.testBit x k) e
    simp only [Nat.testBit_and, Nat.testBit_xor, Nat.testBit_two_pow_sub_one, hk, Nat.zero_testBit, Bool.true_and] at this
    have k10 : k < 10 := by
      rcases Nat.lt_or_ge k 10 with q | q
      · exact q
      · rw [bit_hi hs q] at hk; exact absurd hk (by decide)
    rw [show decide (k < 32) = true by simp; omega] at this
    simpa using this
  · intro hb
    apply Nat.eq_of_testBit_eq
    intro k
    rw [Nat.testBit_and, Nat.testBit_xor, Nat.testBit_two_pow_sub_one, Nat.zero_testBit]
    by_cases g : s.testBit k = true
    · have k10 : k < 10 := by
        rcases Nat.lt_or_ge k 10 with q | q
        · exact q
        · rw [bit_hi hs q] at g; exact absurd g (by decide)
      rw [g, hb k g, show decide (k < 32) = true by simp; omega]
      rfl
    · rw [Bool.eq_false_iff.mpr g]; rfl
theorem bit_nI {M t : Nat} (hM : M < 1024) (ht : t < 10) : (nI M >>> (nI t &&& 31)) &&& 1 = nI (if M.testBit t = true then 1 else 0) := by
  rw [pk_shrN (by omega) _ t (sh_t ht), pk_andN (by
    have : M / 2 ^ t ≤ M := Nat.div_le_self _ _
    omega) 1 (by decide), Nat.testBit_eq_decide_div_mod_eq]
  congr 1
  by_cases g : M / 2 ^ t % 2 = 1
  · simp [g]
  · simp [g]; omega
def bcE (a0 : Int32) : Int32 := ((((((((a0 - ((((a0 : Int32).toUInt32 >>> ((1 : Int32).toUInt32 &&& Int32.toUInt32 31)).toInt32) &&& 1431655765)) &&& 858993459) + ((((a0 - ((((a0 : Int32).toUInt32 >>> ((1 : Int32).toUInt32 &&& Int32.toUInt32 31)).toInt32) &&& 1431655765) : Int32).toUInt32 >>> ((2 : Int32).toUInt32 &&& Int32.toUInt32 31)).toInt32) &&& 858993459)) + (((((a0 - ((((a0 : Int32).toUInt32 >>> ((1 : Int32).toUInt32 &&& Int32.toUInt32 31)).toInt32) &&& 1431655765)) &&& 858993459) + ((((a0 - ((((a0 : Int32).toUInt32 >>> ((1 : Int32).toUInt32 &&& Int32.toUInt32 31)).toInt32) &&& 1431655765) : Int32).toUInt32 >>> ((2 : Int32).toUInt32 &&& Int32.toUInt32 31)).toInt32) &&& 858993459) : Int32).toUInt32 >>> ((4 : Int32).toUInt32 &&& Int32.toUInt32 31)).toInt32)) &&& 252645135) + (((((((a0 - ((((a0 : Int32).toUInt32 >>> ((1 : Int32).toUInt32 &&& Int32.toUInt32 31)).toInt32) &&& 1431655765)) &&& 858993459) + ((((a0 - ((((a0 : Int32).toUInt32 >>> ((1 : Int32).toUInt32 &&& Int32.toUInt32 31)).toInt32) &&& 1431655765) : Int32).toUInt32 >>> ((2 : Int32).toUInt32 &&& Int32.toUInt32 31)).toInt32) &&& 858993459)) + (((((a0 - ((((a0 : Int32).toUInt32 >>> ((1 : Int32).toUInt32 &&& Int32.toUInt32 31)).toInt32) &&& 1431655765)) &&& 858993459) + ((((a0 - ((((a0 : Int32).toUInt32 >>> ((1 : Int32).toUInt32 &&& Int32.toUInt32 31)).toInt32) &&& 1431655765) : Int32).toUInt32 >>> ((2 : Int32).toUInt32 &&& Int32.toUInt32 31)).toInt32) &&& 858993459) : Int32).toUInt32 >>> ((4 : Int32).toUInt32 &&& Int32.toUInt32 31)).toInt32)) &&& 252645135 : Int32).toUInt32 >>> ((8 : Int32).toUInt32 &&& Int32.toUInt32 31)).toInt32)) + ((((((((a0 - ((((a0 : Int32).toUInt32 >>> ((1 : Int32).toUInt32 &&& Int32.toUInt32 31)).toInt32) &&& 1431655765)) &&& 858993459) + ((((a0 - ((((a0 : Int32).toUInt32 >>> ((1 : Int32).toUInt32 &&& Int32.toUInt32 31)).toInt32) &&& 1431655765) : Int32).toUInt32 >>> ((2 : Int32).toUInt32 &&& Int32.toUInt32 31)).toInt32) &&& 858993459)) + (((((a0 - ((((a0 : Int32).toUInt32 >>> ((1 : Int32).toUInt32 &&& Int32.toUInt32 31)).toInt32) &&& 1431655765)) &&& 858993459) + ((((a0 - ((((a0 : Int32).toUInt32 >>> ((1 : Int32).toUInt32 &&& Int32.toUInt32 31)).toInt32) &&& 1431655765) : Int32).toUInt32 >>> ((2 : Int32).toUInt32 &&& Int32.toUInt32 31)).toInt32) &&& 858993459) : Int32).toUInt32 >>> ((4 : Int32).toUInt32 &&& Int32.toUInt32 31)).toInt32)) &&& 252645135) + (((((((a0 - ((((a0 : Int32).toUInt32 >>> ((1 : Int32).toUInt32 &&& Int32.toUInt32 31)).toInt32) &&& 1431655765)) &&& 858993459) + ((((a0 - ((((a0 : Int32).toUInt32 >>> ((1 : Int32).toUInt32 &&& Int32.toUInt32 31)).toInt32) &&& 1431655765) : Int32).toUInt32 >>> ((2 : Int32).toUInt32 &&& Int32.toUInt32 31)).toInt32) &&& 858993459)) + (((((a0 - ((((a0 : Int32).toUInt32 >>> ((1 : Int32).toUInt32 &&& Int32.toUInt32 31)).toInt32) &&& 1431655765)) &&& 858993459) + ((((a0 - ((((a0 : Int32).toUInt32 >>> ((1 : Int32).toUInt32 &&& Int32.toUInt32 31)).toInt32) &&& 1431655765) : Int32).toUInt32 >>> ((2 : Int32).toUInt32 &&& Int32.toUInt32 31)).toInt32) &&& 858993459) : Int32).toUInt32 >>> ((4 : Int32).toUInt32 &&& Int32.toUInt32 31)).toInt32)) &&& 252645135 : Int32).toUInt32 >>> ((8 : Int32).toUInt32 &&& Int32.toUInt32 31)).toInt32) : Int32).toUInt32 >>> ((16 : Int32).toUInt32 &&& Int32.toUInt32 31)).toInt32)) &&& 63)
theorem bc_all : ∀ s, s < 1024 → bcE (nI s) = nI (pcs s 10) := by decide +kernel
variable {E : EN} {h hh : TH} {a1 a2 a3 a4 x d w : Int32} {P C W K N A O D : Nat}
theorem w_bc {s : Nat} {Q : Int32 → TH → Prop} (hs : s < 1024) : SJ6_bitCount_0f7a4 E (nI s) h Q ↔ Q (nI (pcs s 10)) h := by
  have e := bc_all s hs
  show Q (bcE (nI s)) h ↔ _
  rw [e]
theorem m_bits {s : Nat} {Q : Int32 → TH → Prop} (hs : s < 1024) (hQ : Q (nI (pcs s 10)) h) : wi E MX7_bits Q 0 [some (.int (nI s)), none, none] [] h := by
  refine sX7_bits_0 ?_
  unfold SX7_bits_0
  refine run_dn 10 (fun i => wi E MX7_bits Q 4 [some (.int (nI s)), some (.int (nI (pcs s i))), some (.int (nI i))] [] h) ?_ ?_
  · refine sX7_bits_4 ?_
    unfold SX7_bits_4
    exact ⟨fun _ => hQ, fun z => absurd (show (10 : Int32) ≤ nI 10 by decide) z⟩
  · intro i hi ih
    refine sX7_bits_4 ?_
    unfold SX7_bits_4
    rw [bit_nI hs hi, nI_add, nI_1]
    refine ⟨fun z => absurd z (by rw [show (10 : Int32) = nI 10 from rfl, le_nI (by omega) (by omega)]; omega), fun _ => ?_⟩
    unfold pcs at ih
    by_cases g : s.testBit i = true
    · rw [if_pos g] at ih ⊢; exact ih
    · rw [if_neg g] at ih ⊢; exact ih
end Sets
