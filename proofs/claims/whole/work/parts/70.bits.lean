/-! Bits: the least of them, how many. -/
def ltz (V : Nat) : Nat → Nat → Int
  | 0, _ => -1
  | k + 1, i => if V.testBit i = true then (i : Int) else ltz V k (i + 1)
def tzx (v : Int) : Int := iAnd (iXor v (-1)) (v - 1)
def tz1 (x n r : Int) : Bool := if x ≤ 4 then decide (n + iUshr x 1 = r) else decide ((n + 2) + iUshr (iUshr x 2) 1 = r)
def tz0 (v r : Int) : Bool := decide (tzx v ≤ 256) && (if 0 < tzx v then (if tzx v ≤ 16 then tz1 (tzx v) 1 r else tz1 (iUshr (tzx v) 4) (1 + 4) r) else decide (iAnd (tzx v) 32 = r))
set_option maxRecDepth 100000 in
theorem tz_all : (List.range 256).all (fun V => V == 0 || tz0 (V : Int) (ltz V 8 0)) = true := by decide +kernel
theorem ltz_rg {V : Nat} : ∀ (k i : Nat), ltz V k i = -1 ∨ ((i : Int) ≤ ltz V k i ∧ ltz V k i < (i : Int) + k)
  | 0, i => Or.inl rfl
  | k + 1, i => by
    unfold ltz
    split
    · exact Or.inr ⟨by omega, by omega⟩
    · have := ltz_rg (V := V) k (i + 1); omega
theorem s257 {V : Nat} (h1 : V < 256) (h0 : ¬ V = 0) {h : zH} {K : Int → zH → Prop} (k : K (ltz V 8 0) h) : zC1 257 [vI (V : Int)] h K := by
  have q := List.all_eq_true.1 tz_all V (List.mem_range.2 h1)
  have q : tz0 (V : Int) (ltz V 8 0) = true := by simpa [h0] using q
  have rg := ltz_rg (V := V) 8 0
  have go : ∀ x n : Int, tz1 x n (ltz V 8 0) = true → -100 ≤ n ∧ n ≤ 100 → zK 257 62 [vI x, vI n] [] h (fun r h1 => ∃ v : Int, r = some (Sum.inl v) ∧ K v h1) := by
    intro x n c hn
    unfold tz1 at c
    refine k257_62 x n h _ ⟨fun d => ?_, fun d => ?_⟩
    · rw [if_pos d] at c
      have c := of_decide_eq_true c
      exact ⟨by unfold inR; omega, zq1 (by rw [c]; exact k)⟩
    · rw [if_neg d] at c
      have c := of_decide_eq_true c
      exact ⟨by unfold inR; omega, by unfold inR; omega, zq1 (by rw [c]; exact k)⟩
  unfold tz0 at q
  rw [Bool.and_eq_true] at q
  have q1 := of_decide_eq_true q.1
  have q2 := q.2
  refine cI (k257_0 (V : Int) h _ ⟨by unfold inR; omega, ?_⟩)
  rw [show iAnd (iXor (V : Int) (-1)) ((V : Int) - 1) = tzx V from rfl]
  refine ⟨fun d => ⟨fun d1 => ?_, fun d1 => absurd (show tzx V ≤ 65536 by omega) d1⟩, fun d => zq1 ?_⟩
  · refine k257_34 _ _ h _ ⟨fun _ => ?_, fun d2 => absurd q1 d2⟩
    rw [if_pos d] at q2
    refine k257_49 _ _ h _ ⟨fun d2 => go _ _ (by rw [if_pos d2] at q2; exact q2) (by omega), fun d2 => ⟨by unfold inR; omega, go _ _ (by rw [if_neg d2] at q2; exact q2) (by omega)⟩⟩
  · rw [if_neg d] at q2
    rw [of_decide_eq_true q2]; exact k
theorem bts_O {P : Int → Prop} : ∀ (k : Nat) (i a : Int) (Q : Int → Prop), 0 ≤ i → i + k ≤ 26 → bO a Q → bO (bts P k i a) (fun m => Q m ∨ (P m ∧ i ≤ m ∧ m < i + k))
  | 0, i, a, Q, h0, h1, b => bO_cg b (fun m => ⟨fun q => Or.inl q, fun q => by rcases q with q | q; exact q; omega⟩)
  | k + 1, i, a, Q, h0, h1, b => by
    unfold bts
    by_cases c : P i
    · rw [b2i_pos c, if_pos rfl]
      refine bO_cg (bts_O k (i + 1) _ (fun m => Q m ∨ m = i) (by omega) (by omega) (bO_or b (by omega) (fun m => Iff.rfl))) (fun m => ⟨fun q => ?_, fun q => ?_⟩)
      · rcases q with (q | q) | q
        · exact Or.inl q
        · subst q; exact Or.inr ⟨c, by omega, by omega⟩
        · exact Or.inr ⟨q.1, by omega, by omega⟩
      · rcases q with q | q
        · exact Or.inl (Or.inl q)
        · by_cases d : m = i
          · exact Or.inl (Or.inr d)
          · exact Or.inr ⟨q.1, by omega, by omega⟩
    · rw [b2i_neg c, if_neg (by omega)]
      refine bO_cg (bts_O k (i + 1) a Q (by omega) (by omega) b) (fun m => ⟨fun q => ?_, fun q => ?_⟩)
      · rcases q with q | q
        · exact Or.inl q
        · exact Or.inr ⟨q.1, by omega, by omega⟩
      · rcases q with q | q
        · exact Or.inl q
        · by_cases d : m = i
          · subst d; exact absurd q.1 c
          · exact Or.inr ⟨q.1, by omega, by omega⟩
/-- the rules that fit, as bits -/
theorem bts_8 (P : Int → Prop) : ∃ V : Nat, bts P 8 0 0 = V ∧ V < 256 ∧ ∀ l : Nat, l < 8 → (V.testBit l = true ↔ P l) := by
  obtain ⟨V, e, h, b⟩ := bts_O (P := P) 8 0 0 (fun _ => False) (by omega) (by omega) ⟨0, rfl, by omega, fun l _ => by simp⟩
  refine ⟨V, e, ?_, fun l hl => ?_⟩
  · apply Nat.lt_pow_two_of_testBit V (n := 8)
    intro i hi
    by_cases c : i < 26
    · have := b i c
      cases ht : V.testBit i with
      | false => rfl
      | true =>
        rcases this.1 ht with q | q
        · exact q.elim
        · omega
    · exact Nat.testBit_lt_two_pow (Nat.lt_of_lt_of_le (show V < 2 ^ 26 from h) (Nat.pow_le_pow_right (show 0 < 2 by decide) (show 26 ≤ i by omega)))
  · rw [b l (by omega)]
    exact ⟨fun q => by rcases q with q | q; exact q.elim; exact q.1, fun q => Or.inr ⟨q, by omega, by omega⟩⟩
theorem fst_tz {P : Int → Prop} {V : Nat} : ∀ (k i : Nat), (∀ l : Nat, i ≤ l → l < i + k → (V.testBit l = true ↔ P l)) → fst P k i = ltz V k i
  | 0, i, _ => rfl
  | k + 1, i, h => by
    have hi := h i (by omega) (by omega)
    have r := fst_tz (P := P) (V := V) k (i + 1) (fun l h0 h1 => h l (by omega) (by omega))
    unfold ltz
    by_cases c : P i
    · rw [fst_y c, if_pos (hi.2 c)]
    · rw [fst_n c, if_neg (fun d => c (hi.1 d)), ← r]; rfl
theorem ltz_0 {V : Nat} : ∀ (k i : Nat), ltz V k i = -1 → ∀ l : Nat, i ≤ l → l < i + k → V.testBit l = false
  | 0, i, _, l, h0, h1 => by omega
  | k + 1, i, h, l, h0, h1 => by
    unfold ltz at h
    split at h
    · omega
    · rename_i c
      by_cases d : l = i
      · subst d; simpa using c
      · exact ltz_0 k (i + 1) h l (by omega) (by omega)
theorem bts_0 {P : Int → Prop} : bts P 8 0 0 = 0 ↔ fst P 8 0 = -1 := by
  obtain ⟨V, e, h, b⟩ := bts_8 P
  have f := fst_tz (P := P) (V := V) 8 0 (fun l _ h1 => b l (by omega))
  have f : fst P 8 0 = ltz V 8 0 := f
  rw [e, f]
  constructor
  · intro c
    have c : V = 0 := by omega
    subst c
    decide
  · intro c
    have : V = 0 := by
      apply Nat.eq_of_testBit_eq
      intro i
      rw [Nat.zero_testBit]
      by_cases d : i < 8
      · exact ltz_0 8 0 c i (by omega) (by omega)
      · exact Nat.testBit_lt_two_pow (Nat.lt_of_lt_of_le (show V < 2 ^ 8 from h) (Nat.pow_le_pow_right (show 0 < 2 by decide) (show 8 ≤ i by omega)))
    omega
theorem s257b {P : Int → Prop} (c : ¬ bts P 8 0 0 = 0) {h : zH} {K : Int → zH → Prop} (k : K (fst P 8 0) h) : zC1 257 [vI (bts P 8 0 0)] h K := by
  obtain ⟨V, e, hV, b⟩ := bts_8 P
  have f : fst P 8 0 = ltz V 8 0 := fst_tz (P := P) (V := V) 8 0 (fun l _ h1 => b l (by omega))
  rw [f] at k
  rw [e] at c ⊢
  exact s257 hV (by omega) k
