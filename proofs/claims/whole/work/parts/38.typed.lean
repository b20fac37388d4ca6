/-! What is typed: sign, end, taking the text. -/
theorem and255 (x : Int) : 0 ≤ iAnd x 255 ∧ iAnd x 255 ≤ 255 := by
  unfold iAnd
  have e : (Int32.ofInt x &&& Int32.ofInt 255).toBitVec.toNat ≤ 255 := by
    rw [Int32.toBitVec_and, BitVec.toNat_and]
    have : (Int32.ofInt 255).toBitVec.toNat = 255 := z32n 255 (by omega)
    rw [this]
    exact Nat.and_le_right
  rw [i32n _ (by omega)]
  omega
theorem byte255 (x : Int) : iAnd (iByte x) 255 = iAnd x 255 := by
  unfold iAnd iByte
  have e1 : Int32.ofInt ((Int32.ofInt x).toInt8.toInt32.toInt) = (Int32.ofInt x).toInt8.toInt32 := Int32.ofInt_toInt _
  rw [e1]
  congr 1
  apply Int32.toBitVec_inj.mp
  rw [Int32.toBitVec_and, Int32.toBitVec_and]
  generalize Int32.ofInt x = y
  have e2 : y.toInt8.toInt32.toBitVec = (y.toBitVec.signExtend 8).signExtend 32 := by rw [Int8.toBitVec_toInt32, Int32.toBitVec_toInt8]
  rw [e2]
  have e3 : (Int32.ofInt 255).toBitVec = BitVec.ofNat 32 255 := by decide
  rw [e3]
  apply BitVec.eq_of_getLsbD_eq
  intro i hi
  rw [BitVec.getLsbD_and, BitVec.getLsbD_and]
  by_cases c : i < 8
  · have : ((y.toBitVec.signExtend 8).signExtend 32).getLsbD i = y.toBitVec.getLsbD i := by
      rw [BitVec.getLsbD_signExtend, BitVec.getLsbD_signExtend]
      simp [c, hi]
    rw [this]
  · have : (BitVec.ofNat 32 255).getLsbD i = false := by
      have : ∀ j : Fin 32, 8 ≤ j.val → (BitVec.ofNat 32 255).getLsbD j.val = false := by decide
      exact this ⟨i, hi⟩ (Nat.not_lt.mp c)
    rw [this, Bool.and_false, Bool.and_false]
theorem byte_rg (x : Int) : -128 ≤ iByte x ∧ iByte x ≤ 127 := by
  unfold iByte
  have e : (Int32.ofInt x).toInt8.toInt32.toInt = (Int32.ofInt x).toInt8.toInt := Int8.toInt_toInt32 _
  rw [e]
  have h1 := Int8.le_toInt (Int32.ofInt x).toInt8
  have h2 := Int8.toInt_lt (Int32.ofInt x).toInt8
  omega
def sgn (ty : Int → Int) (m v : Int) : Int → Int := fun i => if i = m then iAnd (iUshr v 24) 255 else if i = m + 1 then iAnd (iUshr v 16) 255 else if i = m + 2 then iAnd (iUshr v 8) 255 else if i = m + 3 then iAnd (iUshr v 0) 255 else ty i
theorem sgn_ok {ty : Int → Int} {m v : Int} (o : tOk ty m) (h : m + 4 ≤ 300) : tOk (sgn ty m v) (m + 4) := by
  obtain ⟨o1, o2, o3⟩ := o
  refine ⟨by omega, h, fun i => ⟨fun c => ?_, fun c => ?_⟩⟩
  · unfold sgn
    repeat' split
    · exact and255 _
    · exact and255 _
    · exact and255 _
    · exact and255 _
    · exact (o3 i).1 (by omega)
  · unfold sgn
    rw [if_neg (by omega), if_neg (by omega), if_neg (by omega), if_neg (by omega)]
    exact (o3 i).2 (by omega)
def cut (ty : Int → Int) (m : Int) : Int → Int := fun i => if 0 ≤ i ∧ i < m then ty i else -1
theorem cut_ok {ty : Int → Int} {m n : Int} (o : tOk ty m) (h : 0 ≤ n ∧ n ≤ m) : tOk (cut ty n) n := by
  obtain ⟨o1, o2, o3⟩ := o
  refine ⟨by omega, by omega, fun i => ⟨fun c => ?_, fun c => ?_⟩⟩
  · unfold cut; rw [if_pos c]; exact (o3 i).1 (by omega)
  · unfold cut; rw [if_neg c]
section TY
variable {h : zH} {ty : Int → Int} {m v : Int}
theorem s1 (x : Txt h 3 ty m) (o : tOk ty m) {K : Int → zH → Prop} (k1 : m + 4 ≤ 300 → ∀ h1, frP (txA 3) h h1 → Txt h1 3 (sgn ty m v) (m + 4) → K (m + 4) h1) (k2 : ¬ m + 4 ≤ 300 → K (-1) h) : zC1 1 [vR 2 100, vI v] h K := by
  have o1 := o.1
  have o2 := o.2.1
  refine cI (k1_0 v h _ ?_)
  rw [x.1]
  refine ⟨by unfold inR; omega, fun c => ?_, fun c => zq1 (k2 c)⟩
  have step : ∀ (q m' : Int) (h' : zH) (Q : Option zV → zH → Prop), gI h' 3 1 = m' → 0 ≤ m' → m' < 300 → 0 ≤ q → q ≤ 24 → zK 1 20 [vR 2 100, vI v, vI (q + (-8))] [] (sI (sI h' 4 m' (iAnd (iUshr v q) 255)) 3 1 (m' + 1)) Q → zK 1 20 [vR 2 100, vI v, vI q] [] h' Q := by
    intro q m' h' Q e h0 h1 q0 q1 kk
    refine k1_20 v q h' Q ⟨fun d => absurd d (by omega), fun _ => ?_⟩
    rw [e]
    refine ⟨h0, h1, fun h3 e3 => ?_⟩
    have z : gI h3 3 1 = m' := by rw [e3, gS, if_neg (by omega)]; exact e
    rw [z]
    refine ⟨by unfold inR; omega, fun h4 e4 => ⟨by unfold inR; omega, ?_⟩⟩
    rw [e4, e3]; exact kk
  refine step 24 m h _ x.1 o1 (by omega) (by omega) (by omega) ?_
  refine step 16 (m + 1) _ _ (by simp [gS]) (by omega) (by omega) (by omega) (by omega) ?_
  refine step 8 (m + 1 + 1) _ _ (by simp [gS]) (by omega) (by omega) (by omega) (by omega) ?_
  refine step 0 (m + 1 + 1 + 1) _ _ (by simp [gS]) (by omega) (by omega) (by omega) (by omega) ?_
  refine k1_20 v _ _ _ ⟨fun _ => ?_, fun d => absurd (by omega) d⟩
  rw [gS1]
  rw [show m + 1 + 1 + 1 + 1 = m + 4 by omega]
  refine zq1 (k1 c _ ?_ ⟨by simp [gS], x.2.1, fun i h0 h1 => ?_⟩)
  · exact (((((((frP.rf.st (by unfold txA; omega)).st (by unfold txA; omega)).st (by unfold txA; omega)).st (by unfold txA; omega)).st (by unfold txA; omega)).st (by unfold txA; omega)).st (by unfold txA; omega)).st (by unfold txA; omega)
  · unfold sgn
    by_cases c0 : i = m
    · subst c0; simp [gS]; repeat rw [if_neg (by omega)]
    · by_cases c1 : i = m + 1
      · subst c1; simp [gS]; repeat rw [if_neg (by omega)]
      · by_cases c2 : i = m + 2
        · subst c2
          have e1 : m + 2 = m + 1 + 1 := by omega
          have e2 : ¬ m + 2 = m + 1 := by omega
          have e3 : ¬ m + 2 = m := by omega
          have e4 : ¬ m + 2 = m + 1 + 1 + 1 := by omega
          simp only [gS, e2, e3, e4, if_false, and_false]
          simp [e1]
        · by_cases c3 : i = m + 3
          · subst c3
            have e1 : m + 3 = m + 1 + 1 + 1 := by omega
            rw [if_neg c0, if_neg c1, if_neg c2, if_pos rfl, gS, if_neg (by omega), gS, if_pos ⟨rfl, e1⟩]
          · have := x.2.2 i h0 (by omega)
            rw [if_neg c0, if_neg c1, if_neg c2, if_neg c3, ← this, gS, if_neg (by omega), gS, if_neg (by omega), gS, if_neg (by omega), gS, if_neg (by omega), gS, if_neg (by omega), gS, if_neg (by omega), gS, if_neg (by omega), gS, if_neg (by omega)]
theorem s2 {n : Int} (x : Txt h 3 ty m) (o : tOk ty m) {K : Int → zH → Prop} (k1 : 0 ≤ n ∧ n ≤ m → ∀ h1, frP (txA 3) h h1 → Txt h1 3 (cut ty n) n → K 1 h1) (k2 : ¬ (0 ≤ n ∧ n ≤ m) → K 0 h) : zC1 2 [vR 2 100, vI n] h K := by
  refine cI (k2_0 n h _ ⟨fun c => ⟨Or.inl rfl, zq1 (k2 (by omega))⟩, fun c => ?_⟩)
  rw [x.1]
  refine ⟨fun d h2 e2 => ⟨Or.inr rfl, zq1 (k1 (by omega) h2 (by rw [e2]; exact frP.rf.st (by unfold txA; omega)) ⟨by rw [e2, gS1], by rw [e2]; exact x.2.1, fun i h0 h1 => ?_⟩)⟩, fun d => ⟨Or.inl rfl, zq1 (k2 (by omega))⟩⟩
  rw [e2, gS, if_neg (by omega)]
  unfold cut; rw [if_pos ⟨h0, h1⟩]
  exact x.2.2 i h0 (by omega)
/-- in the model -/
def mTx (h : zH) (ty : Int → Int) (m : Int) : Prop := gI h 127 7 = m ∧ ∀ i, 0 ≤ i → i < m → iAnd (gI h 132 i) 255 = ty i
def mtA (b : Nat) (k : Int) : Prop := (b = 127 ∧ (k = 0 ∨ k = 7)) ∨ b = 132
theorem mTx.fr {P : Nat → Int → Prop} {h1 : zH} (x : mTx h ty m) (f : frP P h h1) (d : ¬ P 127 7 ∧ ∀ k, ¬ P 132 k) : mTx h1 ty m :=
  ⟨(f.1 _ _ d.1).trans x.1, fun i h0 h1 => by rw [f.1 _ _ (d.2 _)]; exact x.2 i h0 h1⟩
theorem s146 (x : mTx h ty m) (o : tOk ty m) {K : Int → zH → Prop} (k1 : m + 4 ≤ 300 → ∀ h1, frP mtA h h1 → mTx h1 (sgn ty m v) (m + 4) → K (m + 4) h1) (k2 : ¬ m + 4 ≤ 300 → K (-1) (sI h 127 0 0)) : zC1 146 [vR 127 111, vI v] h K := by
  have o1 := o.1
  have o2 := o.2.1
  refine cI (k146_0 v h _ (fun h4 e4 => ?_))
  have x4 : mTx h4 ty m := by rw [e4]; exact x.fr (P := fun b k => b = 127 ∧ k = 0) (frP.rf.st ⟨rfl, rfl⟩) ⟨by omega, fun k => by omega⟩
  have f4 : frP mtA h h4 := by rw [e4]; exact frP.rf.st (by unfold mtA; omega)
  rw [x4.1]
  refine ⟨by unfold inR; omega, fun c => ?_, fun c => zq1 (by rw [e4]; exact k2 c)⟩
  have step : ∀ (q m' : Int) (h' : zH) (Q : Option zV → zH → Prop), gI h' 127 7 = m' → 0 ≤ m' → m' < 300 → 0 ≤ q → q ≤ 24 → zK 146 22 [vR 127 111, vI v, vI (q + (-8))] [] (sI (sI h' 132 m' (iByte (iUshr v q))) 127 7 (m' + 1)) Q → zK 146 22 [vR 127 111, vI v, vI q] [] h' Q := by
    intro q m' h' Q e h0 h1 q0 q1 kk
    refine k146_22 v q h' Q ⟨fun d => absurd d (by omega), fun _ => ?_⟩
    rw [e]
    refine ⟨h0, h1, byte_rg _, fun h3 e3 => ?_⟩
    have z : gI h3 127 7 = m' := by rw [e3, gS, if_neg (by omega)]; exact e
    rw [z]
    refine ⟨by unfold inR; omega, fun h4 e4 => ⟨by unfold inR; omega, ?_⟩⟩
    rw [e4, e3]; exact kk
  refine step 24 m h4 _ x4.1 o1 (by omega) (by omega) (by omega) ?_
  refine step 16 (m + 1) _ _ (by simp [gS]) (by omega) (by omega) (by omega) (by omega) ?_
  refine step 8 (m + 1 + 1) _ _ (by simp [gS]) (by omega) (by omega) (by omega) (by omega) ?_
  refine step 0 (m + 1 + 1 + 1) _ _ (by simp [gS]) (by omega) (by omega) (by omega) (by omega) ?_
  refine k146_22 v _ _ _ ⟨fun _ => ?_, fun d => absurd (by omega) d⟩
  rw [gS1]
  rw [show m + 1 + 1 + 1 + 1 = m + 4 by omega]
  refine zq1 (k1 c _ ?_ ⟨by simp [gS], fun i h0 h1 => ?_⟩)
  · exact (((((((f4.st (by unfold mtA; omega)).st (by unfold mtA; omega)).st (by unfold mtA; omega)).st (by unfold mtA; omega)).st (by unfold mtA; omega)).st (by unfold mtA; omega)).st (by unfold mtA; omega)).st (by unfold mtA; omega)
  · unfold sgn
    by_cases c0 : i = m
    · subst c0
      rw [if_pos rfl, gS, if_neg (by omega), gS, if_neg (by omega), gS, if_neg (by omega), gS, if_neg (by omega), gS, if_neg (by omega), gS, if_neg (by omega), gS, if_neg (by omega), gS1, byte255]
    · by_cases c1 : i = m + 1
      · subst c1
        rw [if_neg c0, if_pos rfl, gS, if_neg (by omega), gS, if_neg (by omega), gS, if_neg (by omega), gS, if_neg (by omega), gS, if_neg (by omega), gS1, byte255]
      · by_cases c2 : i = m + 2
        · subst c2
          rw [if_neg c0, if_neg c1, if_pos rfl, gS, if_neg (by omega), gS, if_neg (by omega), gS, if_neg (by omega), gS, if_pos ⟨rfl, by omega⟩, byte255]
        · by_cases c3 : i = m + 3
          · subst c3
            rw [if_neg c0, if_neg c1, if_neg c2, if_pos rfl, gS, if_neg (by omega), gS, if_pos ⟨rfl, by omega⟩, byte255]
          · have := x4.2 i h0 (by omega)
            rw [if_neg c0, if_neg c1, if_neg c2, if_neg c3, ← this, gS, if_neg (by omega), gS, if_neg (by omega), gS, if_neg (by omega), gS, if_neg (by omega), gS, if_neg (by omega), gS, if_neg (by omega), gS, if_neg (by omega), gS, if_neg (by omega)]
theorem s147 {n : Int} (x : mTx h ty m) (o : tOk ty m) {K : Int → zH → Prop} (k1 : 0 ≤ n ∧ n ≤ m → ∀ h1, frP mtA h h1 → mTx h1 (cut ty n) n → K 1 h1) (k2 : ¬ (0 ≤ n ∧ n ≤ m) → K 0 (sI h 127 0 0)) : zC1 147 [vR 127 111, vI n] h K := by
  refine cI (k147_0 n h _ (fun h4 e4 => ?_))
  have x4 : mTx h4 ty m := by rw [e4]; exact x.fr (P := fun b k => b = 127 ∧ k = 0) (frP.rf.st ⟨rfl, rfl⟩) ⟨by omega, fun k => by omega⟩
  have f4 : frP mtA h h4 := by rw [e4]; exact frP.rf.st (by unfold mtA; omega)
  rw [x4.1]
  refine s141 ⟨fun c h6 e6 => ⟨Or.inr rfl, zq1 ?_⟩, fun c => ⟨Or.inl rfl, zq1 ?_⟩⟩
  · rw [b2i_ne0] at c
    refine k1 c h6 (by rw [e6]; exact f4.st (by unfold mtA; omega)) ⟨by rw [e6, gS1], fun i h0 h1 => ?_⟩
    rw [e6, gS, if_neg (by omega)]
    unfold cut; rw [if_pos ⟨h0, h1⟩]
    exact x4.2 i h0 (by omega)
  · rw [e4]; exact k2 (fun d => c (b2i_ne0.mpr d))
def mtB (b : Nat) (k : Int) : Prop := (b = 127 ∧ (k = 7 ∨ k = 9)) ∨ b = 133
theorem s161 (x : mTx h ty m) (o : tOk ty m) {K : zH → Prop} (k : ∀ h1, frP mtB h h1 → mB h1 ty m → gI h1 127 7 = 0 → K h1) : zC0 161 [vR 127 111] h K := by
  have o1 := o.1
  have o2 := o.2.1
  refine cV (k161_0 h _ (fun h4 e4 => ?_))
  rw [x.1] at e4
  have z4 : gI h4 127 7 = m ∧ gI h4 127 9 = m := by simp [e4, gS, x.1]
  have f4 : frP mtB h h4 := by rw [e4]; exact frP.rf.st (by unfold mtB; omega)
  refine cploop h4 133 0 m ty (fun l hh => zK 161 10 [vR 127 111, vI l] [] hh _) (fun l h1 l0 l1 f1 kk => ?_) (fun h1 f1 v1 => ?_) o1
  · have y7 : gI h1 127 7 = m := by rw [f1.1 _ _ (by omega)]; exact z4.1
    have y8 : iAnd (gI h1 132 l) 255 = ty l := by rw [f1.1 _ _ (by omega), e4, gS, if_neg (by omega)]; exact x.2 l l0 l1
    refine k161_10 l h1 _ ⟨fun c => absurd c (by omega), fun _ => ⟨by omega, by omega, by omega, by omega, fun h6 e6 => ⟨by unfold inR; omega, ?_⟩⟩⟩
    rw [y8] at e6
    rw [e6]; exact kk
  · have y7 : gI h1 127 7 = m ∧ gI h1 127 9 = m := by rw [f1.1 _ _ (by omega), f1.1 _ _ (by omega)]; exact z4
    refine k161_10 m h1 _ ⟨fun _ h5 e5 => zq0 (k h5 ?_ ⟨?_, fun i h0 h1 => ?_⟩ (by rw [e5, gS1])), fun c => absurd (by omega) c⟩
    · rw [e5]; exact (f4.tr (f1.mo (fun b k q => by unfold mtB; omega))).st (by unfold mtB; omega)
    · rw [e5, gS, if_neg (by omega)]; exact y7.2
    · rw [e5, gS, if_neg (by omega)]; exact v1 i h0 h1
end TY
