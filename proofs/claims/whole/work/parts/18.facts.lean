/-! A source that stands, in the heap of the class and of the model. -/
/-- a text that is a source, and its tables -/
def sF (t : Int → Int) (n nd nc : Int) (T C : pT) : Prop := tOk t n ∧ pread t n = (true, n, nd, nc, -1, T, C)
theorem sF_of {t : Int → Int} {n : Int} (o : tOk t n) (e : (pread t n).1 = true) : sF t n (pread t n).2.2.1 (pread t n).2.2.2.1 (pread t n).2.2.2.2.2.1 (pread t n).2.2.2.2.2.2 := by
  refine ⟨o, ?_⟩
  rcases hz : pread t n with ⟨ok, p, nd, nc, op, T, C⟩
  rw [hz] at e
  have e : ok = true := e
  subst e
  have q := pread_I o hz
  rw [q.2.1, q.2.2]
theorem sF.uq {t : Int → Int} {n nd nc nd2 nc2 : Int} {T C T2 C2 : pT} (x : sF t n nd nc T C) (y : sF t n nd2 nc2 T2 C2) : nd = nd2 ∧ nc = nc2 ∧ T = T2 ∧ C = C2 := by
  have := x.2.symm.trans y.2
  cases this
  exact ⟨rfl, rfl, rfl, rfl⟩
/-- where the k-th part from s on begins -/
def adv (T : pT) : Nat → Int → Int
  | 0, s => s
  | k + 1, s => adv T k (s + T s 6)
/-- k parts from s on are nodes, up to e -/
def vrw (nd : Int) (T : pT) (e : Int) : Nat → Int → Prop
  | 0, s => s = e
  | k + 1, s => 0 ≤ s ∧ s < nd ∧ s < e ∧ vrw nd T e k (s + T s 6)
section SF
variable {t : Int → Int} {n nd nc : Int} {T C : pT}
theorem sF.tok (x : sF t n nd nc T C) : tOk t n := x.1
theorem sF.pi (x : sF t n nd nc T C) : pI n n nd nc (-1) T := (pread_I x.1 x.2).1
theorem sF.pw (x : sF t n nd nc T C) : pW t n n nd nc (-1) T C := (pread_W x.1 x.2).1
theorem sF.hd (x : sF t n nd nc T C) : 0 < nd ∧ nd ≤ 60 := ⟨(pread_W x.1 x.2).2, x.pi.2.2.2.1⟩
theorem sF.hc (x : sF t n nd nc T C) : 0 ≤ nc ∧ nc ≤ 150 := by have q := x.pi; have := x.1.2.1; have := q.2.2.2.2.1; have := q.2.2.2.2.2.1; omega
theorem sF.hn (x : sF t n nd nc T C) : 0 ≤ n ∧ n ≤ 300 := ⟨x.1.1, x.1.2.1⟩
theorem sF.cl (x : sF t n nd nc T C) {i : Int} (h0 : 0 ≤ i) (h1 : i < nd) : ¬ T i 6 = 0 := fun c => by have := x.pi.2.2.2.2.2.2.2.2.1.2.1 i h0 h1 c; omega
theorem sF.rw (x : sF t n nd nc T C) {i : Int} (h0 : 0 ≤ i) (h1 : i < nd) : pR T i := x.pi.2.2.2.2.2.2.2.2.2 i h0 h1
theorem sF.sz (x : sF t n nd nc T C) {i : Int} (h0 : 0 ≤ i) (h1 : i < nd) : 1 ≤ T i 6 ∧ i + T i 6 ≤ nd := by have := x.pw.1.2.1 i h0 h1 (x.cl h0 h1); exact ⟨this.1, this.2.1⟩
theorem sF.up (x : sF t n nd nc T C) {i : Int} (h0 : 0 ≤ i) (h1 : i < nd) : -1 ≤ T i 1 ∧ T i 1 < i := by have := x.rw h0 h1; unfold pR at this; omega
theorem sF.mn (x : sF t n nd nc T C) {i : Int} (h0 : 0 ≤ i) (h1 : i < nd) : 0 ≤ T i 3 ∧ T i 3 ≤ 12 := by have := x.rw h0 h1; unfold pR at this; omega
theorem sF.dp (x : sF t n nd nc T C) {i : Int} (h0 : 0 ≤ i) (h1 : i < nd) : 0 ≤ T i 7 ∧ T i 7 ≤ 16 := by have := x.rw h0 h1; unfold pR at this; omega
theorem sF.nm (x : sF t n nd nc T C) {i : Int} (h0 : 0 ≤ i) (h1 : i < nd) : 1 ≤ T i 9 ∧ T i 9 ≤ 8 ∧ 0 ≤ T i 8 ∧ T i 8 + T i 9 ≤ n := by have := x.rw h0 h1; unfold pR at this; have := x.pw.2.2.2 i h0 h1; omega
theorem sF.be (x : sF t n nd nc T C) {i : Int} (h0 : 0 ≤ i) (h1 : i < nd) : 0 ≤ T i 4 ∧ T i 4 < T i 5 ∧ T i 5 ≤ n := by have := x.pw.2.1.1 i h0 h1; have := this.2.2 (x.cl h0 h1); omega
theorem sF.kd (x : sF t n nd nc T C) {i : Int} (h0 : 0 ≤ i) (h1 : i < nd) : T i 0 = 0 ∨ T i 0 = 1 ∨ T i 0 = 2 := (x.pw.2.2.2 i h0 h1).1
theorem sF.cm (x : sF t n nd nc T C) {m : Int} (h0 : 0 ≤ m) (h1 : m < nc) : 0 ≤ C m 0 ∧ 2 ≤ C m 1 ∧ C m 0 + C m 1 ≤ n := by have := x.pw.2.2.1 m h0 h1; omega
/-- the j-th child -/
theorem sF.ch (x : sF t n nd nc T C) {i : Int} (h0 : 0 ≤ i) (h1 : i < nd) : ∀ (d : Nat) (k : Int), T i 3 - 1 - k = d → 0 ≤ k → ∃ j, i < j ∧ j < nd ∧ T j 1 = i ∧ T j 2 = k ∧ j + T j 6 ≤ i + T i 6 := by
  have hL := x.pw.1
  intro d
  induction d with
  | zero =>
    intro k hk k0
    obtain ⟨j, w1, w2, w3, w4, w5, w6⟩ := (hL.2.1 i h0 h1 (x.cl h0 h1)).2.2.2 (by omega)
    exact ⟨j, w1, w2, w3, by omega, by omega⟩
  | succ d ih =>
    intro k hk k0
    obtain ⟨j, w1, w2, w3, w4, w5⟩ := ih (k + 1) (by omega) (by omega)
    have y := (hL.1 j (by omega) w2).2 (by omega)
    obtain ⟨j1, v1, v2, v3, v4, v5, v6⟩ := y.2.2.2 (by omega)
    have := x.sz (i := j) (by omega) w2
    exact ⟨j1, by omega, by omega, by omega, by omega, by omega⟩
theorem adv_s (T : pT) : ∀ (k : Nat) (s : Int), adv T (k + 1) s = adv T k s + T (adv T k s) 6
  | 0, _ => rfl
  | k + 1, s => by rw [adv, adv_s T k]; rfl
theorem sF.ad (x : sF t n nd nc T C) {i : Int} (h0 : 0 ≤ i) (h1 : i < nd) : ∀ (k : Nat) (j : Int), i < j → j < nd → T j 1 = i → T j 2 = k → adv T k (i + 1) = j := by
  have hL := x.pw.1
  intro k
  induction k with
  | zero =>
    intro j w1 w2 w3 w4
    have y := (hL.1 j (by omega) w2).2 (by omega)
    have := y.2.2.1 (by omega)
    show i + 1 = j
    omega
  | succ k ih =>
    intro j w1 w2 w3 w4
    have y := (hL.1 j (by omega) w2).2 (by omega)
    obtain ⟨j1, v1, v2, v3, v4, v5, v6⟩ := y.2.2.2 (by omega)
    rw [adv_s, ih j1 (by omega) (by omega) (by omega) (by omega)]
    exact v6
/-- the k-th part of a node -/
theorem sF.pt (x : sF t n nd nc T C) {i : Int} (h0 : 0 ≤ i) (h1 : i < nd) {k : Nat} (hk : (k : Int) < T i 3) : i < adv T k (i + 1) ∧ adv T k (i + 1) < nd ∧ T (adv T k (i + 1)) 1 = i ∧ T (adv T k (i + 1)) 2 = k ∧ adv T k (i + 1) + T (adv T k (i + 1)) 6 ≤ i + T i 6 := by
  obtain ⟨j, w1, w2, w3, w4, w5⟩ := x.ch h0 h1 (T i 3 - 1 - k).toNat k (by omega) (by omega)
  have := x.ad h0 h1 k j w1 w2 w3 w4
  rw [this]
  exact ⟨w1, w2, w3, w4, w5⟩
theorem sF.pe (x : sF t n nd nc T C) {i : Int} (h0 : 0 ≤ i) (h1 : i < nd) : adv T (T i 3).toNat (i + 1) = i + T i 6 := by
  have hL := x.pw.1.2.1 i h0 h1 (x.cl h0 h1)
  have := x.mn h0 h1
  by_cases c : T i 3 = 0
  · rw [c]; have := hL.2.2.1 c; rw [this]; rfl
  · obtain ⟨j, w1, w2, w3, w4, w5, w6⟩ := hL.2.2.2 (by omega)
    have e := x.ad h0 h1 (T i 3 - 1).toNat j w1 w2 w3 (by omega)
    rw [show (T i 3).toNat = (T i 3 - 1).toNat + 1 by omega, adv_s, e]
    exact w6
theorem vrw_adv : ∀ (k : Nat) {s e : Int}, vrw nd T e k s → adv T k s = e
  | 0, s, e, h => h
  | k + 1, s, e, h => vrw_adv k h.2.2.2
theorem vrw_of (e : Int) : ∀ (k : Nat) (s : Int), (∀ m, m < k → 0 ≤ adv T m s ∧ adv T m s < nd ∧ adv T m s < e) → adv T k s = e → vrw nd T e k s
  | 0, s, _, h => h
  | k + 1, s, h, he => by
    have h0 := h 0 (by omega)
    refine ⟨h0.1, h0.2.1, h0.2.2, vrw_of e k _ (fun m hm => ?_) he⟩
    exact h (m + 1) (by omega)
theorem vrw_le (hs : ∀ i, 0 ≤ i → i < nd → 1 ≤ T i 6) : ∀ (k : Nat) {s e : Int}, vrw nd T e k s → s + k ≤ e
  | 0, s, e, h => by have h : s = e := h; omega
  | k + 1, s, e, h => by have := vrw_le hs k h.2.2.2; have := hs s h.1 h.2.1; omega
/-- the parts of a node in a row -/
theorem sF.vr (x : sF t n nd nc T C) {i : Int} (h0 : 0 ≤ i) (h1 : i < nd) : vrw nd T (i + T i 6) (T i 3).toNat (i + 1) := by
  refine vrw_of _ _ _ (fun m hm => ?_) (x.pe h0 h1)
  have := x.pt h0 h1 (k := m) (by omega)
  have := x.sz (i := adv T m (i + 1)) (by omega) (by omega)
  omega
/-- what lies in a node lies in one of its parts -/
theorem sF.wi (x : sF t n nd nc T C) : ∀ (k : Nat) {s e j : Int}, vrw nd T e k s → s ≤ j → j < e → ∃ m, m < k ∧ adv T m s ≤ j ∧ j < adv T m s + T (adv T m s) 6
  | 0, s, e, j, v, h0, h1 => by have v : s = e := v; omega
  | k + 1, s, e, j, v, h0, h1 => by
    by_cases c : j < s + T s 6
    · exact ⟨0, by omega, h0, c⟩
    · obtain ⟨m, m1, m2, m3⟩ := x.wi k v.2.2.2 (by omega) h1
      exact ⟨m + 1, by omega, m2, m3⟩
end SF
/-- in the class's heap -/
def xN (h : zH) (a : Nat) (t : Int → Int) (n nd nc : Int) (T C : pT) : Prop := Txt h (a + 1) t n ∧ gI h a 14 = nd ∧ gI h a 15 = nc ∧
  (∀ i, 0 ≤ i → i < nd → gI h (a + 3) i = T i 0 ∧ gI h (a + 4) i = T i 1 ∧ gI h (a + 5) i = T i 2 ∧ gI h (a + 6) i = T i 3 ∧ gI h (a + 7) i = T i 4 ∧ gI h (a + 8) i = T i 5 ∧ gI h (a + 9) i = T i 6 ∧ gI h (a + 10) i = T i 7 ∧ gI h (a + 11) i = T i 8 ∧ gI h (a + 12) i = T i 9) ∧
  (∀ i, 0 ≤ i → i < nc → gI h (a + 13) i = C i 0 ∧ gI h (a + 14) i = C i 1 ∧ gI h (a + 15) i = C i 2)
/-- the object's own cells -/
def srB (a b : Nat) (k : Int) : Prop := srA a b k ∨ txA (a + 1) b k
theorem xN.fr {P : Nat → Int → Prop} {h h1 : zH} {a : Nat} {t : Int → Int} {n nd nc : Int} {T C : pT} (x : xN h a t n nd nc T C) (f : frP P h h1) (d : ∀ b k, a ≤ b → b < a + 16 → ¬ P b k) : xN h1 a t n nd nc T C := by
  obtain ⟨x1, x2, x3, x4, x5⟩ := x
  refine ⟨x1.fr f (fun k => ⟨d _ _ (by omega) (by omega), d _ _ (by omega) (by omega)⟩), by rw [f.1 _ _ (d _ _ (by omega) (by omega))]; exact x2, by rw [f.1 _ _ (d _ _ (by omega) (by omega))]; exact x3, fun i h0 h1 => ?_, fun i h0 h1 => ?_⟩
  · have y := x4 i h0 h1
    repeat rw [f.1 _ _ (d _ _ (by omega) (by omega))]
    exact y
  · have y := x5 i h0 h1
    repeat rw [f.1 _ _ (d _ _ (by omega) (by omega))]
    exact y
theorem s50g {a b : Nat} {h : zH} {t : Int → Int} {n nd nc : Int} {T C : pT} (g : sF t n nd nc T C) (x : Txt h b t n) (l : ln h (a + 1 + 1) = 300) (d : ¬ b = a + 1 + 1) {K : Int → zH → Prop}
    (k : ∀ h1, frP (srB a) h h1 → xN h1 a t n nd nc T C → K 1 h1) : zC1 50 [vR a 102, vR b 101] h K := by
  refine s50 g.1 x l d (fun v h1 f1 g1 ev t1 x1 => ?_)
  rw [g.2] at g1 ev x1
  rw [b2i_pos rfl] at ev
  rw [ev]
  have x1 := x1 rfl
  dsimp only at x1
  refine k h1 f1 ⟨t1, x1.2.2.1, x1.2.2.2.1, fun i h0 h1 => ?_, x1.2.2.2.2.2.2⟩
  have y := x1.2.2.2.2.2.1 i h0 h1
  have c6 := y.2.2.2.2.2.2.1 (g.cl h0 h1)
  have c9 := y.2.2.2.2.2.2.2 (by have := (g.nm h0 h1).1; omega)
  exact ⟨y.1, y.2.1, y.2.2.1, y.2.2.2.1, y.2.2.2.2.1, c6.1, c6.2, y.2.2.2.2.2.1, c9.1, c9.2⟩
theorem s50b {a b : Nat} {h : zH} {t : Int → Int} {n : Int} (o : tOk t n) (e : (pread t n).1 = false) (x : Txt h b t n) (l : ln h (a + 1 + 1) = 300) (d : ¬ b = a + 1 + 1) {K : Int → zH → Prop}
    (k : ∀ h1, frP (srB a) h h1 → gI h1 a 16 = (pread t n).2.1 → K 0 h1) : zC1 50 [vR a 102, vR b 101] h K := by
  refine s50 o x l d (fun v h1 f1 g1 ev t1 x1 => ?_)
  rw [b2i_neg (by simp [e])] at ev
  rw [ev]
  exact k h1 f1 g1
/-- a row is copied, place by place -/
theorem cploop (h : zH) (A : Nat) (lo N : Int) (f : Int → Int) (Kp : Int → zH → Prop)
    (step : ∀ l h1, lo ≤ l → l < N → frP (fun b k => b = A ∧ lo ≤ k ∧ k < l) h h1 → Kp (l + 1) (sI h1 A l (f l)) → Kp l h1)
    (fin : ∀ h1, frP (fun b k => b = A ∧ lo ≤ k ∧ k < N) h h1 → (∀ i, lo ≤ i → i < N → gI h1 A i = f i) → Kp N h1) (hlo : lo ≤ N) : Kp lo h := by
  have key : ∀ (d : Nat) (l : Int) (h1 : zH), N - l = d → lo ≤ l → frP (fun b k => b = A ∧ lo ≤ k ∧ k < l) h h1 → (∀ i, lo ≤ i → i < l → gI h1 A i = f i) → Kp l h1 := by
    intro d
    induction d with
    | zero =>
      intro l h1 e hl fr v
      have e : l = N := by omega
      subst e
      exact fin h1 fr v
    | succ d ih =>
      intro l h1 e hl fr v
      refine step l h1 hl (by omega) fr (ih (l + 1) _ (by omega) (by omega) ?_ ?_)
      · exact (fr.mo (fun b k q => by omega)).st (by omega)
      · intro i i0 i1
        by_cases c : i = l
        · rw [c, gS1]
        · rw [gS, if_neg (by omega)]; exact v i i0 (by omega)
  exact key (N - lo).toNat lo h (by omega) (by omega) frP.rf (fun i _ _ => by omega)
/-- in the model's heap -/
def mW (h : zH) (t : Int → Int) (n : Int) : Prop := gI h 128 300 = n ∧ (∀ i, 0 ≤ i → i < n → gI h 128 i = t i) ∧ (∀ i, n ≤ i → i < 300 → gI h 128 i = 0)
def mN (h : zH) (t : Int → Int) (n nd nc : Int) (T C : pT) : Prop := mW h t n ∧ gI h 127 20 = nd ∧ gI h 127 22 = nc ∧
  (∀ i, 0 ≤ i → i < nd → gI h 137 (10 * i) = T i 0 ∧ gI h 137 (10 * i + 1) = T i 1 ∧ gI h 137 (10 * i + 2) = T i 2 ∧ gI h 137 (10 * i + 3) = T i 3 ∧ gI h 137 (10 * i + 4) = T i 4 ∧ gI h 137 (10 * i + 5) = T i 5 ∧ gI h 137 (10 * i + 6) = T i 6 ∧ gI h 137 (10 * i + 7) = T i 7 ∧ gI h 137 (10 * i + 8) = T i 8 ∧ gI h 137 (10 * i + 9) = T i 9) ∧
  (∀ i, 0 ≤ i → i < nc → gI h 138 (3 * i) = C i 0 ∧ gI h 138 (3 * i + 1) = C i 1 ∧ gI h 138 (3 * i + 2) = C i 2)
def mRA (b : Nat) (k : Int) : Prop := mA b k ∨ (b = 127 ∧ (k = 9 ∨ k = 20 ∨ k = 22)) ∨ b = 133 ∨ b = 137 ∨ b = 138
theorem mW.fr {P : Nat → Int → Prop} {h h1 : zH} {t : Int → Int} {n : Int} (x : mW h t n) (hn : 0 ≤ n ∧ n ≤ 300) (f : frP P h h1) (d : ∀ k, 0 ≤ k → k ≤ 300 → ¬ P 128 k) : mW h1 t n :=
  ⟨(f.1 _ _ (d _ (by omega) (by omega))).trans x.1, fun i h0 h1 => (f.1 _ _ (d _ (by omega) (by omega))).trans (x.2.1 i h0 h1), fun i h0 h1 => (f.1 _ _ (d _ (by omega) (by omega))).trans (x.2.2 i h0 h1)⟩
theorem mN.fr {P : Nat → Int → Prop} {h h1 : zH} {t : Int → Int} {n nd nc : Int} {T C : pT} (x : mN h t n nd nc T C) (hn : 0 ≤ n ∧ n ≤ 300) (f : frP P h h1) (d0 : ∀ k, 0 ≤ k → k ≤ 300 → ¬ P 128 k) (d : ¬ P 127 20 ∧ ¬ P 127 22) (d1 : ∀ k, ¬ P 137 k ∧ ¬ P 138 k) : mN h1 t n nd nc T C := by
  obtain ⟨x1, x2, x3, x4, x5⟩ := x
  refine ⟨x1.fr hn f d0, (f.1 _ _ d.1).trans x2, (f.1 _ _ d.2).trans x3, fun i h0 h1 => ?_, fun i h0 h1 => ?_⟩
  · have y := x4 i h0 h1
    repeat rw [f.1 _ _ (d1 _).1]
    exact y
  · have y := x5 i h0 h1
    repeat rw [f.1 _ _ (d1 _).2]
    exact y
theorem s156 {h : zH} {t : Int → Int} {n nd nc : Int} {T C : pT} (g : sF t n nd nc T C) (x : mW h t n) {K : zH → Prop} (k : ∀ h1, frP mRA h h1 → mN h1 t n nd nc T C → K h1) : zC0 156 [vR 127 111] h K := by
  have hn := g.hn
  have hnd := g.hd
  have hnc := g.hc
  refine cV (k156_0 h _ ⟨by omega, by omega, fun h8 e8 => ?_⟩)
  rw [x.1] at e8
  have x8 : mW h8 t n := by
    refine ⟨by simp [e8, gS, x.1], fun i h0 h1 => ?_, fun i h0 h1 => ?_⟩
    · simp [e8, gS, x.2.1 i h0 h1]
    · simp [e8, gS, x.2.2 i h0 h1]
  have f8 : frP mRA h h8 := by rw [e8]; exact frP.rf.st (by unfold mRA; omega)
  refine cploop h8 133 0 n t (fun l hh => zK 156 14 [vR 127 111, vI l] [] hh _) (fun l h1 l0 l1 f1 kk => ?_) (fun h1 f1 v1 => ?_) hn.1
  · have y9 : gI h1 127 9 = n := by rw [f1.1 _ _ (by omega), e8, gS1]
    have y8 : gI h1 128 l = t l := by rw [f1.1 _ _ (by omega)]; exact x8.2.1 l l0 l1
    refine k156_14 l h1 _ ⟨fun c => absurd c (by omega), fun _ => ⟨by omega, by omega, by omega, by omega, fun h12 e12 => ⟨by unfold inR; omega, ?_⟩⟩⟩
    rw [y8] at e12
    rw [e12]; exact kk
  · have y9 : gI h1 127 9 = n := by rw [f1.1 _ _ (by omega), e8, gS1]
    have F1 : frP mRA h h1 := f8.tr (f1.mo (fun b k q => by unfold mRA; omega))
    refine k156_14 n h1 _ ⟨fun _ => ?_, fun c => absurd (by omega) c⟩
    refine s155 g.1 ⟨y9, v1⟩ (fun v h9 w ev h10 e10 h11 e11 => ?_)
    rw [g.2] at w
    have F9 : frP mRA h h9 := F1.tr (w.1.mo (fun b k q => Or.inl q))
    have y := w.2.1 rfl
    dsimp only at y
    obtain ⟨y1, y2, y3, y4, y5, y6, y7, y8⟩ := y
    rw [y3] at e10
    have z10 : gI h10 127 13 = nc := by simp [e10, gS, y4]
    rw [z10] at e11
    have F11 : frP mRA h h11 := by rw [e11, e10]; exact (F9.st (by unfold mRA; omega)).st (by unfold mRA; omega)
    have T11 : ∀ i, gI h11 134 i = gI h9 134 i := by simp [e11, e10, gS]
    have C11 : ∀ i, gI h11 135 i = gI h9 135 i := by simp [e11, e10, gS]
    have n11 : gI h11 127 20 = nd ∧ gI h11 127 22 = nc := by simp [e11, e10, gS]
    refine cploop h11 137 0 (10 * nd) (fun i => gI h11 134 i) (fun l hh => zK 156 63 [vR 127 111, vI l] [] hh _) (fun l h1 l0 l1 f1 kk => ?_) (fun h2 f2 v2 => ?_) (by omega)
    · have z : gI h1 127 20 = nd := by rw [f1.1 _ _ (by omega)]; exact n11.1
      have z2 : gI h1 134 l = gI h11 134 l := f1.1 _ _ (by omega)
      refine k156_63 l h1 _ ?_
      rw [z]
      refine ⟨by unfold inR; omega, fun c => absurd c (by omega), fun _ => ⟨by omega, by omega, by omega, by omega, fun h13 e13 => ⟨by unfold inR; omega, ?_⟩⟩⟩
      rw [z2] at e13
      rw [e13]; exact kk
    · have z : gI h2 127 20 = nd ∧ gI h2 127 22 = nc := by rw [f2.1 _ _ (by omega), f2.1 _ _ (by omega)]; exact n11
      have F2 : frP mRA h h2 := F11.tr (f2.mo (fun b k q => by unfold mRA; omega))
      refine k156_63 _ h2 _ ?_
      rw [z.1]
      refine ⟨by unfold inR; omega, fun _ => ?_, fun c => absurd (by omega) c⟩
      refine cploop h2 138 0 (3 * nc) (fun i => gI h2 135 i) (fun l hh => zK 156 94 [vR 127 111, vI l] [] hh _) (fun l h1 l0 l1 f1 kk => ?_) (fun h3 f3 v3 => ?_) (by omega)
      · have z1 : gI h1 127 22 = nc := by rw [f1.1 _ _ (by omega)]; exact z.2
        have z2 : gI h1 135 l = gI h2 135 l := f1.1 _ _ (by omega)
        refine k156_94 l h1 _ ?_
        rw [z1]
        refine ⟨by unfold inR; omega, fun c => absurd c (by omega), fun _ => ⟨by omega, by omega, by omega, by omega, fun h13 e13 => ⟨by unfold inR; omega, ?_⟩⟩⟩
        rw [z2] at e13
        rw [e13]; exact kk
      · have z3 : gI h3 127 20 = nd ∧ gI h3 127 22 = nc := by rw [f3.1 _ _ (by omega), f3.1 _ _ (by omega)]; exact z
        have F3 : frP mRA h h3 := F2.tr (f3.mo (fun b k q => by unfold mRA; omega))
        refine k156_94 _ h3 _ ?_
        rw [z3.2]
        refine ⟨by unfold inR; omega, fun _ => zq0 ?_, fun c => absurd (by omega) c⟩
        have tt : ∀ i, 0 ≤ i → i < 10 * nd → gI h3 137 i = gI h9 134 i := fun i i0 i1 => by rw [f3.1 _ _ (by omega), v2 i i0 i1]; exact T11 i
        have cc : ∀ i, 0 ≤ i → i < 3 * nc → gI h3 138 i = gI h9 135 i := fun i i0 i1 => by rw [v3 i i0 i1, f2.1 _ _ (by omega)]; exact C11 i
        refine k h3 F3 ⟨x.fr hn F3 (fun k _ _ => by unfold mRA mA; omega), z3.1, z3.2, fun i h0 h1 => ?_, fun i h0 h1 => ?_⟩
        · have w := y7 i h0 h1
          have c6 := w.2.2.2.2.2.2.1 (g.cl h0 h1)
          have c9 := w.2.2.2.2.2.2.2 (by have := (g.nm h0 h1).1; omega)
          repeat rw [tt _ (by omega) (by omega)]
          exact ⟨w.1, w.2.1, w.2.2.1, w.2.2.2.1, w.2.2.2.2.1, c6.1, c6.2, w.2.2.2.2.2.1, c9.1, c9.2⟩
        · have w := y8 i h0 h1
          repeat rw [cc _ (by omega) (by omega)]
          exact w
