/-! The walk by choices, and the row of choices that are tried. -/
theorem adv_add (T : pT) : ∀ (k c : Nat) (a : Int), adv T (k + c) a = adv T c (adv T k a)
  | 0, c, a => by rw [Nat.zero_add]; rfl
  | k + 1, c, a => by rw [show k + 1 + c = (k + c) + 1 by omega]; exact adv_add T k c (a + T a 6)
section EN
variable (t u : Int → Int) (T : pT) (s : pS) (bs v : Int)
/-- the walk: what was taken if it fits, how many choices were used, whether the last was beyond -/
noncomputable def gW : Nat → Int → fZ → Nat → (Nat → Nat) → Option fZ × Nat × Bool
  | 0, _, st, k, _ => (some st, k, false)
  | f + 1, j, st, k, ch =>
    if s 1 j 0 = 5 then (if fR T s bs st j < ch k then (none, k + 1, true)
      else if b2i (asb t T s bs (fW T st j (fA s bs v st j) (fR T s bs st j) (ch k)) j ∧ pck T s bs (fW T st j (fA s bs v st j) (fR T s bs st j) (ch k)) j) = 1 then gW f (j + 1) (fW T st j (fA s bs v st j) (fR T s bs st j) (ch k)) (k + 1) ch else (none, k + 1, false))
    else if fR T s bs st j < 1 then (none, k, false)
    else if s 1 j 0 = 2 then (if T (fA s bs v st j) 6 ≤ ch k then (none, k + 1, true)
      else if b2i (asb t T s bs (fO T st j (fA s bs v st j) (fR T s bs st j) (ch k)) j ∧ pck T s bs (fO T st j (fA s bs v st j) (fR T s bs st j) (ch k)) j) = 1 then gW f (j + 1) (fO T st j (fA s bs v st j) (fR T s bs st j) (ch k)) (k + 1) ch else (none, k + 1, false))
    else if b2i (okI t u T s (fA s bs v st j) j) = 1 then (if b2i (asb t T s bs (fO T st j (fA s bs v st j) (fR T s bs st j) 0) j ∧ pck T s bs (fO T st j (fA s bs v st j) (fR T s bs st j) 0) j) = 1 then gW f (j + 1) (fO T st j (fA s bs v st j) (fR T s bs st j) 0) k ch else (none, k, false)) else (none, k, false)
noncomputable def gQ (f : Nat) (j : Int) (st : fZ) (k : Nat) (ch : Nat → Nat) : Option fZ × Nat × Bool := if b2i (asb t T s bs st j ∧ pck T s bs st j) = 1 then gW t u T s bs v f (j + 1) st k ch else (none, k, false)
theorem gW_s (f : Nat) (j : Int) (st : fZ) (k : Nat) (ch : Nat → Nat) : gW t u T s bs v (f + 1) j st k ch =
    if s 1 j 0 = 5 then (if fR T s bs st j < ch k then (none, k + 1, true) else gQ t u T s bs v f j (fW T st j (fA s bs v st j) (fR T s bs st j) (ch k)) (k + 1) ch)
    else if fR T s bs st j < 1 then (none, k, false)
    else if s 1 j 0 = 2 then (if T (fA s bs v st j) 6 ≤ ch k then (none, k + 1, true) else gQ t u T s bs v f j (fO T st j (fA s bs v st j) (fR T s bs st j) (ch k)) (k + 1) ch)
    else if b2i (okI t u T s (fA s bs v st j) j) = 1 then gQ t u T s bs v f j (fO T st j (fA s bs v st j) (fR T s bs st j) 0) k ch else (none, k, false) := rfl
end EN
/-- the choice at i is one more, those behind are 0 -/
def inC (i : Nat) (ch : Nat → Nat) : Nat → Nat := fun m => if m < i then ch m else if m = i then ch i + 1 else 0
def eix (r : Option fZ × Nat × Bool) : Nat := if r.2.2 then r.2.1 - 1 else r.2.1
/-- the choices from ch on, and all that fits by them -/
def EnN (G : (Nat → Nat) → Option fZ × Nat × Bool) : Nat → (Nat → Nat) → List fZ → Prop
  | 0, ch, L => eix (G ch) = 0 ∧ L = (G ch).1.toList
  | d + 1, ch, L => ∃ i L', eix (G ch) = i + 1 ∧ EnN G d (inC i ch) L' ∧ L = (G ch).1.toList ++ L'
def Enm (G : (Nat → Nat) → Option fZ × Nat × Bool) (ch : Nat → Nat) (L : List fZ) : Prop := ∃ d, EnN G d ch L
theorem Enm.stop {G : (Nat → Nat) → Option fZ × Nat × Bool} (ch : Nat → Nat) (e : eix (G ch) = 0) : Enm G ch (G ch).1.toList := ⟨0, e, rfl⟩
theorem Enm.go {G : (Nat → Nat) → Option fZ × Nat × Bool} (ch : Nat → Nat) (i : Nat) (L : List fZ) (e : eix (G ch) = i + 1) (en : Enm G (inC i ch) L) : Enm G ch ((G ch).1.toList ++ L) := by
  obtain ⟨d, en⟩ := en
  exact ⟨d + 1, i, L, e, en, rfl⟩
theorem Enm.ind {G : (Nat → Nat) → Option fZ × Nat × Bool} {M : ∀ (ch : Nat → Nat) (L : List fZ), Enm G ch L → Prop} (stop : ∀ (ch : Nat → Nat) (e : eix (G ch) = 0), M ch (G ch).1.toList (Enm.stop ch e))
    (go : ∀ (ch : Nat → Nat) (i : Nat) (L : List fZ) (e : eix (G ch) = i + 1) (en : Enm G (inC i ch) L), M (inC i ch) L en → M ch ((G ch).1.toList ++ L) (Enm.go ch i L e en)) {ch : Nat → Nat} {L : List fZ} (en : Enm G ch L) : M ch L en := by
  obtain ⟨d, en⟩ := en
  induction d generalizing ch L with
  | zero => obtain ⟨e, q⟩ := en; subst q; exact stop ch e
  | succ d ih => obtain ⟨i, L', e, en, q⟩ := en; subst q; exact go ch i L' e ⟨d, en⟩ (ih en)
section EM
variable {G : (Nat → Nat) → Option fZ × Nat × Bool}
def aft (G : (Nat → Nat) → Option fZ × Nat × Bool) : Nat → (Nat → Nat) → List fZ → Prop
  | 0, _, L => L = []
  | i + 1, ch, L => Enm G (inC i ch) L
theorem enm_1 {k : Nat} {ch : Nat → Nat} {L : List fZ} (e : eix (G ch) = k) (a : aft G k ch L) : Enm G ch ((G ch).1.toList ++ L) := by
  cases k with
  | zero => have a : L = [] := a; subst a; rw [List.append_nil]; exact Enm.stop ch e
  | succ i => exact Enm.go ch i L e a
theorem enm_0 {k : Nat} {ch : Nat → Nat} {L : List fZ} (n : (G ch).1 = none) (e : eix (G ch) = k) (a : aft G k ch L) : Enm G ch L := by
  have := enm_1 e a
  rwa [n] at this
theorem inC_cg {i : Nat} {ch c2 : Nat → Nat} (h : ∀ m, m ≤ i → c2 m = ch m) : inC i c2 = inC i ch := by
  funext m
  unfold inC
  by_cases a : m < i
  · rw [if_pos a, if_pos a, h m (by omega)]
  · rw [if_neg a, if_neg a, h i (by omega)]
theorem aft_cg : ∀ {k : Nat} {ch c2 : Nat → Nat} {L : List fZ}, (∀ m, m < k → c2 m = ch m) → aft G k ch L → aft G k c2 L
  | 0, _, _, _, _, a => a
  | i + 1, ch, c2, L, h, a => by
    have a : Enm G (inC i ch) L := a
    show Enm G (inC i c2) L
    rw [inC_cg (ch := ch) (fun m hm => h m (by omega))]
    exact a
/-- a choice of m -/
theorem enm_c {k m : Nat} {F : Nat → List fZ} {ch : Nat → Nat} {L : List fZ} (a : aft G k ch L)
    (h1 : ∀ c c2 L2, c < m → (∀ i, i < k → c2 i = ch i) → c2 k = c → (∀ i, k < i → c2 i = 0) → aft G (k + 1) c2 L2 → Enm G c2 (F c ++ L2))
    (h2 : ∀ c2 L2, (∀ i, i < k → c2 i = ch i) → c2 k = m → aft G k c2 L2 → Enm G c2 L2) :
    ∀ (d c : Nat) (c2 : Nat → Nat), c + d = m → (∀ i, i < k → c2 i = ch i) → c2 k = c → (∀ i, k < i → c2 i = 0) → Enm G c2 ((List.range' c d).flatMap F ++ L)
  | 0, c, c2, e, p, q, r => h2 c2 L p (by omega) (aft_cg p a)
  | d + 1, c, c2, e, p, q, r => by
    rw [List.range'_succ, List.flatMap_cons, List.append_assoc]
    refine h1 c c2 _ (by omega) p q r ?_
    show Enm G (inC k c2) _
    refine enm_c a h1 h2 d (c + 1) (inC k c2) (by omega) (fun i hi => ?_) ?_ (fun i hi => ?_)
    · unfold inC; rw [if_pos hi, p i hi]
    · unfold inC; rw [if_neg (by omega), if_pos rfl, q]
    · unfold inC; rw [if_neg (by omega), if_neg (by omega)]
variable {t u : Int → Int} {T : pT} {s : pS} {bs v : Int}
theorem enm_N {f k : Nat} {j : Int} {st : fZ} {ch : Nat → Nat} {L : List fZ} (ih : (∀ c2, (∀ i, i < k → c2 i = ch i) → G c2 = gW t u T s bs v f (j + 1) st k c2) → (∀ i, k ≤ i → ch i = 0) → aft G k ch L → Enm G ch (Wm t u T s bs v f (j + 1) st ++ L))
    (e : ∀ c2, (∀ i, i < k → c2 i = ch i) → G c2 = gQ t u T s bs v f j st k c2) (z : ∀ i, k ≤ i → ch i = 0) (a : aft G k ch L) : Enm G ch (Nm t u T s bs v f j st ++ L) := by
  unfold Nm
  unfold gQ at e
  by_cases c : b2i (asb t T s bs st j ∧ pck T s bs st j) = 1
  · rw [if_pos c]
    exact ih (fun c2 h => by rw [e c2 h, if_pos c]) z a
  · rw [if_neg c]
    have e := e ch (fun _ _ => rfl)
    rw [if_neg c] at e
    exact enm_0 (by rw [e]) (by rw [e]; rfl) a
theorem enm_W : ∀ (f : Nat) (j : Int) (st : fZ) (k : Nat) (ch : Nat → Nat) (L : List fZ), (∀ c2, (∀ i, i < k → c2 i = ch i) → G c2 = gW t u T s bs v f j st k c2) → (∀ i, k ≤ i → ch i = 0) → aft G k ch L → Enm G ch (Wm t u T s bs v f j st ++ L) := by
  intro f
  induction f with
  | zero =>
    intro j st k ch L e z a
    have e := e ch (fun _ _ => rfl)
    have q := enm_1 (k := k) (by rw [e]; rfl) a
    rw [e] at q
    exact q
  | succ f ih =>
    intro j st k ch L e z a
    rw [Wm_s]
    have e : ∀ c2, (∀ i, i < k → c2 i = ch i) → G c2 = _ := fun c2 h => (e c2 h).trans (gW_s ..)
    by_cases c5 : s 1 j 0 = 5
    · rw [if_pos c5, List.range_eq_range']
      simp only [if_pos c5] at e
      refine enm_c (m := (fR T s bs st j + 1).toNat) a (fun c c2 L2 hc p q r a2 => ?_) (fun c2 L2 p q a2 => ?_) (fR T s bs st j + 1).toNat 0 ch (by omega) (fun _ _ => rfl) (z k (by omega)) (fun i hi => z i (by omega))
      · refine enm_N (ih (j + 1) _ (k + 1) c2 L2) (fun c3 h3 => ?_) (fun i hi => r i (by omega)) a2
        have e3 := e c3 (fun i hi => by rw [h3 i (by omega), p i hi])
        rw [h3 k (by omega), q, if_neg (by omega)] at e3
        exact e3
      · have e3 := e c2 p
        rw [q, if_pos (by omega)] at e3
        exact enm_0 (by rw [e3]) (by rw [e3]; rfl) a2
    · rw [if_neg c5]
      simp only [if_neg c5] at e
      by_cases cr : fR T s bs st j < 1
      · rw [if_pos cr]
        have e := e ch (fun _ _ => rfl)
        rw [if_pos cr] at e
        exact enm_0 (by rw [e]) (by rw [e]; rfl) a
      · rw [if_neg cr]
        simp only [if_neg cr] at e
        by_cases c2 : s 1 j 0 = 2
        · rw [if_pos c2, List.range_eq_range']
          simp only [if_pos c2] at e
          refine enm_c (m := (T (fA s bs v st j) 6).toNat) a (fun c c2 L2 hc p q r a2 => ?_) (fun c2 L2 p q a2 => ?_) (T (fA s bs v st j) 6).toNat 0 ch (by omega) (fun _ _ => rfl) (z k (by omega)) (fun i hi => z i (by omega))
          · refine enm_N (ih (j + 1) _ (k + 1) c2 L2) (fun c3 h3 => ?_) (fun i hi => r i (by omega)) a2
            have e3 := e c3 (fun i hi => by rw [h3 i (by omega), p i hi])
            rw [h3 k (by omega), q, if_neg (by omega)] at e3
            exact e3
          · have e3 := e c2 p
            rw [q, if_pos (by omega)] at e3
            exact enm_0 (by rw [e3]) (by rw [e3]; rfl) a2
        · rw [if_neg c2]
          simp only [if_neg c2] at e
          by_cases ok : b2i (okI t u T s (fA s bs v st j) j) = 1
          · rw [if_pos ok]
            simp only [if_pos ok] at e
            exact enm_N (ih (j + 1) _ k ch L) e z a
          · rw [if_neg ok]
            have e := e ch (fun _ _ => rfl)
            rw [if_neg ok] at e
            exact enm_0 (by rw [e]) (by rw [e]; rfl) a
/-- all choices, from the first on -/
theorem enm_all (f : Nat) (j : Int) (st : fZ) : Enm (gW t u T s bs v f j st 0) (fun _ => 0) (Wm t u T s bs v f j st) := by
  have := enm_W (G := gW t u T s bs v f j st 0) f j st 0 (fun _ => 0) [] (fun _ _ => rfl) (fun _ _ => rfl) rfl
  rwa [List.append_nil] at this
end EM
/-! Which nodes are taken. -/
section VA
variable {t : Int → Int} {n nd nc : Int} {T C : pT}
theorem sz_det (g : sF t n nd nc T C) : ∀ (f : Nat) (a b m : Int), T a 6 ≤ f → 0 ≤ a → a < nd → 0 ≤ b → b < nd → T a 6 ≤ m → rsm t T a b m → T b 6 = T a 6 := by
  intro f
  induction f with
  | zero => intro a b m h1 a0 a1 b0 b1 h2 r; have := g.sz a0 a1; omega
  | succ f ih =>
    intro a b m h1 a0 a1 b0 b1 h2 r
    have za := g.sz a0 a1
    have r0 := r 0 (by omega) (by omega)
    rw [Int.add_zero, Int.add_zero] at r0
    have ma := g.mn a0 a1
    have key : ∀ k : Nat, (k : Int) ≤ T a 3 → adv T k (b + 1) - b = adv T k (a + 1) - a := by
      intro k
      induction k with
      | zero => intro _; show b + 1 - b = a + 1 - a; omega
      | succ k ik =>
        intro hk
        have e := ik (by omega)
        have pa := g.pt a0 a1 (k := k) (by omega)
        have pb := g.pt b0 b1 (k := k) (by have := r0.2.1; omega)
        have sa := g.sz (i := adv T k (a + 1)) (by omega) pa.2.1
        rw [adv_s, adv_s]
        generalize adv T k (a + 1) = x at *
        generalize adv T k (b + 1) = y at *
        have := ih x y (m - (x - a)) (by omega) (by omega) (by omega) (by omega) (by omega) (by omega) (fun z z0 z1 => by
          have := r (x - a + z) (by omega) (by omega)
          rwa [show a + (x - a + z) = x + z by omega, show b + (x - a + z) = y + z by omega] at this)
        omega
    have ea := g.pe a0 a1
    have eb := g.pe b0 b1
    rw [← r0.2.1] at eb
    have := key (T a 3).toNat (by omega)
    omega
theorem frl_rsm (g : sF t n nd nc T C) : ∀ (c : Nat) (a b ea eb : Int), vrw nd T ea c a → vrw nd T eb c b → (frl t T c a b ↔ (ea - a = eb - b ∧ rsm t T a b (eb - b)))
  | 0, a, b, ea, eb, va, vb => by
    have va : a = ea := va
    have vb : b = eb := vb
    subst va; subst vb
    exact ⟨fun _ => ⟨by omega, fun z z0 z1 => by omega⟩, fun _ => trivial⟩
  | c + 1, a, b, ea, eb, va, vb => by
    obtain ⟨a0, a1, a2, a3⟩ := va
    obtain ⟨b0, b1, b2, b3⟩ := vb
    have ih := frl_rsm g c _ _ ea eb a3 b3
    have la := vrw_le (fun i i0 i1 => (g.sz i0 i1).1) c a3
    have lb := vrw_le (fun i i0 i1 => (g.sz i0 i1).1) c b3
    have za := g.sz a0 a1
    constructor
    · intro f
      have f : alk t T a b ∧ frl t T c (a + T a 6) (b + T b 6) := f
      obtain ⟨p, q⟩ := ih.1 f.2
      have e6 := f.1.1
      refine ⟨by omega, fun z z0 z1 => ?_⟩
      by_cases h : z < T a 6
      · exact f.1.2 z z0 h
      · have := q (z - T a 6) (by omega) (by omega)
        rwa [show a + T a 6 + (z - T a 6) = a + z by omega, show b + T b 6 + (z - T a 6) = b + z by omega] at this
    · intro f
      have e6 := sz_det g (T a 6).toNat a b (eb - b) (by omega) a0 a1 b0 b1 (by omega) f.2
      show alk t T a b ∧ frl t T c (a + T a 6) (b + T b 6)
      refine ⟨⟨by omega, fun z z0 z1 => f.2 z z0 (by omega)⟩, ih.2 ⟨by omega, fun z z0 z1 => ?_⟩⟩
      have := f.2 (z + T a 6) (by omega) (by omega)
      rwa [show a + (z + T a 6) = a + T a 6 + z by omega, show b + (z + T a 6) = b + T b 6 + z by omega] at this
/-- m parts of a node, behind the first k -/
theorem sF.vk (g : sF t n nd nc T C) {p : Int} (p0 : 0 ≤ p) (p1 : p < nd) {k c : Nat} (h : ((k + c : Nat) : Int) ≤ T p 3) : vrw nd T (adv T (k + c) (p + 1)) c (adv T k (p + 1)) := by
  refine vrw_of _ _ _ (fun m hm => ?_) (adv_add T k c _).symm
  have q := g.pt p0 p1 (k := k + m) (by omega)
  rw [adv_add] at q
  refine ⟨by omega, q.2.1, ?_⟩
  have mono : ∀ d : Nat, ((k + m + d : Nat) : Int) < T p 3 + 1 → adv T (k + m) (p + 1) + d ≤ adv T (k + m + d) (p + 1) := by
    intro d
    induction d with
    | zero => intro _; simp
    | succ d id =>
      intro hd
      have i := id (by omega)
      have w := g.pt p0 p1 (k := k + m + d) (by omega)
      have z := g.sz (i := adv T (k + m + d) (p + 1)) (by omega) w.2.1
      rw [show k + m + (d + 1) = (k + m + d) + 1 by omega, adv_s]
      omega
  have := mono (c - m) (by omega)
  rw [show k + m + (c - m) = k + c by omega, adv_add T k m] at this
  omega
/-- what an item took is there -/
def fVy (nd : Int) (T : pT) (s : pS) (bs : Int) (st : fZ) (y : Int) : Prop := (¬ s 1 y 0 = 5 → 0 ≤ st 0 y ∧ st 0 y < nd ∧ st 2 y = 1 ∧ (¬ s 1 y 0 = 2 → st 3 y = st 0 y + T (st 0 y) 6)) ∧
  (bs < y → s 1 (s 1 y 3) 0 = 4 → 0 ≤ st 4 y ∧ 0 ≤ st 2 y ∧ st 2 y + st 4 y ≤ T (st 0 (s 1 y 3)) 3 ∧ st 3 y = adv T (T (st 0 (s 1 y 3)) 3 - st 4 y).toNat (st 0 (s 1 y 3) + 1) ∧
    (s 1 y 0 = 5 → st 0 y = adv T (T (st 0 (s 1 y 3)) 3 - st 4 y - st 2 y).toNat (st 0 (s 1 y 3) + 1)))
def fVd (nd : Int) (T : pT) (s : pS) (bs : Int) (st : fZ) (j : Int) : Prop := ∀ y, bs ≤ y → y < j → fVy nd T s bs st y
/-- where the next item begins -/
def fVs (nd : Int) (T : pT) (s : pS) (bs v : Int) (st : fZ) (j : Int) : Prop := (bs < j → s 1 (s 1 j 3) 0 = 4 → 0 ≤ st 0 (s 1 j 3) ∧ st 0 (s 1 j 3) < nd ∧ 0 ≤ fR T s bs st j ∧ fR T s bs st j ≤ T (st 0 (s 1 j 3)) 3 ∧ fA s bs v st j = adv T (T (st 0 (s 1 j 3)) 3 - fR T s bs st j).toNat (st 0 (s 1 j 3) + 1)) ∧
  (¬ (bs < j ∧ s 1 (s 1 j 3) 0 = 4) → fR T s bs st j = 1) ∧ (1 ≤ fR T s bs st j → 0 ≤ fA s bs v st j ∧ fA s bs v st j < nd) ∧ fR T s bs st j ≤ 12
variable {sd b0 m bs v : Int} {s : pS} {w : Int → Int}
theorem fVs_of (g : sF t n nd nc T C) (x : rEn w m sd b0 s) (b : bsI s b0 bs) (hv : 0 ≤ v ∧ v < nd) {st : fZ} {j : Int} (a : fVd nd T s bs st j) (h0 : bs ≤ j) (h1 : j < bs + s 1 bs 9) : fVs nd T s bs v st j := by
  by_cases e : j = bs
  · subst e
    have r1 : fR T s j st j = 1 := by unfold fR; rw [if_pos rfl]
    have a1 : fA s j v st j = v := by unfold fA; rw [if_pos rfl]
    exact ⟨fun c => by omega, fun _ => r1, fun _ => by rw [a1]; exact hv, by omega⟩
  · have bj := x.bj b (j := j) (by omega) h1
    have pv := a (s 1 j 3) (by omega) (by omega)
    have p5 : ¬ s 1 (s 1 j 3) 0 = 5 := by rcases bj.2.2.2.1 with q | q <;> omega
    have pv := pv.1 p5
    by_cases c4 : s 1 (s 1 j 3) 0 = 4
    · have wh := x.wh (by have := b.1; omega) bj.1 c4
      have mn := g.mn pv.1 pv.2.1
      have main : 0 ≤ fR T s bs st j ∧ fR T s bs st j ≤ T (st 0 (s 1 j 3)) 3 ∧ fA s bs v st j = adv T (T (st 0 (s 1 j 3)) 3 - fR T s bs st j).toNat (st 0 (s 1 j 3) + 1) := by
        rcases wh with q | q
        · have r1 : fR T s bs st j = T (st 0 (s 1 j 3)) 3 := by unfold fR; rw [if_neg e, if_neg (by omega), if_pos q.1]
          have a1 : fA s bs v st j = st 0 (s 1 j 3) + 1 := by unfold fA; rw [if_neg e, if_neg (by omega), if_pos q.1]
          rw [r1, a1]
          refine ⟨mn.1, by omega, ?_⟩
          rw [show (T (st 0 (s 1 j 3)) 3 - T (st 0 (s 1 j 3)) 3).toNat = 0 by omega]
          rfl
        · have r1 : fR T s bs st j = st 4 (s 1 j 4) := by unfold fR; rw [if_neg e, if_neg (by omega), if_neg q.1]
          have a1 : fA s bs v st j = st 3 (s 1 j 4) := by unfold fA; rw [if_neg e, if_neg (by omega), if_neg q.1]
          have y := (a (s 1 j 4) (by omega) (by omega)).2 (by omega) (by rw [q.2.2.2.1]; exact c4)
          rw [q.2.2.2.1] at y
          rw [r1, a1]
          exact ⟨y.1, by omega, y.2.2.2.1⟩
      refine ⟨fun _ _ => ⟨pv.1, pv.2.1, main⟩, fun c => absurd ⟨by omega, c4⟩ c, fun c => ?_, by omega⟩
      have := g.pt pv.1 pv.2.1 (k := (T (st 0 (s 1 j 3)) 3 - fR T s bs st j).toNat) (by omega)
      rw [← main.2.2] at this
      omega
    · have c2 : s 1 (s 1 j 3) 0 = 2 := by rcases bj.2.2.2.1 with q | q; exact q; exact absurd q c4
      have r1 : fR T s bs st j = 1 := by unfold fR; rw [if_neg e, if_pos c2]
      have a1 : fA s bs v st j = st 0 (s 1 j 3) := by unfold fA; rw [if_neg e, if_pos c2]
      exact ⟨fun _ c => absurd c c4, fun _ => r1, fun _ => by rw [a1]; exact ⟨pv.1, pv.2.1⟩, by omega⟩
theorem fVy_o {st : fZ} {j a l r x f y : Int} (hy : ¬ y = j) (hp : bs < y → ¬ s 1 y 3 = j) (q : fVy nd T s bs st y) : fVy nd T s bs (fU st j a l r x f) y := by
  unfold fVy at *
  rw [fU_o hy, fU_o hy, fU_o hy, fU_o hy]
  by_cases c : bs < y
  · rw [fU_o (hp c)]; exact q
  · exact ⟨q.1, fun d => absurd d c⟩
theorem fVd_O (g : sF t n nd nc T C) (x : rEn w m sd b0 s) (b : bsI s b0 bs) {st : fZ} {j : Int} (a : fVd nd T s bs st j) (vs : fVs nd T s bs v st j) (h0 : bs ≤ j) (h1 : j < bs + s 1 bs 9) (h5 : ¬ s 1 j 0 = 5) (hr : ¬ fR T s bs st j < 1) {d : Nat} (hd : (d : Int) < T (fA s bs v st j) 6) (hd0 : ¬ s 1 j 0 = 2 → d = 0) : fVd nd T s bs (fO T st j (fA s bs v st j) (fR T s bs st j) d) (j + 1) := by
  intro y y0 y1
  have va := vs.2.2.1 (by omega)
  have sz := g.sz va.1 va.2
  by_cases e : y = j
  · subst e
    unfold fVy fO
    rw [fU_0, fU_2, fU_3, fU_4]
    refine ⟨fun _ => ⟨by omega, by omega, rfl, fun c => by rw [hd0 c]; simp⟩, fun c c4 => ?_⟩
    have bj := x.bj b c h1
    rw [fU_o (by omega)]
    have q := vs.1 c c4
    refine ⟨by omega, by omega, by omega, ?_, fun c => absurd c h5⟩
    rw [show (T (st 0 (s 1 y 3)) 3 - (fR T s bs st y - 1)).toNat = (T (st 0 (s 1 y 3)) 3 - fR T s bs st y).toNat + 1 by omega, adv_s, ← q.2.2.2.2]
  · exact fVy_o e (fun c => by have := x.bj b (j := y) c (by omega); omega) (a y y0 (by omega))
theorem fVd_W (x : rEn w m sd b0 s) (b : bsI s b0 bs) {st : fZ} {j : Int} (a : fVd nd T s bs st j) (vs : fVs nd T s bs v st j) (h0 : bs < j) (h1 : j < bs + s 1 bs 9) (h5 : s 1 j 0 = 5) {c : Nat} (hc : (c : Int) ≤ fR T s bs st j) : fVd nd T s bs (fW T st j (fA s bs v st j) (fR T s bs st j) c) (j + 1) := by
  intro y y0 y1
  by_cases e : y = j
  · subst e
    unfold fVy fW
    rw [fU_0, fU_2, fU_3, fU_4]
    refine ⟨fun d => absurd h5 d, fun _ c4 => ?_⟩
    have bj := x.bj b h0 h1
    rw [fU_o (by omega)]
    have q := vs.1 h0 c4
    refine ⟨by omega, by omega, by omega, ?_, fun _ => ?_⟩
    · rw [show (T (st 0 (s 1 y 3)) 3 - (fR T s bs st y - c)).toNat = (T (st 0 (s 1 y 3)) 3 - fR T s bs st y).toNat + c by omega, adv_add, ← q.2.2.2.2]
    · rw [show T (st 0 (s 1 y 3)) 3 - (fR T s bs st y - c) - c = T (st 0 (s 1 y 3)) 3 - fR T s bs st y by omega]
      exact q.2.2.2.2
  · exact fVy_o e (fun c => by have := x.bj b (j := y) c (by omega); omega) (a y y0 (by omega))
/-! The first item with a letter. -/
theorem fst_sn {P : Int → Prop} : ∀ (k : Nat) (i : Int), 0 ≤ i → fst P (k + 1) i = if fst P k i = -1 then (if b2i (P (i + k)) = 1 then i + k else -1) else fst P k i
  | 0, i, h => by rw [fst, fst]; simp [fst]
  | k + 1, i, h => by
    rw [fst]
    by_cases c : b2i (P i) = 1
    · rw [if_pos c, fst, if_pos c, if_neg (by omega)]
    · rw [if_neg c, fst_sn k (i + 1) (by omega), show fst P (k + 1) i = fst P k (i + 1) by rw [fst, if_neg c]]
      rw [show i + 1 + (k : Int) = i + ((k + 1 : Nat) : Int) by omega]
theorem fst_rg {P : Int → Prop} : ∀ (k : Nat) (i : Int), fst P k i = -1 ∨ (i ≤ fst P k i ∧ fst P k i < i + k ∧ P (fst P k i))
  | 0, i => Or.inl rfl
  | k + 1, i => by
    by_cases c : P i
    · rw [fst_y c]; exact Or.inr ⟨by omega, by omega, c⟩
    · rw [fst_n c]
      rcases fst_rg k (i + 1) with q | q
      · exact Or.inl q
      · exact Or.inr ⟨by omega, by omega, q.2.2⟩
theorem hF_rg {l j : Int} (h : bs ≤ j) : hF s bs l j = -1 ∨ (bs ≤ hF s bs l j ∧ hF s bs l j < j ∧ s 1 (hF s bs l j) 1 = l) := by
  unfold hF
  rcases fst_rg (P := fun i => s 1 i 1 = l) (j - bs).toNat bs with q | q
  · exact Or.inl q
  · exact Or.inr ⟨q.1, by omega, q.2.2⟩
theorem hF_s {l j : Int} (h0 : 0 ≤ bs) (h : bs ≤ j) : hF s bs l (j + 1) = if hF s bs l j = -1 then (if s 1 j 1 = l then j else -1) else hF s bs l j := by
  unfold hF
  rw [show (j + 1 - bs).toNat = (j - bs).toNat + 1 by omega, fst_sn _ _ h0, show bs + ((j - bs).toNat : Int) = j by omega]
  by_cases c : s 1 j 1 = l
  · rw [b2i_pos c, if_pos rfl, if_pos c]
  · rw [b2i_neg c, if_neg (show ¬ (0 : Int) = 1 by omega), if_neg c]
theorem hF_0 {l : Int} : hF s bs l bs = -1 := by unfold hF; rw [show (bs - bs).toNat = 0 by omega]; rfl
end VA
