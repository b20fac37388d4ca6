/-! The model: sides of a rule. -/
section MK
variable {h : zH} {sd b0 : Int} {t : Int → Int} {n : Int} {s : pS}
theorem rC.up {c : Nat} {i : Int} {j : Nat} {w : Int} (x : rC sd s) (hc : ¬ c = kid sd) (h2 : ¬ (c = 0 ∧ j = 1)) : rC sd (up s c i j w) := by
  intro k
  rw [upE, if_neg (by omega), upE, if_neg (by omega)]; exact x k
theorem rC.fin {i : Int} (x : rC sd s) : rC sd (rfin s i) := by
  have kn := kidn sd
  intro k
  rw [rfin_o _ _ (by omega) (by omega), rfin_o _ _ (by omega) (by omega)]; exact x k
theorem rC.put {w a b f l : Int} (x : rC sd s) (h1 : 0 ≤ s 0 0 1) (ha : 0 ≤ a ∧ a ≤ 30) : rC sd (rput s sd w a b f l) := by
  have kn := kidn sd
  have k3 := kid3 sd
  intro k
  rw [rput_v (by omega), rput_o _ _ (by omega) (by omega)]
  have := x k
  split
  · simp; omega
  · exact this
theorem rC.tok {it w a b f l : Int} (x : rC sd s) (h1 : 0 ≤ s 0 0 1) (ha : 0 ≤ a ∧ a ≤ 30) : rC sd (rtok s sd it w a b f l) := by
  have kn := kidn sd
  exact (x.put h1 ha).up (by omega) (by omega)
theorem rC.A {q : Int} (x : rC sd s) (hop : s 0 0 2 < s 0 0 1) : rC sd (rA s sd q) := by
  intro k
  rw [rA_k hop, rA_1]
  have := x k
  split
  · simp; omega
  · omega
theorem rC_step {s' : pS} (x : rC sd s) (hop : s 0 0 2 < s 0 0 1) (h0 : 0 ≤ s 0 0 1) (e : rstep t sd b0 s = (true, s')) : rC sd s' := by
  have kn := kidn sd
  have hA : ∀ q, rC sd (rA s sd q) := fun q => x.A hop
  have h1 : ∀ q, 0 ≤ rA s sd q 0 0 1 := fun q => by rw [rA_1]; omega
  have ht : ∀ {q it w a b f l : Int}, 0 ≤ a ∧ a ≤ 30 → rC sd (rtok (rA s sd q) sd it w a b f l) := fun ha => (hA _).tok (h1 _) ha
  have hh : ∀ {q it w l v b f z p : Int}, 0 ≤ l ∧ l < 26 → rC sd (rtok (up (up (up (rA s sd q) 5 l 0 v) 0 0 0 p) 1 it 1 l) sd it w l b f z) := fun hl => by
    refine ((((hA _).up (by omega) (by omega)).up (by omega) (by omega)).up (by omega) (by omega)).tok ?_ (by omega)
    simp [upE]; exact h1 _
  unfold rstep at e
  split at e
  · cases e
    unfold rclose
    refine ((rC.put ?_ ?_ (by omega)).up (by omega) (by omega) |>.up (by omega) (by omega)).fin
    · intro k; rw [upE, if_neg (by omega), upE, if_neg (by omega)]; exact x k
    · rw [upE, if_neg (by omega)]; exact h0
  · unfold ritem at e
    split at e
    · cases e
    · split at e
      · revert e
        generalize (if isL (t (s 0 0 0)) then (1 : Int) else 0) = b
        intro e
        unfold rlit at e
        split at e
        · cases e; exact ((((ht (by omega)).up (by omega) (by omega)).up (by omega) (by omega)).up (by omega) (by omega)).fin
        · cases e
      · split at e
        · cases e; exact ((ht (by omega)).up (by omega) (by omega)).up (by omega) (by omega)
        · split at e
          · unfold rterm at e
            split at e
            · split at e
              · cases e; exact ((((((ht (by omega)).up (by omega) (by omega)).up (by omega) (by omega)).up (by omega) (by omega)).up (by omega) (by omega)).up (by omega) (by omega)).up (by omega) (by omega)
              · cases e
            · cases e
          · split at e
            · cases e; exact ((ht (by omega)).up (by omega) (by omega)).fin
            · split at e
              · unfold rhole at e
                split at e
                · rename_i g
                  split at e
                  · cases e; exact (hh g.1).fin
                  · split at e
                    · cases e
                    · cases e; exact (((hh g.1).up (by omega) (by omega)).up (by omega) (by omega)).fin
                · cases e
              · unfold rhole at e
                split at e
                · rename_i g
                  split at e
                  · cases e; exact (hh g.1).fin
                  · split at e
                    · cases e
                    · cases e; exact (((hh g.1).up (by omega) (by omega)).up (by omega) (by omega)).fin
                · cases e
theorem mR.blk {h1 : zH} (x : mR h sd b0 t n s) (f : frP mA0 h h1) (y : mY h1 t n (pbl t 301 (s 0 0 0))) : mR h1 sd b0 t n (rblk t s) := by
  have kn := kidn sd
  obtain ⟨y0, x0, r, bb⟩ := x
  have g : ∀ k, ¬ k = 16 → ¬ k = 17 → ¬ k = 18 → gI h1 127 k = gI h 127 k := fun k q1 q2 q3 => f.1 _ _ (by unfold mA0; omega)
  have u : ∀ c i j, ¬ (c = 0 ∧ j = 0) → rblk t s c i j = s c i j := fun c i j hc => by unfold rblk; rw [upE, if_neg (by omega)]
  refine ⟨?_, (x0.f0 f).ag ?_, ?_, ?_⟩
  · unfold rblk; rw [upE, if_pos ⟨rfl, rfl, rfl⟩]; exact y
  · unfold rblk; exact rag.rf.up (by omega)
  · rw [g _ (by omega) (by omega) (by omega), g _ (by omega) (by omega) (by omega), u _ _ _ (by omega), u _ _ _ (by omega), u _ _ _ (by omega)]; exact r
  · rw [g _ (by omega) (by omega) (by omega), u _ _ _ (by omega), u _ _ _ (by omega)]; exact bb
theorem pbl_s {p : Int} (k : Nat) (h : ¬ t p = 32) : pbl t (k + 1) p = p := by rw [pbl, if_neg h]
theorem rblk_i (o : tOk t n) (h0 : 0 ≤ s 0 0 0) (h1 : s 0 0 0 ≤ n) : rblk t (rblk t s) = rblk t s := by
  have o2 := o.2.1
  have e : rblk t s 0 0 0 = pbl t 301 (s 0 0 0) := by unfold rblk; simp [upE]
  have e2 : pbl t 301 (pbl t 301 (s 0 0 0)) = pbl t 301 (s 0 0 0) := by
    have := pbl_end o 301 (s 0 0 0) h0 h1 (by omega)
    exact pbl_s 300 this
  funext c i j
  show up (rblk t s) 0 0 0 (pbl t 301 (rblk t s 0 0 0)) c i j = rblk t s c i j
  rw [upE, e, e2]
  split
  · rename_i g; rw [g.1, g.2.1, g.2.2, e]
  · rfl
/-- an item, blanks ahead -/
theorem s171 (o : tOk t n) (x : mR h sd b0 t n s) (v : rV n sd b0 s) (hC : rC sd s) (hb : 0 ≤ b0 ∧ b0 ≤ 20) (hsd : sd = 0 ∨ sd = 1) {K : zH → Prop}
    (k : ∀ h1, mZ h sd b0 t n (ritem t sd b0 (rblk t s)) h1 → K h1) : zC0 171 [vR 127 111] h K := by
  refine cV (k171_0 h _ (s163 o x.1 v.1.1 v.1.2.1 (fun h22 f22 y22 => ?_)))
  have x22 := x.blk f22 y22
  have F22 := fR0 (sd := sd) f22
  have vb := (rV_blk o v).1
  have e0 : pbl t 301 (s 0 0 0) = rblk t s 0 0 0 := by unfold rblk; simp [upE]
  have hCb : rC sd (rblk t s) := by have kn := kidn sd; unfold rblk; exact hC.up (by omega) (by omega)
  rw [e0]
  generalize rblk t s = S at x22 vb hCb k
  have bad : rbad t sd b0 S → zC0 148 [vR 127 111] h22 (fun h24 => (none : Option zV) = none ∧ K h24) := by
    intro c
    have en : ritem t sd b0 S = (false, S) := by unfold ritem; rw [if_pos c]
    refine s148 x22.1.2.2 (zq0 (k _ ?_))
    rw [en]
    have q16 := x22.1.2.1
    have q0 := vb.1.1
    have q1 := vb.1.2.1
    have q2 := o.2.1
    refine mZ.no ((F22.st (by unfold rmA; omega)).st (by unfold rmA; omega)) ⟨by simp [gS], by simp [gS, q16]; omega, by simp [gS, q16]; omega⟩ ?_
    have := x22.1.2.1
    simp [gS, this]
  have z27 := x22.2.1.1
  refine s170 x22 vb hsd ⟨fun c => bad ?_, fun c => ?_⟩
  · rw [b2i_eq0] at c
    have c := Classical.byContradiction c
    rcases c with c | c
    · exact Or.inl c
    · exact Or.inr (Or.inr c)
  · rw [b2i_ne0] at c
    rw [z27]
    refine ⟨fun d => ?_, fun d => bad (Or.inr (Or.inl (Classical.byContradiction d)))⟩
    have ng : ¬ rbad t sd b0 S := by
      intro g
      rcases g with g | g | g
      · exact c (Or.inl g)
      · exact d g
      · exact c (Or.inr g)
    have kk : ∀ h1, mZ h22 sd b0 t n (ritem t sd b0 S) h1 → K h1 := fun h1 w => k h1 (mZ.tr F22 w)
    refine ⟨fun e => s171i o x22 vb hCb hb hsd ng kk 0 ?_, fun e => s171i o x22 vb hCb hb hsd ng kk 1 ?_⟩
    · rw [b2i_neg (fun g => e (opc_42 g))]
    · rw [b2i_pos (by rw [Classical.byContradiction e]; rfl)]
theorem s172l (o : tOk t n) (hb : 0 ≤ b0 ∧ b0 ≤ 20) (hsd : sd = 0 ∨ sd = 1) {Q : Option zV → zH → Prop} {u1 : zV} : ∀ (f : Nat) (h : zH) (s : pS), mR h sd b0 t n s → rV n sd b0 s → rC sd s → n < f + s 0 0 0 →
    (∀ h1, mZ h sd b0 t n (rside t sd b0 f s) h1 → Q none h1) → zK 172 42 [vR 127 111, u1, vI 1] [] h Q := by
  have kn := kidn sd
  have o2 := o.2.1
  intro f
  induction f with
  | zero => intro h s x v hC hf; have := v.1.2.1; omega
  | succ f ih =>
    intro h s x v hC hf k
    unfold rside at k
    have vb := rV_blk o v
    have ct := x.ct v
    have hCb : rC sd (rblk t s) := by unfold rblk; exact hC.up (by omega) (by omega)
    have op : rblk t s 0 0 2 = s 0 0 2 := by unfold rblk; simp [upE]
    have o0 : ∀ i, rblk t s 1 i 0 = s 1 i 0 := fun i => by unfold rblk; simp [upE]
    -- behind a step
    have next : ∀ (z : Bool × pS) (h1 : zH), rstep t sd b0 (rblk t s) = z → mZ h sd b0 t n z h1 → ∀ u2, zK 172 137 [vR 127 111, u1, u2] [] h1 Q := by
      intro z h1 ez w u2
      obtain ⟨ok, s1⟩ := z
      rw [ez] at k
      obtain ⟨f1, g1, b1⟩ := w
      cases ok with
      | false =>
        have b := b1 rfl
        have out : ∀ l2, zK 172 42 [vR 127 111, u1, vI l2] [] h1 Q := fun l2 => k172_42 u1 l2 h1 Q ⟨fun _ => k h1 ⟨f1, by simp, fun _ => b⟩, fun _ => ⟨fun _ => k h1 ⟨f1, by simp, fun _ => b⟩, fun c => absurd b.1.1 c⟩⟩
        exact k172_137 u1 u2 h1 Q ⟨fun _ => out 1, fun _ => ⟨fun _ => out 0, fun _ => out 1⟩⟩
      | true =>
        dsimp only at k
        have x1 := g1 rfl
        have v1 := rV_step o vb.1 ez
        have c1 := rC_step hCb vb.1.1.2.2.2.2.2.2.1 (by have := vb.1.1.2.2.2.1; have := vb.1.1.2.2.1; omega) ez
        have t1 := x1.ct v1.1
        by_cases c : s1 0 0 2 = -1
        · rw [if_pos c] at k
          have t2 := t1.1 c
          refine k172_137 u1 u2 h1 Q ⟨fun d => absurd d (by omega), fun _ => ⟨fun _ => k172_42 u1 0 h1 Q ⟨fun _ => k h1 (mZ.ye f1 x1), fun d => absurd rfl d⟩, fun d => absurd t2.2 d⟩⟩
        · rw [if_neg c] at k
          have go : zK 172 42 [vR 127 111, u1, vI 1] [] h1 Q := ih h1 s1 x1 v1.1 c1 (by have := v1.2; have := vb.2; omega) (fun h2 w => k h2 (mZ.tr f1 w))
          refine k172_137 u1 u2 h1 Q ⟨fun _ => go, fun d => ⟨fun e => ?_, fun _ => go⟩⟩
          rcases (v1.1.1.2.2.2.2.2.2.2.1 c).2 with g | g
          · have := t1.2.1 c g; omega
          · have := (t1.2.2 c g).1; exact absurd this d
    have item : ∀ (h0 : zH) (s0 : pS), ¬ (t (rblk t s 0 0 0) = 41 ∧ ¬ s 0 0 2 = -1 ∧ s 1 (s 0 0 2) 0 = 4) → mR h0 sd b0 t n s0 → rV n sd b0 s0 → rC sd s0 → rblk t s0 = rblk t s → frP (rmA sd) h h0 → ∀ u2, zK 172 133 [vR 127 111, u1, u2] [] h0 Q := by
      intro h0 s0 c x0 v0 c0 e0 f0 u2
      refine k172_133 u1 u2 h0 Q (s171 o x0 v0 c0 hb hsd (fun h26 w => next _ h26 rfl ?_ u2))
      rw [e0] at w
      have es : rstep t sd b0 (rblk t s) = ritem t sd b0 (rblk t s) := by unfold rstep; rw [op, o0, if_neg c]
      rw [es]
      exact mZ.tr f0 w
    refine k172_42 u1 1 h Q ⟨fun c => absurd c (by decide), fun _ => ⟨fun c => absurd c (by rw [x.1.2.2]; decide), fun _ => ⟨fun c => item h s ?_ x v hC rfl frP.rf _, fun c => ⟨fun d => item h s ?_ x v hC rfl frP.rf _, fun d => s163 o x.1 v.1.1 v.1.2.1 (fun h21 f21 y21 => ?_)⟩⟩⟩⟩
    · intro g; have := (ct.2.2 g.2.1 g.2.2).1; omega
    · intro g; exact d (ct.2.2 g.2.1 g.2.2).2
    · have d : gI h 127 33 = 0 := Classical.byContradiction d
      have x21 := x.blk f21 y21
      have e0 : pbl t 301 (s 0 0 0) = rblk t s 0 0 0 := by unfold rblk; simp [upE]
      rw [e0]
      have F21 := fR0 (sd := sd) f21
      refine ⟨fun g => item h21 (rblk t s) (fun e => g e.1) x21 vb.1 hCb (rblk_i o v.1.1 v.1.2.1) F21 _, fun g => ?_⟩
      have g : t (rblk t s 0 0 0) = 41 := Classical.byContradiction g
      -- the open item is a term
      have hop : ¬ s 0 0 2 = -1 := fun e => by have := (ct.1 e).1; omega
      have h4 : s 1 (s 0 0 2) 0 = 4 := (v.1.2.2.2.2.2.2.2.1 hop).2.resolve_left (fun e => by have := ct.2.1 hop e; omega)
      have es : rstep t sd b0 (rblk t s) = (true, rclose sd (rblk t s)) := by unfold rstep; rw [op, o0, if_pos ⟨g, hop, h4⟩]
      have v1 := rV_step o vb.1 es
      have nx := next (true, rclose sd (rblk t s))
      rw [← op] at hop h4
      rw [← o0] at h4
      clear item k ih next ct e0
      generalize rblk t s = S at *
      obtain ⟨y2, x2, r2, b2⟩ := x21
      obtain ⟨i1, i2, i3, i4, i5, i6, i7, i8, i9, i10, i11, i12, i13, i14, i15, i16, i17⟩ := vb.1.1
      have lt := o.lt (i := S 0 0 0) (by omega)
      have vo := vb.1.2.2.1
      have top := vo.2
      rw [if_neg hop, if_neg (by omega)] at top
      have d6 : ¬ S 0 0 6 = 0 := fun q => by rw [if_pos q] at top; exact hop top
      rw [if_neg d6] at top
      rw [y2.2.1]
      refine ⟨by unfold inR; omega, fun h22 e22 => ?_⟩
      have z22 : gI h22 127 15 = S 0 0 6 := by rw [e22, gS, if_neg (by omega)]; exact x2.2.2.2.2.2.1
      rw [z22]
      refine ⟨by unfold inR; omega, fun h23 e23 => ?_⟩
      have z23 : gI h23 127 15 = S 0 0 6 - 1 := by rw [e23, gS1]
      have g23 : ∀ b i, ¬ b = 127 → gI h23 b i = gI h21 b i := fun b i hb => by rw [e23, gS, if_neg (by omega), e22, gS, if_neg (by omega)]
      have g23a : ∀ i, ¬ i = 15 → ¬ i = 16 → gI h23 127 i = gI h21 127 i := fun i h1 h2 => by rw [e23, gS, if_neg (by omega), e22, gS, if_neg (by omega)]
      have z144 : gI h23 144 (S 0 0 6 - 1) = 246 * sd + 6 * S 4 (S 0 0 2) 0 := by rw [g23 _ _ (by omega), x2.2.2.2.2.2.2 _ (by omega) (by omega), ← top]
      have mm := (vb.1.2.1 (S 0 0 2) (i8 hop).1 i7).2.2.2.2.2.2
      rw [z23, z144, g23a 32 (by omega) (by omega), x2.2.1, g23 142 _ (by omega), x2.2.2.2.1]
      refine ⟨by omega, by omega, by unfold inR; omega, by omega, by omega, by omega, by omega, fun h24 e24 => ?_⟩
      have x24 : mQ0 h24 sd b0 (up (up S (kid sd) (S 4 (S 0 0 2) 0) 2 (S 0 0 (kid sd))) 0 0 6 (S 0 0 6 - 1)) := by
        obtain ⟨x1, x2, x3, x4, x5, x6, x7⟩ := x2
        have u : ∀ c i j, ¬ c = kid sd → ¬ (c = 0 ∧ j = 6) → up (up S (kid sd) (S 4 (S 0 0 2) 0) 2 (S 0 0 (kid sd))) 0 0 6 (S 0 0 6 - 1) c i j = S c i j := fun c i j h1 h2 => by rw [upE, if_neg (by omega), upE, if_neg (by omega)]
        have k3 := kid3 sd
        refine ⟨?_, ?_, fun l h0 h1 => ?_, ?_, fun k j h0 h1 h2 => ?_, ?_, fun k h0 h1 => ?_⟩
        · rw [e24, gS, if_neg (by omega), g23a _ (by omega) (by omega), u _ _ _ (by omega) (by omega)]; exact x1
        · rw [e24, gS, if_neg (by omega), g23a _ (by omega) (by omega)]; exact x2
        · rw [e24, gS, if_neg (by omega), g23 _ _ (by omega), u _ _ _ (by omega) (by omega)]; exact x3 l h0 h1
        · rw [e24, gS, if_neg (by omega), g23 _ _ (by omega), u _ _ _ (by omega) (by omega)]; exact x4
        · rw [u _ _ _ (by omega) (by omega)] at h1
          have ur : up (up S (kid sd) (S 4 (S 0 0 2) 0) 2 (S 0 0 (kid sd))) 0 0 6 (S 0 0 6 - 1) (kid sd) k j = if k = S 4 (S 0 0 2) 0 ∧ j = 2 then S 0 0 (kid sd) else S (kid sd) k j := by
            rw [upE, if_neg (by omega), upE]; simp
          rw [ur, e24, gS]
          by_cases c : k = S 4 (S 0 0 2) 0 ∧ j = 2
          · rw [if_pos (by omega), if_pos c]
          · rw [if_neg (by omega), if_neg c, g23 _ _ (by omega)]; exact x5 k j h0 h1 h2
        · rw [e24, gS, if_neg (by omega), z23]; simp [upE]
        · rw [upE, if_pos ⟨rfl, rfl, rfl⟩] at h1
          rw [e24, gS, if_neg (by omega), g23 _ _ (by omega), u 6 _ _ (by omega) (by omega), u 4 _ _ (by omega) (by omega)]; exact x7 k h0 (by omega)
      have F24 : frP (rmA sd) h21 h24 := by
        rw [e24, e23, e22]; exact ((frP.rf.st (by unfold rmA; omega)).st (by unfold rmA; omega)).st (by unfold rmA; omega)
      have uk : up (up S (kid sd) (S 4 (S 0 0 2) 0) 2 (S 0 0 (kid sd))) 0 0 6 (S 0 0 6 - 1) 0 0 (kid sd) = S 0 0 (kid sd) := by rw [upE, if_neg (by omega), upE, if_neg (by omega)]
      refine s164 x24 hsd (by rw [uk]; omega) (fun h25 f25 s25 x25 => nx h25 es ?_ _)
      have g25 : ∀ i, ¬ i = 15 → ¬ i = 16 → gI h25 127 i = gI h21 127 i := fun i h1 h2 => by rw [s25, e24, gS, if_neg (by omega)]; exact g23a i h1 h2
      refine mZ.ye (F21.tr (F24.tr f25)) ⟨?_, ?_, ?_, ?_⟩
      · have e : rclose sd S 0 0 0 = S 0 0 0 + 1 := by unfold rclose; rw [rfin_o _ _ (by omega) (by omega)]; simp [upE]
        rw [e]
        refine ⟨y2.1.fr (F24.tr f25) (by unfold rmA; constructor <;> omega), ?_, ?_⟩
        · rw [s25, e24, gS, if_neg (by omega), e23, gS, if_neg (by omega), e22, gS1]
        · rw [g25 _ (by omega) (by omega)]; exact y2.2.2
      · unfold rclose
        refine x25.ag ?_
        refine rag.fin (rag.up ?_ (by omega))
        have k3 := kid3 sd
        refine ⟨fun c i j hc => ?_, fun j hj => ?_⟩
        · rw [upE, if_neg (by omega)]
          unfold rput
          simp only [upE, uk]
          have q1 : ¬ (c = 0 ∧ i = 0 ∧ j = 6) := by omega
          have q2 : ¬ (0 = kid sd ∧ (0 : Int) = S 4 (S 0 0 2) 0 ∧ kid sd = 2) := by omega
          have q3 : ¬ (kid sd = 6) := by omega
          simp [q1, q2, q3]
        · rcases hj with hj | hj | hj
          · rw [upE, if_neg (by omega), rput_o _ _ (by omega) (by omega), rput_o _ _ (by omega) (by omega)]; simp only [upE]; rw [if_neg (by omega), if_neg (by omega)]
          · rw [hj, upE, if_neg (by omega), rput_k, rput_k, uk, upE, if_neg (by omega)]
          · rw [hj, upE, if_pos ⟨rfl, rfl, rfl⟩, rput_o _ _ (by omega) (by omega), upE, if_pos ⟨rfl, rfl, rfl⟩]
      · have e4 : ∀ j, j = 1 ∨ j = 4 ∨ j = 5 → rclose sd S 0 0 j = S 0 0 j := fun j hj => by
          have k3 := kid3 sd
          unfold rclose; rw [rfin_o _ _ (by omega) (by omega)]; simp only [upE]; rw [if_neg (by omega), if_neg (by omega), rput_o _ _ (by omega) (by omega), upE, if_neg (by omega)]
        rw [e4 4 (by omega), e4 5 (by omega), e4 1 (by omega), g25 _ (by omega) (by omega), g25 _ (by omega) (by omega)]
        exact r2
      · rw [g25 _ (by omega) (by omega), b2, b2i_neg (by omega)]
        symm
        have e1 : rclose sd S 0 0 1 = S 0 0 1 := by
          have k3 := kid3 sd
          unfold rclose; rw [rfin_o _ _ (by omega) (by omega)]; simp only [upE]; rw [if_neg (by omega), if_neg (by omega), rput_o _ _ (by omega) (by omega), upE, if_neg (by omega)]
        refine bbL v1.1 (i8 hop).1 (by rw [e1]; exact i7) ?_
        unfold rclose
        rw [rfin_2, rT_fin]
end MK
