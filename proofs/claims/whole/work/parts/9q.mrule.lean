/-! The model: rule. -/
def ruA (b : Nat) (k : Int) : Prop := mtB b k ∨ rrA b k ∨ (b = 127 ∧ k = 0) ∨ (b = 128 ∧ 301 ≤ k) ∨ b = 139 ∨ b = 140 ∨ mtTs b k
theorem rread_pos {ty : Int → Int} {m : Int} {s : pS} (o : tOk ty m) (e : rread ty m = (true, s)) : ¬ m = 0 := by
  intro c
  have o2 := o.2.1
  unfold rread at e
  rcases hz : rside ty 0 0 301 rnil with ⟨ok, s1⟩
  rw [hz] at e
  cases ok with
  | false => cases e
  | true =>
    have v1 := rV_side o 301 (rV_nil (n := m) o.1) hz
    have n0 : rnil 0 0 0 = 0 := by unfold rnil; simp [upE]
    have := v1.1.1.2.1
    have := v1.2.1
    omega
section RU
variable {h : zH} {rn : Int → Int} {rt : Int → Int → Int} {rs : Int → pS} {x : Int}
theorem tk40 {ty : Int → Int} {m : Int} {s s1 : pS} (g : rGd ty m s1 s) : (0 ≤ s 0 0 3 ∧ s 0 0 3 ≤ 40) ∧ 0 ≤ s 0 0 7 ∧ s 0 0 7 ≤ 40 := by
  have en := g.en.1
  have N := en.N
  have t := en.t40
  have k := en.tk3 (j := 0) (by omega) (by omega)
  have e3 := g.2.2.2.2.2.2.2.2.2.2.1
  have t1 := g.e1.1.t41
  omega
/-- a slot is filled -/
theorem mRu.ad {h1 : zH} {ty : Int → Int} {m : Int} {s : pS} (u : mRu h rn rt rs) (o : slO rn rt rs) (hx : 0 ≤ x ∧ x < 8) (t : tOk ty m) (f : frP (fun b k => (b = 128 ∧ 301 + 301 * x ≤ k ∧ k ≤ 301 + 301 * x + 300) ∨ mkA x b k) h h1) (e1 : gI h1 128 (301 + 301 * x + 300) = m) (e2 : ∀ i, 0 ≤ i → i < m → gI h1 128 (301 + 301 * x + i) = ty i) (e3 : mTk h1 x s) : mRu h1 (ups rn x m) (ups rt x ty) (ups rs x s) := by
  intro i i0 i1
  unfold ups
  by_cases d : i = x
  · rw [if_pos d, if_pos d, if_pos d, d]
    exact ⟨e1, fun _ => ⟨e2, e3⟩⟩
  · rw [if_neg d, if_neg d, if_neg d]
    have q := u i i0 i1
    refine ⟨by rw [f.1 _ _ (by unfold mkA; omega)]; exact q.1, fun z => ?_⟩
    have q := q.2 z
    have gd := o.gd ⟨i0, i1⟩ z
    have tk := tk40 gd.1
    have n300 := gd.2.2.1
    have lt : i < x ∨ x < i := by omega
    refine ⟨fun j j0 j1 => by rw [f.1 _ _ (by unfold mkA; omega)]; exact q.1 j j0 j1, ⟨by rw [f.1 _ _ (by unfold mkA; omega)]; exact q.2.1.1, fun k j h0 h1 h2 => by rw [f.1 _ _ (by unfold mkA; omega)]; exact q.2.1.2 k j h0 h1 h2⟩, ⟨by rw [f.1 _ _ (by unfold mkA; omega)]; exact q.2.2.1, fun k j h0 h1 h2 => by rw [f.1 _ _ (by unfold mkA; omega)]; exact q.2.2.2 k j h0 h1 h2⟩⟩
theorem s175 {ty : Int → Int} {m : Int} (tx : mTx h ty m) (t : tOk ty m) (o : slO rn rt rs) (u : mRu h rn rt rs) (tt : mTs h rn rt rs) {K : Int → zH → Prop}
    (k1 : ∀ s x, rread ty m = (true, s) → (0 ≤ x ∧ x < 8) → x = fst (fun i => rn i = 0) 8 0 → ∀ h1, frP ruA h h1 → gI h1 127 7 = 0 → gI h1 127 0 = 0 → mRu h1 (ups rn x m) (ups rt x ty) (ups rs x s) → mTs h1 (ups rn x m) (ups rt x ty) (ups rs x s) → K x h1)
    (k2 : ∀ s, rread ty m = (true, s) → fst (fun i => rn i = 0) 8 0 = -1 → ∀ h1, frP ruA h h1 → gI h1 127 7 = 0 → gI h1 127 0 = 0 → mRu h1 rn rt rs → mTs h1 rn rt rs → K (-3) h1)
    (k3 : ∀ s, rread ty m = (false, s) → ∀ h1, frP ruA h h1 → gI h1 127 7 = 0 → gI h1 127 0 = 0 → mRu h1 rn rt rs → mTs h1 rn rt rs → K (-1000 - s 0 0 0) h1) : zC1 175 [vR 127 111] h K := by
  have o1 := t.1
  have o2 := t.2.1
  have rg := rread_rg t
  rcases hz : rread ty m with ⟨ok, s⟩
  rw [hz] at rg
  refine cI (k175_0 h _ (fun h11 e11 => ?_))
  have f11 : frP ruA h h11 := by rw [e11]; exact frP.rf.st (by unfold ruA; omega)
  have z11 : gI h11 127 0 = 0 := by rw [e11, gS1]
  have tx11 : mTx h11 ty m := ⟨by rw [e11, gS, if_neg (by omega)]; exact tx.1, fun i h0 h1 => by rw [e11, gS, if_neg (by omega)]; exact tx.2 i h0 h1⟩
  refine s161 tx11 t (fun h12 f12 b12 z12 => s173 t b12 (fun v13 h13 f13 ev ft ff => ?_))
  rw [hz] at ev ft ff
  have F13 : frP ruA h h13 := (f11.tr (f12.mo (fun b k q => Or.inl q))).tr (f13.mo (fun b k q => Or.inr (Or.inl q)))
  have z13 : gI h13 127 0 = 0 := by rw [f13.1 _ _ (by unfold rrA; omega), f12.1 _ _ (by unfold mtB; omega)]; exact z11
  have y13 : gI h13 127 7 = 0 := by rw [f13.1 _ _ (by unfold rrA; omega)]; exact z12
  have b13 : mB h13 ty m := ⟨by rw [f13.1 _ _ (by unfold rrA; omega)]; exact b12.1, fun i h0 h1 => by rw [f13.1 _ _ (by unfold rrA; omega)]; exact b12.2 i h0 h1⟩
  have f1n : frP (fun b k => mtB b k ∨ rrA b k ∨ (b = 127 ∧ k = 0)) h h13 := by
    have q : frP (fun b k => mtB b k ∨ rrA b k ∨ (b = 127 ∧ k = 0)) h h11 := by rw [e11]; exact frP.rf.st (Or.inr (Or.inr ⟨rfl, rfl⟩))
    exact (q.tr (f12.mo (fun b k q => Or.inl q))).tr (f13.mo (fun b k q => Or.inr (Or.inl q)))
  have u13 : mRu h13 rn rt rs := u.fr o f1n (fun k _ => by unfold mtB rrA; omega) (fun k => by unfold mtB rrA; omega)
  have t13 : mTs h13 rn rt rs := tt.fr f1n (by unfold mtB rrA; omega) (fun b k _ _ => by unfold mtB rrA; omega)
  refine ⟨fun c => ?_, fun c => ⟨?_, zq1 ?_⟩⟩
  · rw [ev, b2i_ne0] at c
    have c : ok = true := c
    subst c
    have mF13 := ft rfl
    have gd := ptn_d t hz
    have tk := tk40 gd
    have m0 := rread_pos t hz
    have fill : ∀ x, (0 ≤ x ∧ x < 8) → x = fst (fun i => rn i = 0) 8 0 → zK 175 58 [vR 127 111, vI x, vI 0] [] h13 (fun r h1 => ∃ v : Int, r = some (Sum.inl v) ∧ K v h1) := by
      intro x hx ex
      refine cploopo h13 128 (301 + 301 * x) m ty (fun l hh => zK 175 58 [vR 127 111, vI x, vI l] [] hh _) (fun l h1 l0 l1 f1 kk => ?_) (fun h1 f1 v1 => ?_) o1
      · refine k175_58 x l h1 _ ?_
        rw [f1.1 127 9 (by omega), b13.1]
        refine ⟨fun d => absurd d (by omega), fun _ => s142 (by omega) ?_⟩
        rw [f1.1 133 l (by omega), b13.2 l l0 l1]
        refine ⟨by unfold inR; omega, l0, by omega, by omega, by omega, fun h20 e20 => ⟨by unfold inR; omega, ?_⟩⟩
        rw [e20]; exact kk
      · refine k175_58 x m h1 _ ?_
        rw [f1.1 127 9 (by omega), b13.1]
        refine ⟨fun _ => s142 (by omega) ?_, fun d => absurd (Int.le_refl _) d⟩
        rw [f1.1 127 9 (by omega), b13.1]
        refine ⟨by unfold inR; omega, by omega, by omega, fun h16 e16 => ?_⟩
        have f16 : frP (fun b k => b = 128 ∧ 301 + 301 * x ≤ k ∧ k ≤ 301 + 301 * x + 300) h13 h16 := by rw [e16]; exact (f1.mo (fun b k q => by omega)).st (by omega)
        have mF16 : mF h16 s := ⟨⟨by rw [f16.1 _ _ (by omega)]; exact mF13.1.1, fun k j h0 h1 h2 => by rw [f16.1 _ _ (by omega)]; exact mF13.1.2 k j h0 h1 h2⟩, ⟨by rw [f16.1 _ _ (by omega)]; exact mF13.2.1, fun k j h0 h1 h2 => by rw [f16.1 _ _ (by omega)]; exact mF13.2.2 k j h0 h1 h2⟩⟩
        refine s174 hx mF16 ⟨by omega, by omega⟩ (fun h17 f17 t17 => ?_)
        have u17 : mRu h17 (ups rn x m) (ups rt x ty) (ups rs x s) := by
          refine u13.ad o hx t ((f16.mo (fun b k q => Or.inl q)).tr (f17.mo (fun b k q => Or.inr q))) ?_ (fun i h0 h1 => ?_) t17
          · rw [f17.1 _ _ (by unfold mkA; omega), e16, gS1]
          · rw [f17.1 _ _ (by unfold mkA; omega), e16, gS, if_neg (by omega)]; exact v1 i h0 h1
        have o' : slO (ups rn x m) (ups rt x ty) (ups rs x s) := o.ad t m0 hz
        refine s218 o' u17 (fun h18 f18 t18 => zq1 (k1 s x hz hx ex h18 (((F13.tr (f16.mo (fun b k q => by unfold ruA; omega))).tr (f17.mo (fun b k q => by unfold mkA at q; unfold ruA; omega))).tr (f18.mo (fun b k q => by unfold ruA; exact Or.inr (Or.inr (Or.inr (Or.inr (Or.inr (Or.inr q)))))))) ?_ ?_ ?_ t18))
        · rw [f18.1 _ _ (by unfold mtTs; omega), f17.1 _ _ (by unfold mkA; omega), f16.1 _ _ (by omega)]; exact y13
        · rw [f18.1 _ _ (by unfold mtTs; omega), f17.1 _ _ (by unfold mkA; omega), f16.1 _ _ (by omega)]; exact z13
        · exact u17.fr o' f18 (fun k _ => by unfold mtTs; omega) (fun k => by unfold mtTs; omega)
    have key : ∀ (f : Nat) (z : Int) (u2 : zV), z + f = 8 → 0 ≤ z → fst (fun i => rn i = 0) f z = fst (fun i => rn i = 0) 8 0 → zK 175 27 [vR 127 111, vI z, u2] [] h13 (fun r h1 => ∃ v : Int, r = some (Sum.inl v) ∧ K v h1) := by
      intro f
      induction f with
      | zero =>
        intro z u2 hz8 z0 e
        refine k175_27 z u2 h13 _ ⟨fun _ => ⟨fun d => absurd (by omega) d, fun _ => zq1 (k2 s hz ?_ h13 F13 y13 z13 u13 t13)⟩, fun d => absurd (by omega) d⟩
        rw [← e]; rfl
      | succ f ih =>
        intro z u2 hz8 z0 e
        refine k175_27 z u2 h13 _ ⟨fun d => absurd d (by omega), fun _ => s143 o u13 ⟨fun c => ⟨fun _ => fill z ⟨z0, by omega⟩ ?_, fun d => absurd (by omega) d⟩, fun c => ⟨by unfold inR; omega, ih (z + 1) u2 (by omega) (by omega) ?_⟩⟩⟩
        · rw [b2i_eq0] at c
          have rz : rn z = 0 := by
            apply Classical.byContradiction; intro d
            exact c ⟨⟨z0, by omega⟩, d⟩
          rw [fst_y (P := fun i => rn i = 0) rz] at e
          exact e
        · rw [b2i_ne0] at c
          rw [fst_n (P := fun i => rn i = 0) c.2] at e
          exact e
    exact key 8 0 _ (by omega) (by omega) rfl
  · have c := Classical.not_not.1 c
    rw [ev, b2i_eq0] at c
    have c : ¬ ok = true := c
    have e : gI h13 127 17 = s 0 0 0 := ff (by cases ok with | true => exact absurd rfl c | false => rfl)
    have rg : 0 ≤ s 0 0 0 ∧ s 0 0 0 ≤ m := rg
    rw [e]; unfold inR; omega
  · have c := Classical.not_not.1 c
    rw [ev, b2i_eq0] at c
    have c : ¬ ok = true := c
    have e : gI h13 127 17 = s 0 0 0 := ff (by cases ok with | true => exact absurd rfl c | false => rfl)
    rw [e]
    have hz2 : rread ty m = (false, s) := by rw [hz]; cases ok with | true => exact absurd rfl c | false => rfl
    exact k3 s hz2 h13 F13 y13 z13 u13 t13
end RU
