/-! letters laid to replies: the most of them, and the set that lacks most -/
section Hall
def ct (p : Nat → Bool) : Nat := fb_ct p 10
theorem ct_sub {p q : Nat → Bool} (h : ∀ k, k < 10 → p k = true → q k = true) : ct p ≤ ct q := fb_ct_sub h
theorem ct_cong {p q : Nat → Bool} (h : ∀ k, k < 10 → p k = q k) : ct p = ct q := fb_ct_cong h
theorem ct_oa (p q : Nat → Bool) : ct (fun k => p k || q k) + ct (fun k => p k && q k) = ct p + ct q := by
  have key : ∀ n, fb_ct (fun k => p k || q k) n + fb_ct (fun k => p k && q k) n = fb_ct p n + fb_ct q n := by
    intro n
    induction n with
    | zero => rfl
    | succ n ih =>
      rw [fb_ct_succ, fb_ct_succ, fb_ct_succ, fb_ct_succ]
      cases hp : p n <;> cases hq : q n <;> simp <;> omega
  exact key 10
theorem ct_add {p : Nat → Bool} {i : Nat} (hi : i < 10) (h : p i = false) : ct (fun k => if k = i then true else p k) = ct p + 1 := by
  have := fb_ct_upd p true hi
  rw [h] at this
  simpa [ct] using this
theorem ct_del {p : Nat → Bool} {i : Nat} (hi : i < 10) (h : p i = true) : ct (fun k => if k = i then false else p k) + 1 = ct p := by
  have := fb_ct_upd p false hi
  rw [h] at this
  simpa [ct] using this
def nbB (cb : Nat → Nat → Bool) (R : Nat) (S : Nat → Bool) (l : Nat) : Bool := decide (∃ r, r < R ∧ S r = true ∧ cb l r = true)
theorem nb_t {cb : Nat → Nat → Bool} {R : Nat} {S : Nat → Bool} {l : Nat} : nbB cb R S l = true ↔ ∃ r, r < R ∧ S r = true ∧ cb l r = true := by unfold nbB; simp
def hasB (p : Nat → Bool) (n : Nat) : Bool := decide (∃ l, l < n ∧ p l = true)
theorem has_t {p : Nat → Bool} {n : Nat} : hasB p n = true ↔ ∃ l, l < n ∧ p l = true := by unfold hasB; simp
def rcS (e : Nat → Bool) (cb : Nat → Nat → Bool) (g : Nat → Bool) (i T : Nat) : Bool := g T || (e i && hasB (fun l => T.testBit l && (cb l i && g (T ^^^ 2 ^ l))) 10)
/-- sets of letters that can be laid to the first i replies -/
def rc (e : Nat → Bool) (cb : Nat → Nat → Bool) : Nat → Nat → Bool
  | 0 => fun T => decide (T = 0)
  | i + 1 => rcS e cb (rc e cb i) i
def Eb (e : Nat → Bool) (i r : Nat) : Bool := decide (r < i) && e r
def sb (S e : Nat → Bool) (i : Nat) : Prop := ∀ r, S r = true → r < i ∧ e r = true
variable {cb : Nat → Nat → Bool} {e : Nat → Bool} {R : Nat}
theorem rcS_t {g : Nat → Bool} {i T : Nat} : rcS e cb g i T = true ↔ g T = true ∨ (e i = true ∧ ∃ l, l < 10 ∧ T.testBit l = true ∧ cb l i = true ∧ g (T ^^^ 2 ^ l) = true) := by
  unfold rcS
  rw [Bool.or_eq_true, Bool.and_eq_true, has_t]
  simp only [Bool.and_eq_true]
theorem rc_s {i T : Nat} : rc e cb (i + 1) T = true ↔ rc e cb i T = true ∨ (e i = true ∧ ∃ l, l < 10 ∧ T.testBit l = true ∧ cb l i = true ∧ rc e cb i (T ^^^ 2 ^ l) = true) := rcS_t
theorem rc_lt : ∀ i T, rc e cb i T = true → T < 1024
  | 0 => fun T h => by
    have : T = 0 := of_decide_eq_true h
    omega
  | i + 1 => fun T h => by
    rcases rc_s.mp h with h1 | ⟨-, l, hl, h2, -, h4⟩
    · exact rc_lt i T h1
    · have := rc_lt i _ h4
      refine lt_of_tb (n := 10) (fun j hj => ?_)
      have h5 : (T ^^^ 2 ^ l).testBit j = false := tb_lt (n := 10) this hj
      rw [fb_bit_flip] at h5
      have : ¬ j = l := by omega
      simpa [this] using h5
theorem Eb_s {i : Nat} (hi : i < 10) : ct (Eb e (i + 1)) = ct (Eb e i) + if e i = true then 1 else 0 := by
  have h0 : Eb e i i = false := by unfold Eb; simp
  by_cases h : e i = true
  · rw [if_pos h, ← ct_add hi h0]
    refine ct_cong (fun k _ => ?_)
    unfold Eb
    by_cases c : k = i
    · subst c; simp [h]
    · rw [if_neg c]
      have : decide (k < i + 1) = decide (k < i) := by
        by_cases q : k < i
        · simp [q]; omega
        · simp [q]; omega
      rw [this]
  · rw [if_neg h]
    refine Eq.trans (ct_cong (q := Eb e i) (fun k _ => ?_)) (Nat.add_zero _).symm
    unfold Eb
    by_cases c : k = i
    · subst c; simp [h]
    · have : decide (k < i + 1) = decide (k < i) := by
        by_cases q : k < i
        · simp [q]; omega
        · simp [q]; omega
      rw [this]
theorem flip_del {T l : Nat} (h : T.testBit l = true) (hl : l < 10) : ct (fun k => (T ^^^ 2 ^ l).testBit k) + 1 = ct (fun k => T.testBit k) := by
  rw [← ct_del (p := fun k => T.testBit k) hl h]
  congr 1
  refine ct_cong (fun k _ => ?_)
  rw [fb_bit_flip]
  by_cases c : k = l
  · subst c; simp [h]
  · simp [c]
theorem flip_add {T l : Nat} (h : T.testBit l = false) (hl : l < 10) : ct (fun k => (T ^^^ 2 ^ l).testBit k) = ct (fun k => T.testBit k) + 1 := by
  rw [← ct_add (p := fun k => T.testBit k) hl h]
  refine ct_cong (fun k _ => ?_)
  rw [fb_bit_flip]
  by_cases c : k = l
  · subst c; simp [h]
  · simp [c]
theorem rc_up (hR : R ≤ 10) : ∀ i, i ≤ R → ∀ T, rc e cb i T = true → ∀ S, sb S e i → ct S + ct (fun k => T.testBit k) ≤ ct (fun l => nbB cb R S l && T.testBit l) + ct (Eb e i)
  | 0 => fun _ T hT S hS => by
    have h0 : T = 0 := of_decide_eq_true hT
    have h1 : ct S = 0 := by
      refine fb_ct_zero.mpr (fun k _ => ?_)
      cases h : S k with
      | false => rfl
      | true => have := (hS k h).1; omega
    have h2 : ct (fun k => T.testBit k) = 0 := fb_ct_zero.mpr (fun k _ => by rw [h0]; simp)
    omega
  | i + 1 => fun hi T hT S hS => by
    have ih := rc_up hR i (by omega)
    have hE := Eb_s (e := e) (i := i) (by omega)
    -- the set without i
    have hS' : sb (fun k => if k = i then false else S k) e i := fun r hr => by
      by_cases c : r = i
      · simp [c] at hr
      · simp [c] at hr
        have := hS r hr
        exact ⟨by omega, this.2⟩
    have hN : ∀ l, nbB cb R (fun k => if k = i then false else S k) l = true → nbB cb R S l = true := fun l hl => by
      obtain ⟨r, a1, a2, a3⟩ := nb_t.mp hl
      by_cases c : r = i
      · simp [c] at a2
      · simp [c] at a2
        exact nb_t.mpr ⟨r, a1, a2, a3⟩
    by_cases cS : S i = true
    · have he : e i = true := (hS i cS).2
      have hd := ct_del (p := S) (i := i) (by omega) cS
      rw [if_pos he] at hE
      rcases rc_s.mp hT with h1 | ⟨-, l, hl, h2, h3, h4⟩
      · have h5 := ih T h1 _ hS'
        have h6 : ct (fun l => nbB cb R (fun k => if k = i then false else S k) l && T.testBit l) ≤ ct (fun l => nbB cb R S l && T.testBit l) := ct_sub (fun k _ hk => by
          simp only [Bool.and_eq_true] at hk ⊢
          exact ⟨hN k hk.1, hk.2⟩)
        omega
      · have h5 := ih _ h4 _ hS'
        have h6 := flip_del h2 hl
        have hA : (fun l => nbB cb R S l && T.testBit l) l = true := by
          simp only [Bool.and_eq_true]
          exact ⟨nb_t.mpr ⟨i, by omega, cS, h3⟩, h2⟩
        have h7 := ct_del (p := fun l => nbB cb R S l && T.testBit l) hl hA
        have h8 : ct (fun x => nbB cb R (fun k => if k = i then false else S k) x && (T ^^^ 2 ^ l).testBit x) ≤ ct (fun k => if k = l then false else (nbB cb R S k && T.testBit k)) := ct_sub (fun k _ hk => by
          simp only [Bool.and_eq_true] at hk
          rw [fb_bit_flip] at hk
          by_cases c : k = l
          · subst c; rw [h2] at hk; simp at hk
          · rw [if_neg c]
            simp only [Bool.and_eq_true]
            refine ⟨hN k hk.1, ?_⟩
            simpa [c] using hk.2)
        omega
    · have hS2 : sb S e i := fun r hr => by
        have := hS r hr
        refine ⟨?_, this.2⟩
        have : r ≠ i := fun z => cS (z ▸ hr)
        omega
      rcases rc_s.mp hT with h1 | ⟨he, l, hl, h2, h3, h4⟩
      · have h5 := ih T h1 _ hS2
        omega
      · have h5 := ih _ h4 _ hS2
        have h6 := flip_del h2 hl
        rw [if_pos he] at hE
        have h8 : ct (fun x => nbB cb R S x && (T ^^^ 2 ^ l).testBit x) ≤ ct (fun k => nbB cb R S k && T.testBit k) := ct_sub (fun k _ hk => by
          simp only [Bool.and_eq_true] at hk ⊢
          rw [fb_bit_flip] at hk
          refine ⟨hk.1, ?_⟩
          by_cases c : k = l
          · subst c; exact h2
          · simpa [c] using hk.2)
        omega
/-- of sets that lack most, both together lack most -/
theorem hall_union {i d : Nat} {A S S' : Nat → Bool} (hi : i ≤ R) (hm : ∀ S, sb S e i → ct S ≤ d + ct (fun l => nbB cb R S l && A l)) (h1 : sb S e i) (h2 : sb S' e i) (t1 : ct S = d + ct (fun l => nbB cb R S l && A l)) (t2 : ct S' = d + ct (fun l => nbB cb R S' l && A l)) : sb (fun r => S r || S' r) e i ∧ ct (fun r => S r || S' r) = d + ct (fun l => nbB cb R (fun r => S r || S' r) l && A l) := by
  have hs : sb (fun r => S r || S' r) e i := fun r hr => by
    simp only [Bool.or_eq_true] at hr
    rcases hr with h | h
    · exact h1 r h
    · exact h2 r h
  have hs2 : sb (fun r => S r && S' r) e i := fun r hr => by
    simp only [Bool.and_eq_true] at hr
    exact h1 r hr.1
  refine ⟨hs, ?_⟩
  have a1 := ct_oa S S'
  have a2 := ct_oa (fun l => nbB cb R S l && A l) (fun l => nbB cb R S' l && A l)
  have a3 := hm _ hs
  have a4 := hm _ hs2
  have a5 : ct (fun l => nbB cb R (fun r => S r || S' r) l && A l) ≤ ct (fun l => (nbB cb R S l && A l) || (nbB cb R S' l && A l)) := ct_sub (fun k _ hk => by
    simp only [Bool.and_eq_true] at hk
    obtain ⟨⟨r, b1, b2, b3⟩, hA⟩ := And.intro (nb_t.mp hk.1) hk.2
    simp only [Bool.or_eq_true] at b2
    simp only [Bool.or_eq_true, Bool.and_eq_true]
    rcases b2 with b2 | b2
    · exact Or.inl ⟨nb_t.mpr ⟨r, b1, b2, b3⟩, hA⟩
    · exact Or.inr ⟨nb_t.mpr ⟨r, b1, b2, b3⟩, hA⟩)
  have a6 : ct (fun l => nbB cb R (fun r => S r && S' r) l && A l) ≤ ct (fun l => (nbB cb R S l && A l) && (nbB cb R S' l && A l)) := ct_sub (fun k _ hk => by
    simp only [Bool.and_eq_true] at hk
    obtain ⟨⟨r, b1, b2, b3⟩, hA⟩ := And.intro (nb_t.mp hk.1) hk.2
    simp only [Bool.and_eq_true] at b2 ⊢
    exact ⟨⟨nb_t.mpr ⟨r, b1, b2.1, b3⟩, hA⟩, ⟨nb_t.mpr ⟨r, b1, b2.2, b3⟩, hA⟩⟩)
  omega
theorem hall (hR : R ≤ 10) : ∀ i, i ≤ R → ∀ A : Nat → Bool, ∃ T d S, rc e cb i T = true ∧ (∀ l, T.testBit l = true → A l = true) ∧ ct (fun k => T.testBit k) + d = ct (Eb e i) ∧ sb S e i ∧ ct S = d + ct (fun l => nbB cb R S l && A l)
  | 0 => fun _ A => by
    refine ⟨0, 0, fun _ => false, rfl, fun l hl => by simp at hl, ?_, fun r hr => by simp at hr, ?_⟩
    · have h1 : ct (Eb e 0) = 0 := fb_ct_zero.mpr (fun k _ => by simp [Eb])
      have h2 : ct (fun k => (0 : Nat).testBit k) = 0 := fb_ct_zero.mpr (fun k _ => by simp)
      omega
    · have h1 : ct (fun _ => false) = 0 := fb_ct_zero.mpr (fun k _ => rfl)
      have h2 : ct (fun l => nbB cb R (fun _ => false) l && A l) = 0 := fb_ct_zero.mpr (fun k _ => by
        cases h : nbB cb R (fun _ => false) k with
        | false => rfl
        | true =>
          obtain ⟨r, -, b, -⟩ := nb_t.mp h
          exact absurd b (by decide))
      omega
  | i + 1 => fun hi A => by
    have hE := Eb_s (e := e) (i := i) (by omega)
    obtain ⟨T0, d0, S0, r0, a0, c0, s0, t0⟩ := hall hR i (by omega) A
    by_cases he : e i = true
    · rw [if_pos he] at hE
      -- whatever set: it lacks d0 at most
      have hm : ∀ S, sb S e i → ct S ≤ d0 + ct (fun l => nbB cb R S l && A l) := fun S hS => by
        have h1 := rc_up hR i (by omega) T0 r0 S hS
        have h2 : ct (fun l => nbB cb R S l && T0.testBit l) ≤ ct (fun l => nbB cb R S l && A l) := ct_sub (fun k _ hk => by
          simp only [Bool.and_eq_true] at hk ⊢
          exact ⟨hk.1, a0 k hk.2⟩)
        omega
      by_cases hl : ∃ l T' d' S', l < 10 ∧ A l = true ∧ cb l i = true ∧ d' ≤ d0 ∧ rc e cb i T' = true ∧ (∀ x, T'.testBit x = true → (if x = l then false else A x) = true) ∧ ct (fun k => T'.testBit k) + d' = ct (Eb e i) ∧ sb S' e i
      · obtain ⟨l, T', d', S', hl10, hA, hcb, hd, hr, ha, hc, -⟩ := hl
        have hlT : T'.testBit l = false := by
          cases h : T'.testBit l with
          | false => rfl
          | true => have := ha l h; simp at this
        have hA' : ∀ x, T'.testBit x = true → A x = true := fun x hx => by
          have := ha x hx
          by_cases c : x = l
          · simp [c] at this
          · simpa [c] using this
        have h1 := rc_up hR i (by omega) T' hr S0 s0
        have h2 : ct (fun x => nbB cb R S0 x && T'.testBit x) ≤ ct (fun x => nbB cb R S0 x && A x) := ct_sub (fun k _ hk => by
          simp only [Bool.and_eq_true] at hk ⊢
          exact ⟨hk.1, hA' k hk.2⟩)
        have h3 := flip_add hlT hl10
        refine ⟨T' ^^^ 2 ^ l, d0, S0, rc_s.mpr (Or.inr ⟨he, l, hl10, ?_, hcb, ?_⟩), fun x hx => ?_, by omega, fun r hr => ⟨by have := (s0 r hr).1; omega, (s0 r hr).2⟩, t0⟩
        · rw [fb_bit_flip, hlT]; simp
        · rw [Nat.xor_assoc, Nat.xor_self, Nat.xor_zero]; exact hr
        · rw [fb_bit_flip] at hx
          by_cases c : x = l
          · rw [c]; exact hA
          · exact hA' x (by simpa [c] using hx)
      · -- every letter of i is one of those of a set that lacks most
        have key : ∀ j, j ≤ 10 → ∃ S, sb S e i ∧ ct S = d0 + ct (fun l => nbB cb R S l && A l) ∧ ∀ l, l < j → A l = true → cb l i = true → nbB cb R S l = true := by
          intro j
          induction j with
          | zero => intro _; exact ⟨S0, s0, t0, fun l hl => by omega⟩
          | succ j ih =>
            intro hj
            obtain ⟨S, q1, q2, q3⟩ := ih (by omega)
            by_cases hx : A j = true ∧ cb j i = true
            · obtain ⟨T', d', S', r', a', c', s', t'⟩ := hall hR i (by omega) (fun x => if x = j then false else A x)
              have hd : ¬ d' ≤ d0 := fun hd => hl ⟨j, T', d', S', by omega, hx.1, hx.2, hd, r', a', c', s'⟩
              have h1 := hm S' s'
              -- j is one of its letters
              have h2 : nbB cb R S' j = true := by
                cases h : nbB cb R S' j with
                | true => rfl
                | false =>
                  have h3 : ct (fun l => nbB cb R S' l && A l) = ct (fun l => nbB cb R S' l && (if l = j then false else A l)) := ct_cong (fun k _ => by
                    by_cases c : k = j
                    · subst c; rw [h]; rfl
                    · rw [if_neg c])
                  omega
              have h4 := ct_del (p := fun l => nbB cb R S' l && A l) (i := j) (by omega) (by simp only [Bool.and_eq_true]; exact ⟨h2, hx.1⟩)
              have h5 : ct (fun k => if k = j then false else (nbB cb R S' k && A k)) = ct (fun l => nbB cb R S' l && (if l = j then false else A l)) := ct_cong (fun k _ => by
                by_cases c : k = j
                · subst c; simp
                · simp [c])
              have t2 : ct S' = d0 + ct (fun l => nbB cb R S' l && A l) := by omega
              obtain ⟨u1, u2⟩ := hall_union (R := R) (by omega) hm q1 s' q2 t2
              refine ⟨_, u1, u2, fun l hl2 hA hc => ?_⟩
              by_cases c : l = j
              · subst c
                obtain ⟨r, b1, b2, b3⟩ := nb_t.mp h2
                exact nb_t.mpr ⟨r, b1, by simp [b2], b3⟩
              · obtain ⟨r, b1, b2, b3⟩ := nb_t.mp (q3 l (by omega) hA hc)
                exact nb_t.mpr ⟨r, b1, by simp [b2], b3⟩
            · refine ⟨S, q1, q2, fun l hl2 hA hc => ?_⟩
              by_cases c : l = j
              · subst c; exact absurd ⟨hA, hc⟩ hx
              · exact q3 l (by omega) hA hc
        obtain ⟨S, q1, q2, q3⟩ := key 10 (Nat.le_refl _)
        have hSi : S i = false := by
          cases h : S i with
          | false => rfl
          | true => have := (q1 i h).1; omega
        have h1 := ct_add (p := S) (i := i) (by omega) hSi
        refine ⟨T0, d0 + 1, fun k => if k = i then true else S k, rc_s.mpr (Or.inl r0), a0, by omega, fun r hr => ?_, ?_⟩
        · by_cases c : r = i
          · subst c; exact ⟨by omega, he⟩
          · have := q1 r (by simpa [c] using hr)
            exact ⟨by omega, this.2⟩
        · have h2 : ct (fun l => nbB cb R (fun k => if k = i then true else S k) l && A l) = ct (fun l => nbB cb R S l && A l) := by
            refine ct_cong (fun l hl10 => ?_)
            cases hA : A l with
            | false => simp
            | true =>
              simp only [Bool.and_true]
              apply Bool.eq_iff_iff.mpr
              constructor
              · intro h
                obtain ⟨r, b1, b2, b3⟩ := nb_t.mp h
                by_cases c : r = i
                · subst c; exact q3 l hl10 hA b3
                · exact nb_t.mpr ⟨r, b1, by simpa [c] using b2, b3⟩
              · intro h
                obtain ⟨r, b1, b2, b3⟩ := nb_t.mp h
                exact nb_t.mpr ⟨r, b1, by by_cases c : r = i <;> simp [c, b2], b3⟩
          omega
    · rw [if_neg he] at hE
      exact ⟨T0, d0, S0, rc_s.mpr (Or.inl r0), a0, by omega, fun r hr => ⟨by have := (s0 r hr).1; omega, (s0 r hr).2⟩, t0⟩
end Hall
