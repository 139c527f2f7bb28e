/-! the Model: one merge of an index' runs, as a step of its state -/
theorem lr_pos {rep : Int → Int} {f : Int} : ∀ {m : Nat}, 1 ≤ m → (∀ i, f ≤ i → i < f + m → 0 ≤ rep i) → 0 ≤ lr_ rep f m
  | 0, h, _ => by omega
  | m + 1, _, h => by
    have h1 := h (f + m) (by omega) (by omega)
    show 0 ≤ ls_ (lr_ rep f m) (rep (f + m))
    unfold ls_
    by_cases z : m = 0
    · subst z
      rw [show lr_ rep f 0 = -1 from rfl, if_pos rfl]
      exact h1
    · have := lr_pos (rep := rep) (f := f) (m := m) (by omega) (fun i i0 i1 => h i i0 (by omega))
      rw [if_neg (by omega), if_neg (by omega)]
      omega
def skM_ (lat : ab_V) (y : Int) : Prop := ∀ p, lat (ek_ y).toNat = some p → et_ y ≤ p.1
/-- the Model's index at x of block b, as an abstract state w; A: what its memory has -/
def sX_ (M : mm_M) (b x : Int) (lat : ab_V) (A : Int → Prop) (w : ab_W) : Prop := hM_ M x w.1 w.2.2.2 ∧ (∃ k E, eM_ M x k E ∧ iE_ k E w.1 w.2.2.2 A) ∧ vl_ w.1 w.2.2.2 ∧ (∀ r, 0 ≤ r → r < w.1 → 0 ≤ (w.2.2.2 r).2.2.2.1 ∧ ∀ y, (w.2.2.2 r).2.2.2.2 y → skM_ lat y) ∧ nn_ri M 408 (b + 8) = w.2.2.1
theorem sX_pm1 {b i f m level nT mends : Int} {M : mm_M} {R : mm_M → Prop} {mem : ab_V} {q : Int → ab_R} {A : Int → Prop} {w : ab_W} (hb : bk_ b) (hi : 0 ≤ i ∧ i < 4) (hf : 0 ≤ f) (hm : 1 ≤ m) (hn : f + m ≤ w.1) (t : tM_ M b mem nT q) (s : sX_ M b (xi_ b i) (lk_ mem nT q) A w) (hA : ∀ y, ve_ y → A y → skM_ (lk_ mem nT q) y) (hme : mends = if nn_ri M 408 (xi_ b i + 2) = 1 then 1 else 0) (hs : 0 ≤ nn_ri M 408 b) (hid : 0 ≤ w.2.2.1 ∧ w.2.2.1 < 2000000000)
    (h : ∀ M', fr_ (mxi_ b (xi_ b i)) M M' → sX_ M' b (xi_ b i) (lk_ mem nT q) A (pm1_ mends (nn_ri M 408 b) (lk_ mem nT q) f m level w) → R M') : nr_M_merges b i f m level M R := by
  obtain ⟨s1, ⟨k, E, s2, s3⟩, s4, s5, s6⟩ := s
  refine ng_M_merges _ _ _ _ _ _ _ ⟨fun _ => ?_, fun c => by omega⟩
  refine ct_M_mergesIndex (w.2.1 + 1) hb hi hf hm hn s1 (fun r r0 r1 => (s5 r r0 r1).1) t s2 s3 s4 hme (fun y hy hh p hp => ?_) (by rw [s6]; omega) (fun M' k' E' f' e8 h' e' i' => ?_)
  · rcases hh with hh | ⟨r, r0, r1, hr⟩
    · exact hA y hy hh p hp
    · exact (s5 r r0 r1).2 y hr p hp
  · rw [s6] at e8 h' i'
    have hv : vl_ (pm1_ mends (nn_ri M 408 b) (lk_ mem nT q) f m level w).1 (pm1_ mends (nn_ri M 408 b) (lk_ mem nT q) f m level w).2.2.2 := mpg_all (P := fun q => ∀ x, q.2.2.2.2 x → ve_ x) hf hm hn (fun x hx => mgS_ve hf hn s4 x hx) s4
    refine h M' f' ⟨h', ⟨k', E', e', i'⟩, hv, ?_, e8⟩
    refine mpg_all (P := fun z => 0 ≤ z.2.2.2.1 ∧ ∀ y, z.2.2.2.2 y → skM_ (lk_ mem nT q) y) hf hm hn ⟨?_, ?_⟩ s5
    · show 0 ≤ (if mends = 0 then lr_ (fun r => (w.2.2.2 r).2.2.2.1) f m.toNat else nn_ri M 408 b)
      by_cases z : mends = 0
      · rw [if_pos z]
        exact lr_pos (by omega) (fun i i0 i1 => (s5 i (by omega) (by omega)).1)
      · rw [if_neg z]; exact hs
    · rintro y ⟨⟨⟨r, r0, r1, hr⟩, _⟩, _⟩
      exact (s5 r (by omega) (by omega)).2 y hr
