/-! the Model: a merge of an index' runs whole -/
def mxi_ (b x : Int) (o c : Nat) : Prop := o = 408 ∧ ((c : Int) = b + 8 ∨ (c : Int) = x + 5 ∨ (c : Int) = x + 6 ∨ (x + 143 ≤ (c : Int) ∧ (c : Int) < x + 855))
theorem ct_M_mergesIndex {b i f m level n nT k mends : Int} (cid : Int) {M : mm_M} {R : mm_M → Prop} {mem : ab_V} {q : Int → ab_R} {g : Int → ab_P} {E : Int → Int} {A : Int → Prop} (hb : bk_ b) (hi : 0 ≤ i ∧ i < 4) (hf : 0 ≤ f) (hm : 1 ≤ m) (hn : f + m ≤ n) (kh : hM_ M (xi_ b i) n g) (hr : ∀ r, 0 ≤ r → r < n → 0 ≤ (g r).2.2.2.1) (t : tM_ M b mem nT q) (ke : eM_ M (xi_ b i) k E) (hI : iE_ k E n g A) (hvl : vl_ n g) (hme : mends = if nn_ri M 408 (xi_ b i + 2) = 1 then 1 else 0)
    (hst : ∀ y, ve_ y → (A y ∨ ∃ r, 0 ≤ r ∧ r < n ∧ (g r).2.2.2.2 y) → ∀ p, lk_ mem nT q (ek_ y).toNat = some p → et_ y ≤ p.1) (hid : -2147483648 ≤ nn_ri M 408 (b + 8) + 1 ∧ nn_ri M 408 (b + 8) + 1 < 2147483648)
    (h : ∀ M' k' E', fr_ (mxi_ b (xi_ b i)) M M' → nn_ri M' 408 (b + 8) = nn_ri M 408 (b + 8) + 1 → hM_ M' (xi_ b i) (n - (m - pk_ (mgS_ g f m mends (lk_ mem nT q)))) (mpg_ g f m level mends (nn_ri M 408 b) (lk_ mem nT q) cid (nn_ri M 408 (b + 8) + 1)) → eM_ M' (xi_ b i) k' E' → iE_ k' E' (n - (m - pk_ (mgS_ g f m mends (lk_ mem nT q)))) (mpg_ g f m level mends (nn_ri M 408 b) (lk_ mem nT q) cid (nn_ri M 408 (b + 8) + 1)) A → R M') : nr_M_mergesIndex b i f m level M R := by
  have hb' := hb
  unfold bk_ at hb'
  have n22 := t.2.2.1.2.2
  have n23 := kh.2.2.1
  have k160 := ke.2.2.1
  have k0 := ke.2.1
  have hx : b + 1784 ≤ xi_ b i ∧ xi_ b i + 855 ≤ 32844 := by unfold xi_; omega
  have hve : ∀ e, 0 ≤ e → e < k → 0 ≤ E e ∧ ve_ (E e % 4503599627370496) := fun e e0 e1 => ⟨(ke.2.2.2 e e0 e1).1, (ke.2.2.2 e e0 e1).2.1⟩
  obtain ⟨i1, i2, i3, i4⟩ := hI
  refine ct_M_mixLeast hb hi kh hf hm hn hr ?_
  refine ct_M_mixLabel (by omega) ke hf hm (by omega) (fun e e0 e1 => by have := i2 e e0 e1; omega) (fun M1 E1 f1 e1 s1 m1 u1 => ?_)
  rw [← hme]
  have t1 : tM_ M1 b mem nT q := tM_fr f1 hb (fun c' hc z2 => by have := z2.2; omega) t
  refine ct_M_mixPass hb hi hf hm (by omega) t1 e1 s1 (fun a c a0 ac c1 e => ?_) (fun _ y hy p hp => ?_) (fun M2 k2 E2 f2 e2 s2 m2 => ?_)
  · rcases u1 _ (uq_rlb i1) a c a0 (by omega) (by omega) c1 e with z | z
    · omega
    · exact z
  · obtain ⟨u, u0, u1', u2⟩ := (m1 y).mp hy
    have u3 : rlb_ f m (E u) = y := u2
    have hv := (hve u u0 u1').2
    have hpo := (hve u u0 u1').1
    have em : y % 4503599627370496 = E u % 4503599627370496 := by rw [← u3, rlb_mod]
    rw [em] at hp ⊢
    refine hst _ hv ?_ p hp
    by_cases z : E u / 4503599627370496 = 0
    · exact Or.inl ((i3 _ hv).mp ⟨u, u0, u1', by omega⟩)
    · have := i2 u u0 u1'
      exact Or.inr ⟨E u / 4503599627370496 - 1, by omega, by omega, (i4 (E u / 4503599627370496 - 1) (by omega) (by omega) _ hv).mp ⟨u, u0, u1', by omega⟩⟩
  · have rd : ∀ c : Int, 0 ≤ c → (c < xi_ b i + 6 ∨ (xi_ b i + 6 < c ∧ c < xi_ b i + 215)) → nn_ri M2 408 c = nn_ri M 408 c := by
      intro c c0 hc
      have g1 : nn_ri M1 408 c = nn_ri M 408 c := fr_ri f1 (fun z => by have := z.2; omega)
      have g2 : nn_ri M2 408 c = nn_ri M1 408 c := fr_ri f2 (fun z => by have := z.2; omega)
      exact g2.trans g1
    have kh2 : hM_ M2 (xi_ b i) n g := by
      obtain ⟨a1, a2, a3, a4⟩ := kh
      refine ⟨(rd _ (by omega) (by omega)).trans a1, a2, a3, fun r r0 r1 => ?_⟩
      obtain ⟨b1, b2, b3⟩ := a4 r r0 r1
      exact ⟨(rd _ (by omega) (by omega)).trans b1, (rd _ (by omega) (by omega)).trans b2, (rd _ (by omega) (by omega)).trans b3⟩
    obtain ⟨c1, c2, c3⟩ := iE_merge level (nn_ri M 408 b) cid (nn_ri M 408 (b + 8) + 1) hf hm hn hve hvl ⟨i1, i2, i3, i4⟩ m1 s2 m2
    have r8 := rd (b + 8) (by omega) (by omega)
    have r0 := rd b (by omega) (by omega)
    refine ct_M_mixEnd cid (mgS_ g f m mends (lk_ mem nT q)) hb hx kh2 e2 hf hm hn c1 c2 (by rw [r8]; exact hid) (fun M3 f3 g3 h3 e3 => ?_)
    rw [r8] at g3 h3
    rw [r0] at h3
    refine h M3 k2 _ (fr_trans (fr_trans (fr_mono f1 (fun o c z => ?_)) (fr_mono f2 (fun o c z => ?_))) (fr_mono f3 (fun o c z => ?_))) g3 h3 e3 c3
    · have z1 := z.2; unfold mxi_; exact ⟨z.1, by omega⟩
    · have z1 := z.2; unfold mxi_; exact ⟨z.1, by omega⟩
    · have z1 := z.2; unfold mxi_; exact ⟨z.1, by omega⟩
