theorem aW.num {lo m j v : Int} {A : aA} (h : aW lo m A) (j0 : 156 ≤ j) (j1 : j < 252) (cv : zc v) : aW lo m (aG A j v) :=
  ⟨h.1.g (by omega) (by omega) cv, h.2.1.g (by omega) (by omega), h.2.2.1, fun k k0 k1 => by rw [aG_n (by omega), aG_n (by omega)]; exact h.2.2.2 k k0 k1⟩
theorem aW.lim {lo m v : Int} {A : aA} (h : aW lo m A) (v0 : 0 ≤ v) (v1 : v ≤ 20) : aW lo m (aG A 1 v) := by
  obtain ⟨⟨⟨a0, a1, a2, a3, a4, a5, a6, a7, a8⟩, b2, b3, b4⟩, hD, hC, hf⟩ := h
  have n (i : Int) (hi : i ≠ 1) : (aG A 1 v).1 i = A.1 i := aG_n hi
  refine ⟨⟨⟨?_, ?_, ?_, ?_, fun i i0 i1 => ?_, fun s s0 s1 => ?_, fun b o b0 b1 o0 o1 => ?_, fun k k0 k1 => ?_, fun k k0 k1 => ?_⟩, ?_, ?_, ?_⟩, hD.g (by omega) (by omega), hC, fun j j0 j1 => ?_⟩
  · rw [n 0 (by omega)]; exact a0
  · rw [aG_s]; exact ⟨v0, v1⟩
  · rw [n 2 (by omega)]; exact a2
  · rw [n 3 (by omega)]; exact a3
  · rw [n 2 (by omega)] at i1
    rw [n _ (by omega), n _ (by omega), n _ (by omega)]; exact a4 i i0 i1
  · rw [n 3 (by omega)] at s1
    rw [n _ (by omega)]; exact a5 s s0 s1
  · rw [n _ (by omega)]; exact a6 b o b0 b1 o0 o1
  · rw [n _ (by omega)]; exact a7 k k0 k1
  · by_cases e : k = 1
    · rw [e, aG_s]; exact zc_of (by omega) (by omega)
    · rw [n k e]; exact a8 k k0 k1
  · rw [n 0 (by omega), n 2 (by omega), n 3 (by omega)]; exact b2
  · rw [n 0 (by omega), n 2 (by omega), n 3 (by omega)]; exact b3
  · rw [n 2 (by omega), n 3 (by omega)]; exact b4
  · rw [n _ (by omega), n _ (by omega)]; exact hf j j0 j1
