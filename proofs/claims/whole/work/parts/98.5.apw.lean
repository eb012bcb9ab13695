/-! products up to a power of two -/
theorem apI_w {L : Int} {f g acc a : Int → Int} {i F : Int} (hacc : ∀ y : Int, 0 ≤ y → y < L → acc y = w64 (a y)) (hf : f i = w64 F) (hi : 0 ≤ i) : ∀ n : Nat, ∀ y : Int, 0 ≤ y → y < L → apI L f g i n acc y = w64 (a y + (if i ≤ y ∧ y < i + n then F * g (y - i) else 0))
  | 0, y, h0, h1 => by
    rw [if_neg (by omega), Int.add_zero]
    exact hacc y h0 h1
  | n + 1, y, h0, h1 => by
    have ih := apI_w (g := g) hacc hf hi n
    show (if i + n < L then upf (apI L f g i n acc) (i + n) (w64 (apI L f g i n acc (i + n) + w64 (f i * g n))) else apI L f g i n acc) y = _
    by_cases q : i + n < L
    · rw [if_pos q]
      unfold upf
      by_cases z : y = i + n
      · rw [if_pos z, if_pos ⟨by omega, by omega⟩, z]
        have e := ih (i + n) (by omega) q
        rw [if_neg (by omega), Int.add_zero] at e
        rw [e, hf, w64_mull, w64_addr, w64_addl, show i + (n : Int) - i = n from by omega]
      · rw [if_neg z, ih y h0 h1]
        by_cases w : i ≤ y ∧ y < i + n
        · rw [if_pos w, if_pos ⟨w.1, by omega⟩]
        · rw [if_neg w, if_neg (by omega)]
    · rw [if_neg q, ih y h0 h1]
      by_cases w : i ≤ y ∧ y < i + n
      · rw [if_pos w, if_pos ⟨w.1, by omega⟩]
      · rw [if_neg w, if_neg (by omega)]
section
variable {R : Type}
theorem apO_w [Lean.Grind.CommRing R] {co : R → Nat → Int} {mk : Nat → (Nat → Int) → R} (H : PolyR co mk) {L nb : Nat} {f g F acc : Int → Int} (ha : ∀ y : Int, 0 ≤ y → y < L → acc y = 0) : ∀ n : Nat, (∀ k : Int, 0 ≤ k → k < n → f k = w64 (F k)) → ∀ y : Int, 0 ≤ y → y < L → apO L f g nb n acc y = w64 (co (pR mk n F * pR mk nb g) y.toNat)
  | 0, _, y, y0, y1 => by
    rw [pR_0 H, show (0 : R) * pR mk nb g = 0 from by grind, co_zero H]
    show acc y = w64 0
    rw [ha y y0 y1]
    decide +kernel
  | n + 1, hf, y, y0, y1 => by
    have ih := apO_w H (L := L) (nb := nb) (f := f) (g := g) (F := F) ha n (fun k a b => hf k a (by omega))
    have e := apI_w (L := L) (f := f) (g := g) (i := (n : Int)) (a := fun y => co (pR mk n F * pR mk nb g) y.toNat) (F := F n) ih (hf n (by omega) (by omega)) (by omega) nb y y0 y1
    show apI L f g n nb (apO L f g nb n acc) y = _
    rw [e, pR_succ H, show (pR mk n F + mo mk n (F n)) * pR mk nb g = pR mk n F * pR mk nb g + mo mk n (F n) * pR mk nb g from by grind, H.2.1, co_momul H, co_pR H]
    congr 2
    by_cases z : n ≤ y.toNat
    · rw [if_pos z]
      by_cases w : y.toNat - n < nb
      · rw [if_pos ⟨by omega, by omega⟩, if_pos w, show ((y.toNat - n : Nat) : Int) = y - n from by omega]
      · rw [if_neg (by omega), if_neg w, Int.mul_zero]
    · rw [if_neg z, if_neg (by omega)]
end
