/-! the last steps of Long.bitCount -/
theorem m_dad0 {a c u : Nat} : (a + 256 * u) + c = (a + c) + 256 * u := Nat.add_right_comm _ _ _
theorem m_x4 (c0 c1 c2 c3 c4 c5 c6 c7 : Nat) : (c0 + 256 * (c1 + 256 * (c2 + 256 * (c3 + 256 * (c4 + 256 * (c5 + 256 * (c6 + 256 * c7))))))) + (c1 + 256 * (c2 + 256 * (c3 + 256 * (c4 + 256 * (c5 + 256 * (c6 + 256 * c7)))))) = (c0 + c1) + 256 * ((c1 + c2) + 256 * ((c2 + c3) + 256 * ((c3 + c4) + 256 * ((c4 + c5) + 256 * ((c5 + c6) + 256 * (c6 + c7 + 256 * c7)))))) := by
  rw [m_dad, m_dad, m_dad, m_dad, m_dad, m_dad, m_dad0]
theorem m_x5 (c0 c1 c2 c3 c4 c5 c6 c7 : Nat) : (c0 + 256 * (c1 + 256 * (c2 + 256 * (c3 + 256 * (c4 + 256 * (c5 + 256 * (c6 + 256 * c7))))))) + (c2 + 256 * (c3 + 256 * (c4 + 256 * (c5 + 256 * (c6 + 256 * c7))))) = (c0 + c2) + 256 * ((c1 + c3) + 256 * ((c2 + c4) + 256 * ((c3 + c5) + 256 * ((c4 + c6) + 256 * (c5 + c7 + 256 * (c6 + 256 * c7)))))) := by
  rw [m_dad, m_dad, m_dad, m_dad, m_dad, m_dad0]
theorem m_fin {c0 c1 c2 c3 c4 c5 c6 c7 X : Nat} (hX : X = c0 + 256 * (c1 + 256 * (c2 + 256 * (c3 + 256 * (c4 + 256 * (c5 + 256 * (c6 + 256 * c7)))))))
    (b0 : c0 ≤ 255) (b1 : c0 + c1 ≤ 255) (b2 : c1 + c2 ≤ 255) (d0 : c0 + c1 + (c2 + c3) ≤ 255) (d1 : c1 + c2 + (c3 + c4) ≤ 255) (d2 : c2 + c3 + (c4 + c5) ≤ 255) (d3 : c3 + c4 + (c5 + c6) ≤ 255) (z : c0 + c1 + (c2 + c3) + (c4 + c5 + (c6 + c7)) ≤ 64) :
    ∀ x4 x5 x6 : Nat, x4 = X + X / 256 → x5 = x4 + x4 / 65536 → x6 = x5 + x5 / 4294967296 → x6 % 128 = c0 + c1 + (c2 + c3) + (c4 + c5 + (c6 + c7)) := by
  intro x4 x5 x6 h4 h5 h6
  rw [hX, m_dv1 b0, m_x4] at h4
  rw [h4, m_dv2 b1 b2, m_x5] at h5
  rw [h5, m_dv4 d0 d1 d2 d3, m_dad] at h6
  rw [h6, m_md z]
