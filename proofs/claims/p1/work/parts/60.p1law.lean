set_option maxRecDepth 100000 in
set_option maxHeartbeats 4000000 in
theorem pl_188 (ko : Nat → (Nat → Int32) → (Nat → Int32) → (Nat → Int32) → (Nat → Int32) → (Nat → Int32) → Int32 → (Nat → Int32) → Int32 → (Nat → Int32) → Int32 → Int32 → Int32 → Int32 → Int32 → (Nat → Int32) → (Nat → Int32) → (Nat → Int32) → (Nat → Int32) → Int32 → (Nat → Int32) → Int32 → (Nat → Int32) → Int32 → Int32 → Int32 → Int32 → Int32 → (Nat → Int32) → (Nat → Int32) → (Nat → Int32) → (Nat → Int32) → (Nat → Int32) → (Nat → Int32) → (Nat → Int32) → (Nat → Int32) → Int32 → Int32 → Int32 → (Nat → Int32) → (Nat → Int32) → (Nat → Int64) → Int32 → (Nat → Int32) → (Nat → Int32) → (Nat → Int64) → Int32 → (Nat → Int32) → Int32 → Int32 → (Nat → Int32) → (Nat → Int32) → (Nat → Int32) → (Nat → Int32) → Int32 → (Nat → Int32) → (Nat → Int32) → Int32 → Option (Int32)) (xs : Nat → Int32) (hko : ∀ {x0 x1 x2 x3 x4 x5 x6 x7 x8 x9 x10 x11 x12 x13 x14 x15 x16 x17 x18 x19 x20 x21 x22 x23 x24 x25 x26 x27 x28 x29 x30 x31 x32 x33 x34 x35 x36 x37 x38 x39 x40 x41 x42 x43 x44 x45 x46 x47 x48 x49 x50 x51 x52 x53 x54}, ko 7 xs x0 x1 x2 x3 x4 x5 x6 x7 x8 x9 x10 x11 x12 x13 x14 x15 x16 x17 x18 x19 x20 x21 x22 x23 x24 x25 x26 x27 x28 x29 x30 x31 x32 x33 x34 x35 x36 x37 x38 x39 x40 x41 x42 x43 x44 x45 x46 x47 x48 x49 x50 x51 x52 x53 x54 ((0 : Int32) + (7 : Int32)) = some 1) : fl_law_188 ko 300 7 xs z0 z0 z0 z0 (0 : Int32) z0 (0 : Int32) z0 (0 : Int32) (0 : Int32) (0 : Int32) (0 : Int32) (1 : Int32) z0 z0 z0 z0 (0 : Int32) z0 (0 : Int32) z0 (0 : Int32) (0 : Int32) (0 : Int32) (0 : Int32) (1 : Int32) z0 z0 z0 z0 z0 z0 z0 z0 (0 : Int32) (0 : Int32) (0 : Int32) zM z0 zL (0 : Int32) zM z0 zL (0 : Int32) z0 (0 : Int32) (0 : Int32) zN z0 z0 z0 (0 : Int32) z0 z0 (0 : Int32) = some 1 := by
  obtain ⟨p, q, e1, e2, e3⟩ := pa_clause (xs (((0 : Int32) + (1 : Int32))).toNatClampNeg) (xs (((0 : Int32) + (2 : Int32))).toNatClampNeg) (xs (((0 : Int32) + (3 : Int32))).toNatClampNeg) (xs (((0 : Int32) + (4 : Int32))).toNatClampNeg)
  have e4 : p.1 = q.1 := e3
  rw [fl_law_188]
  rw [if_neg (by decide)]
  rw [if_neg (by decide)]
  rw [if_neg (by decide)]
  rw [if_neg (by decide)]
  rw [e1]
  dsimp only
  rw [if_neg (by decide)]
  rw [if_neg (by decide)]
  rw [if_neg (by decide)]
  rw [if_neg (by decide)]
  rw [e2]
  dsimp only
  rw [if_pos e4]
  exact hko
set_option maxRecDepth 100000 in
set_option maxHeartbeats 4000000 in
theorem pl_241 (ko : Nat → (Nat → Int32) → (Nat → Int32) → (Nat → Int32) → (Nat → Int32) → (Nat → Int32) → Int32 → (Nat → Int32) → Int32 → (Nat → Int32) → Int32 → Int32 → Int32 → Int32 → Int32 → (Nat → Int32) → (Nat → Int32) → (Nat → Int32) → (Nat → Int32) → Int32 → (Nat → Int32) → Int32 → (Nat → Int32) → Int32 → Int32 → Int32 → Int32 → Int32 → (Nat → Int32) → (Nat → Int32) → (Nat → Int32) → (Nat → Int32) → (Nat → Int32) → (Nat → Int32) → (Nat → Int32) → (Nat → Int32) → Int32 → Int32 → Int32 → (Nat → Int32) → (Nat → Int32) → (Nat → Int64) → Int32 → (Nat → Int32) → (Nat → Int32) → (Nat → Int64) → Int32 → (Nat → Int32) → Int32 → Int32 → (Nat → Int32) → (Nat → Int32) → (Nat → Int32) → (Nat → Int32) → Int32 → (Nat → Int32) → (Nat → Int32) → Int32 → Option (Int32)) (xs : Nat → Int32) (hko : ∀ {x0 x1 x2 x3 x4 x5 x6 x7 x8 x9 x10 x11 x12 x13 x14 x15 x16 x17 x18 x19 x20 x21 x22 x23 x24 x25 x26 x27 x28 x29 x30 x31 x32 x33 x34 x35 x36 x37 x38 x39 x40 x41 x42 x43 x44 x45 x46 x47 x48 x49 x50 x51 x52 x53 x54}, ko 7 xs x0 x1 x2 x3 x4 x5 x6 x7 x8 x9 x10 x11 x12 x13 x14 x15 x16 x17 x18 x19 x20 x21 x22 x23 x24 x25 x26 x27 x28 x29 x30 x31 x32 x33 x34 x35 x36 x37 x38 x39 x40 x41 x42 x43 x44 x45 x46 x47 x48 x49 x50 x51 x52 x53 x54 ((0 : Int32) + (7 : Int32)) = some 1) : fl_law_241 ko 300 7 xs z0 z0 z0 z0 (0 : Int32) z0 (0 : Int32) z0 (0 : Int32) (0 : Int32) (0 : Int32) (0 : Int32) (1 : Int32) z0 z0 z0 z0 (0 : Int32) z0 (0 : Int32) z0 (0 : Int32) (0 : Int32) (0 : Int32) (0 : Int32) (1 : Int32) z0 z0 z0 z0 z0 z0 z0 z0 (0 : Int32) (0 : Int32) (0 : Int32) zM z0 zL (0 : Int32) zM z0 zL (0 : Int32) z0 (0 : Int32) (0 : Int32) zN z0 z0 z0 (0 : Int32) z0 z0 (0 : Int32) = some 1 := by
  obtain ⟨p, q, e1, e2, e3⟩ := pa_of (xs (((0 : Int32) + (1 : Int32))).toNatClampNeg) (xs (((0 : Int32) + (2 : Int32))).toNatClampNeg)
  have e4 : p = q := e3
  rw [fl_law_241]
  rw [if_neg (by decide)]
  rw [if_neg (by decide)]
  rw [e1]
  dsimp only
  rw [if_neg (by decide)]
  rw [if_neg (by decide)]
  rw [e2]
  dsimp only
  rw [if_pos e4]
  exact hko
set_option maxRecDepth 100000 in
set_option maxHeartbeats 4000000 in
theorem pl_274 (ko : Nat → (Nat → Int32) → (Nat → Int32) → (Nat → Int32) → (Nat → Int32) → (Nat → Int32) → Int32 → (Nat → Int32) → Int32 → (Nat → Int32) → Int32 → Int32 → Int32 → Int32 → Int32 → (Nat → Int32) → (Nat → Int32) → (Nat → Int32) → (Nat → Int32) → Int32 → (Nat → Int32) → Int32 → (Nat → Int32) → Int32 → Int32 → Int32 → Int32 → Int32 → (Nat → Int32) → (Nat → Int32) → (Nat → Int32) → (Nat → Int32) → (Nat → Int32) → (Nat → Int32) → (Nat → Int32) → (Nat → Int32) → Int32 → Int32 → Int32 → (Nat → Int32) → (Nat → Int32) → (Nat → Int64) → Int32 → (Nat → Int32) → (Nat → Int32) → (Nat → Int64) → Int32 → (Nat → Int32) → Int32 → Int32 → (Nat → Int32) → (Nat → Int32) → (Nat → Int32) → (Nat → Int32) → Int32 → (Nat → Int32) → (Nat → Int32) → Int32 → Option (Int32)) (xs : Nat → Int32) (hko : ∀ {x0 x1 x2 x3 x4 x5 x6 x7 x8 x9 x10 x11 x12 x13 x14 x15 x16 x17 x18 x19 x20 x21 x22 x23 x24 x25 x26 x27 x28 x29 x30 x31 x32 x33 x34 x35 x36 x37 x38 x39 x40 x41 x42 x43 x44 x45 x46 x47 x48 x49 x50 x51 x52 x53 x54}, ko 7 xs x0 x1 x2 x3 x4 x5 x6 x7 x8 x9 x10 x11 x12 x13 x14 x15 x16 x17 x18 x19 x20 x21 x22 x23 x24 x25 x26 x27 x28 x29 x30 x31 x32 x33 x34 x35 x36 x37 x38 x39 x40 x41 x42 x43 x44 x45 x46 x47 x48 x49 x50 x51 x52 x53 x54 ((0 : Int32) + (7 : Int32)) = some 1) : fl_law_274 ko 300 7 xs z0 z0 z0 z0 (0 : Int32) z0 (0 : Int32) z0 (0 : Int32) (0 : Int32) (0 : Int32) (0 : Int32) (1 : Int32) z0 z0 z0 z0 (0 : Int32) z0 (0 : Int32) z0 (0 : Int32) (0 : Int32) (0 : Int32) (0 : Int32) (1 : Int32) z0 z0 z0 z0 z0 z0 z0 z0 (0 : Int32) (0 : Int32) (0 : Int32) zM z0 zL (0 : Int32) zM z0 zL (0 : Int32) z0 (0 : Int32) (0 : Int32) zN z0 z0 z0 (0 : Int32) z0 z0 (0 : Int32) = some 1 := by
  obtain ⟨p, q, e1, e2, e3⟩ := pa_party (xs (((0 : Int32) + (1 : Int32))).toNatClampNeg) (xs (((0 : Int32) + (2 : Int32))).toNatClampNeg)
  have e4 : p = q := e3
  rw [fl_law_274]
  rw [if_neg (by decide)]
  rw [if_neg (by decide)]
  rw [e1]
  dsimp only
  rw [if_neg (by decide)]
  rw [if_neg (by decide)]
  rw [e2]
  dsimp only
  rw [if_pos e4]
  exact hko
set_option maxRecDepth 100000 in
set_option maxHeartbeats 4000000 in
theorem pl_307 (ko : Nat → (Nat → Int32) → (Nat → Int32) → (Nat → Int32) → (Nat → Int32) → (Nat → Int32) → Int32 → (Nat → Int32) → Int32 → (Nat → Int32) → Int32 → Int32 → Int32 → Int32 → Int32 → (Nat → Int32) → (Nat → Int32) → (Nat → Int32) → (Nat → Int32) → Int32 → (Nat → Int32) → Int32 → (Nat → Int32) → Int32 → Int32 → Int32 → Int32 → Int32 → (Nat → Int32) → (Nat → Int32) → (Nat → Int32) → (Nat → Int32) → (Nat → Int32) → (Nat → Int32) → (Nat → Int32) → (Nat → Int32) → Int32 → Int32 → Int32 → (Nat → Int32) → (Nat → Int32) → (Nat → Int64) → Int32 → (Nat → Int32) → (Nat → Int32) → (Nat → Int64) → Int32 → (Nat → Int32) → Int32 → Int32 → (Nat → Int32) → (Nat → Int32) → (Nat → Int32) → (Nat → Int32) → Int32 → (Nat → Int32) → (Nat → Int32) → Int32 → Option (Int32)) (xs : Nat → Int32) (hko : ∀ {x0 x1 x2 x3 x4 x5 x6 x7 x8 x9 x10 x11 x12 x13 x14 x15 x16 x17 x18 x19 x20 x21 x22 x23 x24 x25 x26 x27 x28 x29 x30 x31 x32 x33 x34 x35 x36 x37 x38 x39 x40 x41 x42 x43 x44 x45 x46 x47 x48 x49 x50 x51 x52 x53 x54}, ko 7 xs x0 x1 x2 x3 x4 x5 x6 x7 x8 x9 x10 x11 x12 x13 x14 x15 x16 x17 x18 x19 x20 x21 x22 x23 x24 x25 x26 x27 x28 x29 x30 x31 x32 x33 x34 x35 x36 x37 x38 x39 x40 x41 x42 x43 x44 x45 x46 x47 x48 x49 x50 x51 x52 x53 x54 ((0 : Int32) + (7 : Int32)) = some 1) : fl_law_307 ko 300 7 xs z0 z0 z0 z0 (0 : Int32) z0 (0 : Int32) z0 (0 : Int32) (0 : Int32) (0 : Int32) (0 : Int32) (1 : Int32) z0 z0 z0 z0 (0 : Int32) z0 (0 : Int32) z0 (0 : Int32) (0 : Int32) (0 : Int32) (0 : Int32) (1 : Int32) z0 z0 z0 z0 z0 z0 z0 z0 (0 : Int32) (0 : Int32) (0 : Int32) zM z0 zL (0 : Int32) zM z0 zL (0 : Int32) z0 (0 : Int32) (0 : Int32) zN z0 z0 z0 (0 : Int32) z0 z0 (0 : Int32) = some 1 := by
  obtain ⟨p, q, e1, e2, e3⟩ := pa_owe (xs (((0 : Int32) + (1 : Int32))).toNatClampNeg) (xs (((0 : Int32) + (2 : Int32))).toNatClampNeg)
  have e4 : p.1 = q.1 := e3
  rw [fl_law_307]
  rw [if_neg (by decide)]
  rw [if_neg (by decide)]
  rw [e1]
  dsimp only
  rw [if_neg (by decide)]
  rw [if_neg (by decide)]
  rw [e2]
  dsimp only
  rw [if_pos e4]
  exact hko
set_option maxRecDepth 100000 in
set_option maxHeartbeats 4000000 in
theorem pl_340 (ko : Nat → (Nat → Int32) → (Nat → Int32) → (Nat → Int32) → (Nat → Int32) → (Nat → Int32) → Int32 → (Nat → Int32) → Int32 → (Nat → Int32) → Int32 → Int32 → Int32 → Int32 → Int32 → (Nat → Int32) → (Nat → Int32) → (Nat → Int32) → (Nat → Int32) → Int32 → (Nat → Int32) → Int32 → (Nat → Int32) → Int32 → Int32 → Int32 → Int32 → Int32 → (Nat → Int32) → (Nat → Int32) → (Nat → Int32) → (Nat → Int32) → (Nat → Int32) → (Nat → Int32) → (Nat → Int32) → (Nat → Int32) → Int32 → Int32 → Int32 → (Nat → Int32) → (Nat → Int32) → (Nat → Int64) → Int32 → (Nat → Int32) → (Nat → Int32) → (Nat → Int64) → Int32 → (Nat → Int32) → Int32 → Int32 → (Nat → Int32) → (Nat → Int32) → (Nat → Int32) → (Nat → Int32) → Int32 → (Nat → Int32) → (Nat → Int32) → Int32 → Option (Int32)) (xs : Nat → Int32) (hko : ∀ {x0 x1 x2 x3 x4 x5 x6 x7 x8 x9 x10 x11 x12 x13 x14 x15 x16 x17 x18 x19 x20 x21 x22 x23 x24 x25 x26 x27 x28 x29 x30 x31 x32 x33 x34 x35 x36 x37 x38 x39 x40 x41 x42 x43 x44 x45 x46 x47 x48 x49 x50 x51 x52 x53 x54}, ko 7 xs x0 x1 x2 x3 x4 x5 x6 x7 x8 x9 x10 x11 x12 x13 x14 x15 x16 x17 x18 x19 x20 x21 x22 x23 x24 x25 x26 x27 x28 x29 x30 x31 x32 x33 x34 x35 x36 x37 x38 x39 x40 x41 x42 x43 x44 x45 x46 x47 x48 x49 x50 x51 x52 x53 x54 ((0 : Int32) + (7 : Int32)) = some 1) : fl_law_340 ko 300 7 xs z0 z0 z0 z0 (0 : Int32) z0 (0 : Int32) z0 (0 : Int32) (0 : Int32) (0 : Int32) (0 : Int32) (1 : Int32) z0 z0 z0 z0 (0 : Int32) z0 (0 : Int32) z0 (0 : Int32) (0 : Int32) (0 : Int32) (0 : Int32) (1 : Int32) z0 z0 z0 z0 z0 z0 z0 z0 (0 : Int32) (0 : Int32) (0 : Int32) zM z0 zL (0 : Int32) zM z0 zL (0 : Int32) z0 (0 : Int32) (0 : Int32) zN z0 z0 z0 (0 : Int32) z0 z0 (0 : Int32) = some 1 := by
  obtain ⟨p, q, e1, e2, e3⟩ := pa_type (xs (((0 : Int32) + (1 : Int32))).toNatClampNeg)
  have e4 : p.1 = q.1 := e3
  rw [fl_law_340]
  rw [if_neg (by decide)]
  rw [e1]
  dsimp only
  rw [if_neg (by decide)]
  rw [e2]
  dsimp only
  rw [if_pos e4]
  exact hko
set_option maxRecDepth 100000 in
set_option maxHeartbeats 4000000 in
theorem pl_363 (ko : Nat → (Nat → Int32) → (Nat → Int32) → (Nat → Int32) → (Nat → Int32) → (Nat → Int32) → Int32 → (Nat → Int32) → Int32 → (Nat → Int32) → Int32 → Int32 → Int32 → Int32 → Int32 → (Nat → Int32) → (Nat → Int32) → (Nat → Int32) → (Nat → Int32) → Int32 → (Nat → Int32) → Int32 → (Nat → Int32) → Int32 → Int32 → Int32 → Int32 → Int32 → (Nat → Int32) → (Nat → Int32) → (Nat → Int32) → (Nat → Int32) → (Nat → Int32) → (Nat → Int32) → (Nat → Int32) → (Nat → Int32) → Int32 → Int32 → Int32 → (Nat → Int32) → (Nat → Int32) → (Nat → Int64) → Int32 → (Nat → Int32) → (Nat → Int32) → (Nat → Int64) → Int32 → (Nat → Int32) → Int32 → Int32 → (Nat → Int32) → (Nat → Int32) → (Nat → Int32) → (Nat → Int32) → Int32 → (Nat → Int32) → (Nat → Int32) → Int32 → Option (Int32)) (xs : Nat → Int32) (hko : ∀ {x0 x1 x2 x3 x4 x5 x6 x7 x8 x9 x10 x11 x12 x13 x14 x15 x16 x17 x18 x19 x20 x21 x22 x23 x24 x25 x26 x27 x28 x29 x30 x31 x32 x33 x34 x35 x36 x37 x38 x39 x40 x41 x42 x43 x44 x45 x46 x47 x48 x49 x50 x51 x52 x53 x54}, ko 7 xs x0 x1 x2 x3 x4 x5 x6 x7 x8 x9 x10 x11 x12 x13 x14 x15 x16 x17 x18 x19 x20 x21 x22 x23 x24 x25 x26 x27 x28 x29 x30 x31 x32 x33 x34 x35 x36 x37 x38 x39 x40 x41 x42 x43 x44 x45 x46 x47 x48 x49 x50 x51 x52 x53 x54 ((0 : Int32) + (7 : Int32)) = some 1) : fl_law_363 ko 300 7 xs z0 z0 z0 z0 (0 : Int32) z0 (0 : Int32) z0 (0 : Int32) (0 : Int32) (0 : Int32) (0 : Int32) (1 : Int32) z0 z0 z0 z0 (0 : Int32) z0 (0 : Int32) z0 (0 : Int32) (0 : Int32) (0 : Int32) (0 : Int32) (1 : Int32) z0 z0 z0 z0 z0 z0 z0 z0 (0 : Int32) (0 : Int32) (0 : Int32) zM z0 zL (0 : Int32) zM z0 zL (0 : Int32) z0 (0 : Int32) (0 : Int32) zN z0 z0 z0 (0 : Int32) z0 z0 (0 : Int32) = some 1 := by
  obtain ⟨p, q, e1, e2, e3⟩ := pa_agreement 
  have e4 : p.1 = q.1 := e3
  rw [fl_law_363]
  rw [e1]
  dsimp only
  rw [e2]
  dsimp only
  rw [if_pos e4]
  exact hko
set_option maxRecDepth 100000 in
set_option maxHeartbeats 4000000 in
theorem pl_376 (ko : Nat → (Nat → Int32) → (Nat → Int32) → (Nat → Int32) → (Nat → Int32) → (Nat → Int32) → Int32 → (Nat → Int32) → Int32 → (Nat → Int32) → Int32 → Int32 → Int32 → Int32 → Int32 → (Nat → Int32) → (Nat → Int32) → (Nat → Int32) → (Nat → Int32) → Int32 → (Nat → Int32) → Int32 → (Nat → Int32) → Int32 → Int32 → Int32 → Int32 → Int32 → (Nat → Int32) → (Nat → Int32) → (Nat → Int32) → (Nat → Int32) → (Nat → Int32) → (Nat → Int32) → (Nat → Int32) → (Nat → Int32) → Int32 → Int32 → Int32 → (Nat → Int32) → (Nat → Int32) → (Nat → Int64) → Int32 → (Nat → Int32) → (Nat → Int32) → (Nat → Int64) → Int32 → (Nat → Int32) → Int32 → Int32 → (Nat → Int32) → (Nat → Int32) → (Nat → Int32) → (Nat → Int32) → Int32 → (Nat → Int32) → (Nat → Int32) → Int32 → Option (Int32)) (xs : Nat → Int32) (hko : ∀ {x0 x1 x2 x3 x4 x5 x6 x7 x8 x9 x10 x11 x12 x13 x14 x15 x16 x17 x18 x19 x20 x21 x22 x23 x24 x25 x26 x27 x28 x29 x30 x31 x32 x33 x34 x35 x36 x37 x38 x39 x40 x41 x42 x43 x44 x45 x46 x47 x48 x49 x50 x51 x52 x53 x54}, ko 7 xs x0 x1 x2 x3 x4 x5 x6 x7 x8 x9 x10 x11 x12 x13 x14 x15 x16 x17 x18 x19 x20 x21 x22 x23 x24 x25 x26 x27 x28 x29 x30 x31 x32 x33 x34 x35 x36 x37 x38 x39 x40 x41 x42 x43 x44 x45 x46 x47 x48 x49 x50 x51 x52 x53 x54 ((0 : Int32) + (7 : Int32)) = some 1) : fl_law_376 ko 300 7 xs z0 z0 z0 z0 (0 : Int32) z0 (0 : Int32) z0 (0 : Int32) (0 : Int32) (0 : Int32) (0 : Int32) (1 : Int32) z0 z0 z0 z0 (0 : Int32) z0 (0 : Int32) z0 (0 : Int32) (0 : Int32) (0 : Int32) (0 : Int32) (1 : Int32) z0 z0 z0 z0 z0 z0 z0 z0 (0 : Int32) (0 : Int32) (0 : Int32) zM z0 zL (0 : Int32) zM z0 zL (0 : Int32) z0 (0 : Int32) (0 : Int32) zN z0 z0 z0 (0 : Int32) z0 z0 (0 : Int32) = some 1 := by
  obtain ⟨p, q, e1, e2, e3⟩ := pa_count (xs (((0 : Int32) + (1 : Int32))).toNatClampNeg)
  have e4 : p = q := e3
  rw [fl_law_376]
  rw [if_neg (by decide)]
  rw [e1]
  dsimp only
  rw [if_neg (by decide)]
  rw [e2]
  dsimp only
  rw [if_pos e4]
  exact hko
set_option maxRecDepth 100000 in
set_option maxHeartbeats 4000000 in
theorem pl_399 (ko : Nat → (Nat → Int32) → (Nat → Int32) → (Nat → Int32) → (Nat → Int32) → (Nat → Int32) → Int32 → (Nat → Int32) → Int32 → (Nat → Int32) → Int32 → Int32 → Int32 → Int32 → Int32 → (Nat → Int32) → (Nat → Int32) → (Nat → Int32) → (Nat → Int32) → Int32 → (Nat → Int32) → Int32 → (Nat → Int32) → Int32 → Int32 → Int32 → Int32 → Int32 → (Nat → Int32) → (Nat → Int32) → (Nat → Int32) → (Nat → Int32) → (Nat → Int32) → (Nat → Int32) → (Nat → Int32) → (Nat → Int32) → Int32 → Int32 → Int32 → (Nat → Int32) → (Nat → Int32) → (Nat → Int64) → Int32 → (Nat → Int32) → (Nat → Int32) → (Nat → Int64) → Int32 → (Nat → Int32) → Int32 → Int32 → (Nat → Int32) → (Nat → Int32) → (Nat → Int32) → (Nat → Int32) → Int32 → (Nat → Int32) → (Nat → Int32) → Int32 → Option (Int32)) (xs : Nat → Int32) (hko : ∀ {x0 x1 x2 x3 x4 x5 x6 x7 x8 x9 x10 x11 x12 x13 x14 x15 x16 x17 x18 x19 x20 x21 x22 x23 x24 x25 x26 x27 x28 x29 x30 x31 x32 x33 x34 x35 x36 x37 x38 x39 x40 x41 x42 x43 x44 x45 x46 x47 x48 x49 x50 x51 x52 x53 x54}, ko 7 xs x0 x1 x2 x3 x4 x5 x6 x7 x8 x9 x10 x11 x12 x13 x14 x15 x16 x17 x18 x19 x20 x21 x22 x23 x24 x25 x26 x27 x28 x29 x30 x31 x32 x33 x34 x35 x36 x37 x38 x39 x40 x41 x42 x43 x44 x45 x46 x47 x48 x49 x50 x51 x52 x53 x54 ((0 : Int32) + (7 : Int32)) = some 1) : fl_law_399 ko 300 7 xs z0 z0 z0 z0 (0 : Int32) z0 (0 : Int32) z0 (0 : Int32) (0 : Int32) (0 : Int32) (0 : Int32) (1 : Int32) z0 z0 z0 z0 (0 : Int32) z0 (0 : Int32) z0 (0 : Int32) (0 : Int32) (0 : Int32) (0 : Int32) (1 : Int32) z0 z0 z0 z0 z0 z0 z0 z0 (0 : Int32) (0 : Int32) (0 : Int32) zM z0 zL (0 : Int32) zM z0 zL (0 : Int32) z0 (0 : Int32) (0 : Int32) zN z0 z0 z0 (0 : Int32) z0 z0 (0 : Int32) = some 1 := by
  obtain ⟨p, q, e1, e2, e3⟩ := pa_pull (xs (((0 : Int32) + (1 : Int32))).toNatClampNeg)
  have e4 : p.1 = q.1 := e3
  rw [fl_law_399]
  rw [if_neg (by decide)]
  rw [e1]
  dsimp only
  rw [if_neg (by decide)]
  rw [e2]
  dsimp only
  rw [if_pos e4]
  exact hko
set_option maxRecDepth 100000 in
set_option maxHeartbeats 4000000 in
theorem pl_422 (ko : Nat → (Nat → Int32) → (Nat → Int32) → (Nat → Int32) → (Nat → Int32) → (Nat → Int32) → Int32 → (Nat → Int32) → Int32 → (Nat → Int32) → Int32 → Int32 → Int32 → Int32 → Int32 → (Nat → Int32) → (Nat → Int32) → (Nat → Int32) → (Nat → Int32) → Int32 → (Nat → Int32) → Int32 → (Nat → Int32) → Int32 → Int32 → Int32 → Int32 → Int32 → (Nat → Int32) → (Nat → Int32) → (Nat → Int32) → (Nat → Int32) → (Nat → Int32) → (Nat → Int32) → (Nat → Int32) → (Nat → Int32) → Int32 → Int32 → Int32 → (Nat → Int32) → (Nat → Int32) → (Nat → Int64) → Int32 → (Nat → Int32) → (Nat → Int32) → (Nat → Int64) → Int32 → (Nat → Int32) → Int32 → Int32 → (Nat → Int32) → (Nat → Int32) → (Nat → Int32) → (Nat → Int32) → Int32 → (Nat → Int32) → (Nat → Int32) → Int32 → Option (Int32)) (xs : Nat → Int32) (hko : ∀ {x0 x1 x2 x3 x4 x5 x6 x7 x8 x9 x10 x11 x12 x13 x14 x15 x16 x17 x18 x19 x20 x21 x22 x23 x24 x25 x26 x27 x28 x29 x30 x31 x32 x33 x34 x35 x36 x37 x38 x39 x40 x41 x42 x43 x44 x45 x46 x47 x48 x49 x50 x51 x52 x53 x54}, ko 7 xs x0 x1 x2 x3 x4 x5 x6 x7 x8 x9 x10 x11 x12 x13 x14 x15 x16 x17 x18 x19 x20 x21 x22 x23 x24 x25 x26 x27 x28 x29 x30 x31 x32 x33 x34 x35 x36 x37 x38 x39 x40 x41 x42 x43 x44 x45 x46 x47 x48 x49 x50 x51 x52 x53 x54 ((0 : Int32) + (7 : Int32)) = some 1) : fl_law_422 ko 300 7 xs z0 z0 z0 z0 (0 : Int32) z0 (0 : Int32) z0 (0 : Int32) (0 : Int32) (0 : Int32) (0 : Int32) (1 : Int32) z0 z0 z0 z0 (0 : Int32) z0 (0 : Int32) z0 (0 : Int32) (0 : Int32) (0 : Int32) (0 : Int32) (1 : Int32) z0 z0 z0 z0 z0 z0 z0 z0 (0 : Int32) (0 : Int32) (0 : Int32) zM z0 zL (0 : Int32) zM z0 zL (0 : Int32) z0 (0 : Int32) (0 : Int32) zN z0 z0 z0 (0 : Int32) z0 z0 (0 : Int32) = some 1 := by
  obtain ⟨p, q, e1, e2, e3⟩ := pa_cut (xs (((0 : Int32) + (1 : Int32))).toNatClampNeg)
  have e4 : p.1 = q.1 := e3
  rw [fl_law_422]
  rw [if_neg (by decide)]
  rw [e1]
  dsimp only
  rw [if_neg (by decide)]
  rw [e2]
  dsimp only
  rw [if_pos e4]
  exact hko
set_option maxRecDepth 100000 in
set_option maxHeartbeats 4000000 in
theorem pl_445 (ko : Nat → (Nat → Int32) → (Nat → Int32) → (Nat → Int32) → (Nat → Int32) → (Nat → Int32) → Int32 → (Nat → Int32) → Int32 → (Nat → Int32) → Int32 → Int32 → Int32 → Int32 → Int32 → (Nat → Int32) → (Nat → Int32) → (Nat → Int32) → (Nat → Int32) → Int32 → (Nat → Int32) → Int32 → (Nat → Int32) → Int32 → Int32 → Int32 → Int32 → Int32 → (Nat → Int32) → (Nat → Int32) → (Nat → Int32) → (Nat → Int32) → (Nat → Int32) → (Nat → Int32) → (Nat → Int32) → (Nat → Int32) → Int32 → Int32 → Int32 → (Nat → Int32) → (Nat → Int32) → (Nat → Int64) → Int32 → (Nat → Int32) → (Nat → Int32) → (Nat → Int64) → Int32 → (Nat → Int32) → Int32 → Int32 → (Nat → Int32) → (Nat → Int32) → (Nat → Int32) → (Nat → Int32) → Int32 → (Nat → Int32) → (Nat → Int32) → Int32 → Option (Int32)) (xs : Nat → Int32) (hko : ∀ {x0 x1 x2 x3 x4 x5 x6 x7 x8 x9 x10 x11 x12 x13 x14 x15 x16 x17 x18 x19 x20 x21 x22 x23 x24 x25 x26 x27 x28 x29 x30 x31 x32 x33 x34 x35 x36 x37 x38 x39 x40 x41 x42 x43 x44 x45 x46 x47 x48 x49 x50 x51 x52 x53 x54}, ko 7 xs x0 x1 x2 x3 x4 x5 x6 x7 x8 x9 x10 x11 x12 x13 x14 x15 x16 x17 x18 x19 x20 x21 x22 x23 x24 x25 x26 x27 x28 x29 x30 x31 x32 x33 x34 x35 x36 x37 x38 x39 x40 x41 x42 x43 x44 x45 x46 x47 x48 x49 x50 x51 x52 x53 x54 ((0 : Int32) + (7 : Int32)) = some 1) : fl_law_445 ko 300 7 xs z0 z0 z0 z0 (0 : Int32) z0 (0 : Int32) z0 (0 : Int32) (0 : Int32) (0 : Int32) (0 : Int32) (1 : Int32) z0 z0 z0 z0 (0 : Int32) z0 (0 : Int32) z0 (0 : Int32) (0 : Int32) (0 : Int32) (0 : Int32) (1 : Int32) z0 z0 z0 z0 z0 z0 z0 z0 (0 : Int32) (0 : Int32) (0 : Int32) zM z0 zL (0 : Int32) zM z0 zL (0 : Int32) z0 (0 : Int32) (0 : Int32) zN z0 z0 z0 (0 : Int32) z0 z0 (0 : Int32) = some 1 := by
  obtain ⟨p, q, e1, e2, e3⟩ := pa_tie (xs (((0 : Int32) + (1 : Int32))).toNatClampNeg)
  have e4 : p.1 = q.1 := e3
  rw [fl_law_445]
  rw [if_neg (by decide)]
  rw [e1]
  dsimp only
  rw [if_neg (by decide)]
  rw [e2]
  dsimp only
  rw [if_pos e4]
  exact hko
set_option maxRecDepth 100000 in
set_option maxHeartbeats 4000000 in
theorem pl_468 (ko : Nat → (Nat → Int32) → (Nat → Int32) → (Nat → Int32) → (Nat → Int32) → (Nat → Int32) → Int32 → (Nat → Int32) → Int32 → (Nat → Int32) → Int32 → Int32 → Int32 → Int32 → Int32 → (Nat → Int32) → (Nat → Int32) → (Nat → Int32) → (Nat → Int32) → Int32 → (Nat → Int32) → Int32 → (Nat → Int32) → Int32 → Int32 → Int32 → Int32 → Int32 → (Nat → Int32) → (Nat → Int32) → (Nat → Int32) → (Nat → Int32) → (Nat → Int32) → (Nat → Int32) → (Nat → Int32) → (Nat → Int32) → Int32 → Int32 → Int32 → (Nat → Int32) → (Nat → Int32) → (Nat → Int64) → Int32 → (Nat → Int32) → (Nat → Int32) → (Nat → Int64) → Int32 → (Nat → Int32) → Int32 → Int32 → (Nat → Int32) → (Nat → Int32) → (Nat → Int32) → (Nat → Int32) → Int32 → (Nat → Int32) → (Nat → Int32) → Int32 → Option (Int32)) (xs : Nat → Int32) (hko : ∀ {x0 x1 x2 x3 x4 x5 x6 x7 x8 x9 x10 x11 x12 x13 x14 x15 x16 x17 x18 x19 x20 x21 x22 x23 x24 x25 x26 x27 x28 x29 x30 x31 x32 x33 x34 x35 x36 x37 x38 x39 x40 x41 x42 x43 x44 x45 x46 x47 x48 x49 x50 x51 x52 x53 x54}, ko 7 xs x0 x1 x2 x3 x4 x5 x6 x7 x8 x9 x10 x11 x12 x13 x14 x15 x16 x17 x18 x19 x20 x21 x22 x23 x24 x25 x26 x27 x28 x29 x30 x31 x32 x33 x34 x35 x36 x37 x38 x39 x40 x41 x42 x43 x44 x45 x46 x47 x48 x49 x50 x51 x52 x53 x54 ((0 : Int32) + (7 : Int32)) = some 1) : fl_law_468 ko 300 7 xs z0 z0 z0 z0 (0 : Int32) z0 (0 : Int32) z0 (0 : Int32) (0 : Int32) (0 : Int32) (0 : Int32) (1 : Int32) z0 z0 z0 z0 (0 : Int32) z0 (0 : Int32) z0 (0 : Int32) (0 : Int32) (0 : Int32) (0 : Int32) (1 : Int32) z0 z0 z0 z0 z0 z0 z0 z0 (0 : Int32) (0 : Int32) (0 : Int32) zM z0 zL (0 : Int32) zM z0 zL (0 : Int32) z0 (0 : Int32) (0 : Int32) zN z0 z0 z0 (0 : Int32) z0 z0 (0 : Int32) = some 1 := by
  obtain ⟨p, q, e1, e2, e3⟩ := pa_wet (xs (((0 : Int32) + (1 : Int32))).toNatClampNeg)
  have e4 : p.1 = q.1 := e3
  rw [fl_law_468]
  rw [if_neg (by decide)]
  rw [e1]
  dsimp only
  rw [if_neg (by decide)]
  rw [e2]
  dsimp only
  rw [if_pos e4]
  exact hko
set_option maxRecDepth 100000 in
set_option maxHeartbeats 4000000 in
theorem pl_491 (ko : Nat → (Nat → Int32) → (Nat → Int32) → (Nat → Int32) → (Nat → Int32) → (Nat → Int32) → Int32 → (Nat → Int32) → Int32 → (Nat → Int32) → Int32 → Int32 → Int32 → Int32 → Int32 → (Nat → Int32) → (Nat → Int32) → (Nat → Int32) → (Nat → Int32) → Int32 → (Nat → Int32) → Int32 → (Nat → Int32) → Int32 → Int32 → Int32 → Int32 → Int32 → (Nat → Int32) → (Nat → Int32) → (Nat → Int32) → (Nat → Int32) → (Nat → Int32) → (Nat → Int32) → (Nat → Int32) → (Nat → Int32) → Int32 → Int32 → Int32 → (Nat → Int32) → (Nat → Int32) → (Nat → Int64) → Int32 → (Nat → Int32) → (Nat → Int32) → (Nat → Int64) → Int32 → (Nat → Int32) → Int32 → Int32 → (Nat → Int32) → (Nat → Int32) → (Nat → Int32) → (Nat → Int32) → Int32 → (Nat → Int32) → (Nat → Int32) → Int32 → Option (Int32)) (xs : Nat → Int32) (hko : ∀ {x0 x1 x2 x3 x4 x5 x6 x7 x8 x9 x10 x11 x12 x13 x14 x15 x16 x17 x18 x19 x20 x21 x22 x23 x24 x25 x26 x27 x28 x29 x30 x31 x32 x33 x34 x35 x36 x37 x38 x39 x40 x41 x42 x43 x44 x45 x46 x47 x48 x49 x50 x51 x52 x53 x54}, ko 7 xs x0 x1 x2 x3 x4 x5 x6 x7 x8 x9 x10 x11 x12 x13 x14 x15 x16 x17 x18 x19 x20 x21 x22 x23 x24 x25 x26 x27 x28 x29 x30 x31 x32 x33 x34 x35 x36 x37 x38 x39 x40 x41 x42 x43 x44 x45 x46 x47 x48 x49 x50 x51 x52 x53 x54 ((0 : Int32) + (7 : Int32)) = some 1) : fl_law_491 ko 300 7 xs z0 z0 z0 z0 (0 : Int32) z0 (0 : Int32) z0 (0 : Int32) (0 : Int32) (0 : Int32) (0 : Int32) (1 : Int32) z0 z0 z0 z0 (0 : Int32) z0 (0 : Int32) z0 (0 : Int32) (0 : Int32) (0 : Int32) (0 : Int32) (1 : Int32) z0 z0 z0 z0 z0 z0 z0 z0 (0 : Int32) (0 : Int32) (0 : Int32) zM z0 zL (0 : Int32) zM z0 zL (0 : Int32) z0 (0 : Int32) (0 : Int32) zN z0 z0 z0 (0 : Int32) z0 z0 (0 : Int32) = some 1 := by
  obtain ⟨p, q, e1, e2, e3⟩ := pa_days (xs (((0 : Int32) + (1 : Int32))).toNatClampNeg)
  have e4 : p.1 = q.1 := e3
  rw [fl_law_491]
  rw [if_neg (by decide)]
  rw [e1]
  dsimp only
  rw [if_neg (by decide)]
  rw [e2]
  dsimp only
  rw [if_pos e4]
  exact hko
set_option maxRecDepth 100000 in
set_option maxHeartbeats 4000000 in
theorem pl_514 (ko : Nat → (Nat → Int32) → (Nat → Int32) → (Nat → Int32) → (Nat → Int32) → (Nat → Int32) → Int32 → (Nat → Int32) → Int32 → (Nat → Int32) → Int32 → Int32 → Int32 → Int32 → Int32 → (Nat → Int32) → (Nat → Int32) → (Nat → Int32) → (Nat → Int32) → Int32 → (Nat → Int32) → Int32 → (Nat → Int32) → Int32 → Int32 → Int32 → Int32 → Int32 → (Nat → Int32) → (Nat → Int32) → (Nat → Int32) → (Nat → Int32) → (Nat → Int32) → (Nat → Int32) → (Nat → Int32) → (Nat → Int32) → Int32 → Int32 → Int32 → (Nat → Int32) → (Nat → Int32) → (Nat → Int64) → Int32 → (Nat → Int32) → (Nat → Int32) → (Nat → Int64) → Int32 → (Nat → Int32) → Int32 → Int32 → (Nat → Int32) → (Nat → Int32) → (Nat → Int32) → (Nat → Int32) → Int32 → (Nat → Int32) → (Nat → Int32) → Int32 → Option (Int32)) (xs : Nat → Int32) (hko : ∀ {x0 x1 x2 x3 x4 x5 x6 x7 x8 x9 x10 x11 x12 x13 x14 x15 x16 x17 x18 x19 x20 x21 x22 x23 x24 x25 x26 x27 x28 x29 x30 x31 x32 x33 x34 x35 x36 x37 x38 x39 x40 x41 x42 x43 x44 x45 x46 x47 x48 x49 x50 x51 x52 x53 x54}, ko 7 xs x0 x1 x2 x3 x4 x5 x6 x7 x8 x9 x10 x11 x12 x13 x14 x15 x16 x17 x18 x19 x20 x21 x22 x23 x24 x25 x26 x27 x28 x29 x30 x31 x32 x33 x34 x35 x36 x37 x38 x39 x40 x41 x42 x43 x44 x45 x46 x47 x48 x49 x50 x51 x52 x53 x54 ((0 : Int32) + (7 : Int32)) = some 1) : fl_law_514 ko 300 7 xs z0 z0 z0 z0 (0 : Int32) z0 (0 : Int32) z0 (0 : Int32) (0 : Int32) (0 : Int32) (0 : Int32) (1 : Int32) z0 z0 z0 z0 (0 : Int32) z0 (0 : Int32) z0 (0 : Int32) (0 : Int32) (0 : Int32) (0 : Int32) (1 : Int32) z0 z0 z0 z0 z0 z0 z0 z0 (0 : Int32) (0 : Int32) (0 : Int32) zM z0 zL (0 : Int32) zM z0 zL (0 : Int32) z0 (0 : Int32) (0 : Int32) zN z0 z0 z0 (0 : Int32) z0 z0 (0 : Int32) = some 1 := by
  obtain ⟨p, q, e1, e2, e3⟩ := pa_drift (xs (((0 : Int32) + (1 : Int32))).toNatClampNeg)
  have e4 : p.1 = q.1 := e3
  rw [fl_law_514]
  rw [if_neg (by decide)]
  rw [e1]
  dsimp only
  rw [if_neg (by decide)]
  rw [e2]
  dsimp only
  rw [if_pos e4]
  exact hko
set_option maxRecDepth 100000 in
set_option maxHeartbeats 4000000 in
theorem pl_537 (ko : Nat → (Nat → Int32) → (Nat → Int32) → (Nat → Int32) → (Nat → Int32) → (Nat → Int32) → Int32 → (Nat → Int32) → Int32 → (Nat → Int32) → Int32 → Int32 → Int32 → Int32 → Int32 → (Nat → Int32) → (Nat → Int32) → (Nat → Int32) → (Nat → Int32) → Int32 → (Nat → Int32) → Int32 → (Nat → Int32) → Int32 → Int32 → Int32 → Int32 → Int32 → (Nat → Int32) → (Nat → Int32) → (Nat → Int32) → (Nat → Int32) → (Nat → Int32) → (Nat → Int32) → (Nat → Int32) → (Nat → Int32) → Int32 → Int32 → Int32 → (Nat → Int32) → (Nat → Int32) → (Nat → Int64) → Int32 → (Nat → Int32) → (Nat → Int32) → (Nat → Int64) → Int32 → (Nat → Int32) → Int32 → Int32 → (Nat → Int32) → (Nat → Int32) → (Nat → Int32) → (Nat → Int32) → Int32 → (Nat → Int32) → (Nat → Int32) → Int32 → Option (Int32)) (xs : Nat → Int32) (hko : ∀ {x0 x1 x2 x3 x4 x5 x6 x7 x8 x9 x10 x11 x12 x13 x14 x15 x16 x17 x18 x19 x20 x21 x22 x23 x24 x25 x26 x27 x28 x29 x30 x31 x32 x33 x34 x35 x36 x37 x38 x39 x40 x41 x42 x43 x44 x45 x46 x47 x48 x49 x50 x51 x52 x53 x54}, ko 7 xs x0 x1 x2 x3 x4 x5 x6 x7 x8 x9 x10 x11 x12 x13 x14 x15 x16 x17 x18 x19 x20 x21 x22 x23 x24 x25 x26 x27 x28 x29 x30 x31 x32 x33 x34 x35 x36 x37 x38 x39 x40 x41 x42 x43 x44 x45 x46 x47 x48 x49 x50 x51 x52 x53 x54 ((0 : Int32) + (7 : Int32)) = some 1) : fl_law_537 ko 300 7 xs z0 z0 z0 z0 (0 : Int32) z0 (0 : Int32) z0 (0 : Int32) (0 : Int32) (0 : Int32) (0 : Int32) (1 : Int32) z0 z0 z0 z0 (0 : Int32) z0 (0 : Int32) z0 (0 : Int32) (0 : Int32) (0 : Int32) (0 : Int32) (1 : Int32) z0 z0 z0 z0 z0 z0 z0 z0 (0 : Int32) (0 : Int32) (0 : Int32) zM z0 zL (0 : Int32) zM z0 zL (0 : Int32) z0 (0 : Int32) (0 : Int32) zN z0 z0 z0 (0 : Int32) z0 z0 (0 : Int32) = some 1 := by
  obtain ⟨p, q, e1, e2, e3⟩ := pa_undo 
  have e4 : p.1 = q.1 := e3
  rw [fl_law_537]
  rw [e1]
  dsimp only
  rw [e2]
  dsimp only
  rw [if_pos e4]
  exact hko
set_option maxRecDepth 100000 in
set_option maxHeartbeats 4000000 in
theorem pl_550 (ko : Nat → (Nat → Int32) → (Nat → Int32) → (Nat → Int32) → (Nat → Int32) → (Nat → Int32) → Int32 → (Nat → Int32) → Int32 → (Nat → Int32) → Int32 → Int32 → Int32 → Int32 → Int32 → (Nat → Int32) → (Nat → Int32) → (Nat → Int32) → (Nat → Int32) → Int32 → (Nat → Int32) → Int32 → (Nat → Int32) → Int32 → Int32 → Int32 → Int32 → Int32 → (Nat → Int32) → (Nat → Int32) → (Nat → Int32) → (Nat → Int32) → (Nat → Int32) → (Nat → Int32) → (Nat → Int32) → (Nat → Int32) → Int32 → Int32 → Int32 → (Nat → Int32) → (Nat → Int32) → (Nat → Int64) → Int32 → (Nat → Int32) → (Nat → Int32) → (Nat → Int64) → Int32 → (Nat → Int32) → Int32 → Int32 → (Nat → Int32) → (Nat → Int32) → (Nat → Int32) → (Nat → Int32) → Int32 → (Nat → Int32) → (Nat → Int32) → Int32 → Option (Int32)) (xs : Nat → Int32) (hko : ∀ {x0 x1 x2 x3 x4 x5 x6 x7 x8 x9 x10 x11 x12 x13 x14 x15 x16 x17 x18 x19 x20 x21 x22 x23 x24 x25 x26 x27 x28 x29 x30 x31 x32 x33 x34 x35 x36 x37 x38 x39 x40 x41 x42 x43 x44 x45 x46 x47 x48 x49 x50 x51 x52 x53 x54}, ko 7 xs x0 x1 x2 x3 x4 x5 x6 x7 x8 x9 x10 x11 x12 x13 x14 x15 x16 x17 x18 x19 x20 x21 x22 x23 x24 x25 x26 x27 x28 x29 x30 x31 x32 x33 x34 x35 x36 x37 x38 x39 x40 x41 x42 x43 x44 x45 x46 x47 x48 x49 x50 x51 x52 x53 x54 ((0 : Int32) + (7 : Int32)) = some 1) : fl_law_550 ko 300 7 xs z0 z0 z0 z0 (0 : Int32) z0 (0 : Int32) z0 (0 : Int32) (0 : Int32) (0 : Int32) (0 : Int32) (1 : Int32) z0 z0 z0 z0 (0 : Int32) z0 (0 : Int32) z0 (0 : Int32) (0 : Int32) (0 : Int32) (0 : Int32) (1 : Int32) z0 z0 z0 z0 z0 z0 z0 z0 (0 : Int32) (0 : Int32) (0 : Int32) zM z0 zL (0 : Int32) zM z0 zL (0 : Int32) z0 (0 : Int32) (0 : Int32) zN z0 z0 z0 (0 : Int32) z0 z0 (0 : Int32) = some 1 := by
  obtain ⟨p, q, e1, e2, e3⟩ := pa_seed (xs (((0 : Int32) + (1 : Int32))).toNatClampNeg)
  have e4 : p.1 = q.1 := e3
  rw [fl_law_550]
  rw [if_neg (by decide)]
  rw [e1]
  dsimp only
  rw [if_neg (by decide)]
  rw [e2]
  dsimp only
  rw [if_pos e4]
  exact hko
set_option maxRecDepth 100000 in
set_option maxHeartbeats 4000000 in
theorem pl_573 (ko : Nat → (Nat → Int32) → (Nat → Int32) → (Nat → Int32) → (Nat → Int32) → (Nat → Int32) → Int32 → (Nat → Int32) → Int32 → (Nat → Int32) → Int32 → Int32 → Int32 → Int32 → Int32 → (Nat → Int32) → (Nat → Int32) → (Nat → Int32) → (Nat → Int32) → Int32 → (Nat → Int32) → Int32 → (Nat → Int32) → Int32 → Int32 → Int32 → Int32 → Int32 → (Nat → Int32) → (Nat → Int32) → (Nat → Int32) → (Nat → Int32) → (Nat → Int32) → (Nat → Int32) → (Nat → Int32) → (Nat → Int32) → Int32 → Int32 → Int32 → (Nat → Int32) → (Nat → Int32) → (Nat → Int64) → Int32 → (Nat → Int32) → (Nat → Int32) → (Nat → Int64) → Int32 → (Nat → Int32) → Int32 → Int32 → (Nat → Int32) → (Nat → Int32) → (Nat → Int32) → (Nat → Int32) → Int32 → (Nat → Int32) → (Nat → Int32) → Int32 → Option (Int32)) (xs : Nat → Int32) (hko : ∀ {x0 x1 x2 x3 x4 x5 x6 x7 x8 x9 x10 x11 x12 x13 x14 x15 x16 x17 x18 x19 x20 x21 x22 x23 x24 x25 x26 x27 x28 x29 x30 x31 x32 x33 x34 x35 x36 x37 x38 x39 x40 x41 x42 x43 x44 x45 x46 x47 x48 x49 x50 x51 x52 x53 x54}, ko 7 xs x0 x1 x2 x3 x4 x5 x6 x7 x8 x9 x10 x11 x12 x13 x14 x15 x16 x17 x18 x19 x20 x21 x22 x23 x24 x25 x26 x27 x28 x29 x30 x31 x32 x33 x34 x35 x36 x37 x38 x39 x40 x41 x42 x43 x44 x45 x46 x47 x48 x49 x50 x51 x52 x53 x54 ((0 : Int32) + (7 : Int32)) = some 1) : fl_law_573 ko 300 7 xs z0 z0 z0 z0 (0 : Int32) z0 (0 : Int32) z0 (0 : Int32) (0 : Int32) (0 : Int32) (0 : Int32) (1 : Int32) z0 z0 z0 z0 (0 : Int32) z0 (0 : Int32) z0 (0 : Int32) (0 : Int32) (0 : Int32) (0 : Int32) (1 : Int32) z0 z0 z0 z0 z0 z0 z0 z0 (0 : Int32) (0 : Int32) (0 : Int32) zM z0 zL (0 : Int32) zM z0 zL (0 : Int32) z0 (0 : Int32) (0 : Int32) zN z0 z0 z0 (0 : Int32) z0 z0 (0 : Int32) = some 1 := by
  obtain ⟨p, q, e1, e2, e3⟩ := pa_falls (xs (((0 : Int32) + (1 : Int32))).toNatClampNeg)
  have e4 : p.1 = q := e3
  rw [fl_law_573]
  rw [if_neg (by decide)]
  rw [e1]
  dsimp only
  rw [if_neg (by decide)]
  rw [e2]
  dsimp only
  rw [if_pos e4]
  exact hko
set_option maxRecDepth 100000 in
set_option maxHeartbeats 4000000 in
theorem pl_596 (ko : Nat → (Nat → Int32) → (Nat → Int32) → (Nat → Int32) → (Nat → Int32) → (Nat → Int32) → Int32 → (Nat → Int32) → Int32 → (Nat → Int32) → Int32 → Int32 → Int32 → Int32 → Int32 → (Nat → Int32) → (Nat → Int32) → (Nat → Int32) → (Nat → Int32) → Int32 → (Nat → Int32) → Int32 → (Nat → Int32) → Int32 → Int32 → Int32 → Int32 → Int32 → (Nat → Int32) → (Nat → Int32) → (Nat → Int32) → (Nat → Int32) → (Nat → Int32) → (Nat → Int32) → (Nat → Int32) → (Nat → Int32) → Int32 → Int32 → Int32 → (Nat → Int32) → (Nat → Int32) → (Nat → Int64) → Int32 → (Nat → Int32) → (Nat → Int32) → (Nat → Int64) → Int32 → (Nat → Int32) → Int32 → Int32 → (Nat → Int32) → (Nat → Int32) → (Nat → Int32) → (Nat → Int32) → Int32 → (Nat → Int32) → (Nat → Int32) → Int32 → Option (Int32)) (xs : Nat → Int32) (hko : ∀ {x0 x1 x2 x3 x4 x5 x6 x7 x8 x9 x10 x11 x12 x13 x14 x15 x16 x17 x18 x19 x20 x21 x22 x23 x24 x25 x26 x27 x28 x29 x30 x31 x32 x33 x34 x35 x36 x37 x38 x39 x40 x41 x42 x43 x44 x45 x46 x47 x48 x49 x50 x51 x52 x53 x54}, ko 7 xs x0 x1 x2 x3 x4 x5 x6 x7 x8 x9 x10 x11 x12 x13 x14 x15 x16 x17 x18 x19 x20 x21 x22 x23 x24 x25 x26 x27 x28 x29 x30 x31 x32 x33 x34 x35 x36 x37 x38 x39 x40 x41 x42 x43 x44 x45 x46 x47 x48 x49 x50 x51 x52 x53 x54 ((0 : Int32) + (7 : Int32)) = some 1) : fl_law_596 ko 300 7 xs z0 z0 z0 z0 (0 : Int32) z0 (0 : Int32) z0 (0 : Int32) (0 : Int32) (0 : Int32) (0 : Int32) (1 : Int32) z0 z0 z0 z0 (0 : Int32) z0 (0 : Int32) z0 (0 : Int32) (0 : Int32) (0 : Int32) (0 : Int32) (1 : Int32) z0 z0 z0 z0 z0 z0 z0 z0 (0 : Int32) (0 : Int32) (0 : Int32) zM z0 zL (0 : Int32) zM z0 zL (0 : Int32) z0 (0 : Int32) (0 : Int32) zN z0 z0 z0 (0 : Int32) z0 z0 (0 : Int32) = some 1 := by
  obtain ⟨p, q, e1, e2, e3⟩ := pa_pulls (xs (((0 : Int32) + (1 : Int32))).toNatClampNeg) (xs (((0 : Int32) + (2 : Int32))).toNatClampNeg)
  have e4 : p.1 = q.1 := e3
  rw [fl_law_596]
  rw [if_neg (by decide)]
  rw [if_neg (by decide)]
  rw [e1]
  dsimp only
  rw [if_neg (by decide)]
  rw [if_neg (by decide)]
  rw [e2]
  dsimp only
  rw [if_pos e4]
  exact hko
set_option maxRecDepth 100000 in
set_option maxHeartbeats 4000000 in
theorem pl_629 (ko : Nat → (Nat → Int32) → (Nat → Int32) → (Nat → Int32) → (Nat → Int32) → (Nat → Int32) → Int32 → (Nat → Int32) → Int32 → (Nat → Int32) → Int32 → Int32 → Int32 → Int32 → Int32 → (Nat → Int32) → (Nat → Int32) → (Nat → Int32) → (Nat → Int32) → Int32 → (Nat → Int32) → Int32 → (Nat → Int32) → Int32 → Int32 → Int32 → Int32 → Int32 → (Nat → Int32) → (Nat → Int32) → (Nat → Int32) → (Nat → Int32) → (Nat → Int32) → (Nat → Int32) → (Nat → Int32) → (Nat → Int32) → Int32 → Int32 → Int32 → (Nat → Int32) → (Nat → Int32) → (Nat → Int64) → Int32 → (Nat → Int32) → (Nat → Int32) → (Nat → Int64) → Int32 → (Nat → Int32) → Int32 → Int32 → (Nat → Int32) → (Nat → Int32) → (Nat → Int32) → (Nat → Int32) → Int32 → (Nat → Int32) → (Nat → Int32) → Int32 → Option (Int32)) (xs : Nat → Int32) (hko : ∀ {x0 x1 x2 x3 x4 x5 x6 x7 x8 x9 x10 x11 x12 x13 x14 x15 x16 x17 x18 x19 x20 x21 x22 x23 x24 x25 x26 x27 x28 x29 x30 x31 x32 x33 x34 x35 x36 x37 x38 x39 x40 x41 x42 x43 x44 x45 x46 x47 x48 x49 x50 x51 x52 x53 x54}, ko 7 xs x0 x1 x2 x3 x4 x5 x6 x7 x8 x9 x10 x11 x12 x13 x14 x15 x16 x17 x18 x19 x20 x21 x22 x23 x24 x25 x26 x27 x28 x29 x30 x31 x32 x33 x34 x35 x36 x37 x38 x39 x40 x41 x42 x43 x44 x45 x46 x47 x48 x49 x50 x51 x52 x53 x54 ((0 : Int32) + (7 : Int32)) = some 1) : fl_law_629 ko 300 7 xs z0 z0 z0 z0 (0 : Int32) z0 (0 : Int32) z0 (0 : Int32) (0 : Int32) (0 : Int32) (0 : Int32) (1 : Int32) z0 z0 z0 z0 (0 : Int32) z0 (0 : Int32) z0 (0 : Int32) (0 : Int32) (0 : Int32) (0 : Int32) (1 : Int32) z0 z0 z0 z0 z0 z0 z0 z0 (0 : Int32) (0 : Int32) (0 : Int32) zM z0 zL (0 : Int32) zM z0 zL (0 : Int32) z0 (0 : Int32) (0 : Int32) zN z0 z0 z0 (0 : Int32) z0 z0 (0 : Int32) = some 1 := by
  obtain ⟨p, q, e1, e2, e3⟩ := pa_force (xs (((0 : Int32) + (1 : Int32))).toNatClampNeg) (xs (((0 : Int32) + (2 : Int32))).toNatClampNeg)
  have e4 : p.1 = q.1 := e3
  rw [fl_law_629]
  rw [if_neg (by decide)]
  rw [if_neg (by decide)]
  rw [e1]
  dsimp only
  rw [if_neg (by decide)]
  rw [if_neg (by decide)]
  rw [e2]
  dsimp only
  rw [if_pos e4]
  exact hko
set_option maxRecDepth 100000 in
set_option maxHeartbeats 4000000 in
theorem pl_662 (ko : Nat → (Nat → Int32) → (Nat → Int32) → (Nat → Int32) → (Nat → Int32) → (Nat → Int32) → Int32 → (Nat → Int32) → Int32 → (Nat → Int32) → Int32 → Int32 → Int32 → Int32 → Int32 → (Nat → Int32) → (Nat → Int32) → (Nat → Int32) → (Nat → Int32) → Int32 → (Nat → Int32) → Int32 → (Nat → Int32) → Int32 → Int32 → Int32 → Int32 → Int32 → (Nat → Int32) → (Nat → Int32) → (Nat → Int32) → (Nat → Int32) → (Nat → Int32) → (Nat → Int32) → (Nat → Int32) → (Nat → Int32) → Int32 → Int32 → Int32 → (Nat → Int32) → (Nat → Int32) → (Nat → Int64) → Int32 → (Nat → Int32) → (Nat → Int32) → (Nat → Int64) → Int32 → (Nat → Int32) → Int32 → Int32 → (Nat → Int32) → (Nat → Int32) → (Nat → Int32) → (Nat → Int32) → Int32 → (Nat → Int32) → (Nat → Int32) → Int32 → Option (Int32)) (xs : Nat → Int32) (hko : ∀ {x0 x1 x2 x3 x4 x5 x6 x7 x8 x9 x10 x11 x12 x13 x14 x15 x16 x17 x18 x19 x20 x21 x22 x23 x24 x25 x26 x27 x28 x29 x30 x31 x32 x33 x34 x35 x36 x37 x38 x39 x40 x41 x42 x43 x44 x45 x46 x47 x48 x49 x50 x51 x52 x53 x54}, ko 7 xs x0 x1 x2 x3 x4 x5 x6 x7 x8 x9 x10 x11 x12 x13 x14 x15 x16 x17 x18 x19 x20 x21 x22 x23 x24 x25 x26 x27 x28 x29 x30 x31 x32 x33 x34 x35 x36 x37 x38 x39 x40 x41 x42 x43 x44 x45 x46 x47 x48 x49 x50 x51 x52 x53 x54 ((0 : Int32) + (7 : Int32)) = some 1) : fl_law_662 ko 300 7 xs z0 z0 z0 z0 (0 : Int32) z0 (0 : Int32) z0 (0 : Int32) (0 : Int32) (0 : Int32) (0 : Int32) (1 : Int32) z0 z0 z0 z0 (0 : Int32) z0 (0 : Int32) z0 (0 : Int32) (0 : Int32) (0 : Int32) (0 : Int32) (1 : Int32) z0 z0 z0 z0 z0 z0 z0 z0 (0 : Int32) (0 : Int32) (0 : Int32) zM z0 zL (0 : Int32) zM z0 zL (0 : Int32) z0 (0 : Int32) (0 : Int32) zN z0 z0 z0 (0 : Int32) z0 z0 (0 : Int32) = some 1 := by
  obtain ⟨p, q, e1, e2, e3⟩ := pa_needs (xs (((0 : Int32) + (1 : Int32))).toNatClampNeg)
  have e4 : p = q := e3
  rw [fl_law_662]
  rw [if_neg (by decide)]
  rw [e1]
  dsimp only
  rw [if_neg (by decide)]
  rw [e2]
  dsimp only
  rw [if_pos e4]
  exact hko
set_option maxRecDepth 100000 in
set_option maxHeartbeats 4000000 in
theorem pl_685 (ko : Nat → (Nat → Int32) → (Nat → Int32) → (Nat → Int32) → (Nat → Int32) → (Nat → Int32) → Int32 → (Nat → Int32) → Int32 → (Nat → Int32) → Int32 → Int32 → Int32 → Int32 → Int32 → (Nat → Int32) → (Nat → Int32) → (Nat → Int32) → (Nat → Int32) → Int32 → (Nat → Int32) → Int32 → (Nat → Int32) → Int32 → Int32 → Int32 → Int32 → Int32 → (Nat → Int32) → (Nat → Int32) → (Nat → Int32) → (Nat → Int32) → (Nat → Int32) → (Nat → Int32) → (Nat → Int32) → (Nat → Int32) → Int32 → Int32 → Int32 → (Nat → Int32) → (Nat → Int32) → (Nat → Int64) → Int32 → (Nat → Int32) → (Nat → Int32) → (Nat → Int64) → Int32 → (Nat → Int32) → Int32 → Int32 → (Nat → Int32) → (Nat → Int32) → (Nat → Int32) → (Nat → Int32) → Int32 → (Nat → Int32) → (Nat → Int32) → Int32 → Option (Int32)) (xs : Nat → Int32) (hko : ∀ {x0 x1 x2 x3 x4 x5 x6 x7 x8 x9 x10 x11 x12 x13 x14 x15 x16 x17 x18 x19 x20 x21 x22 x23 x24 x25 x26 x27 x28 x29 x30 x31 x32 x33 x34 x35 x36 x37 x38 x39 x40 x41 x42 x43 x44 x45 x46 x47 x48 x49 x50 x51 x52 x53 x54}, ko 7 xs x0 x1 x2 x3 x4 x5 x6 x7 x8 x9 x10 x11 x12 x13 x14 x15 x16 x17 x18 x19 x20 x21 x22 x23 x24 x25 x26 x27 x28 x29 x30 x31 x32 x33 x34 x35 x36 x37 x38 x39 x40 x41 x42 x43 x44 x45 x46 x47 x48 x49 x50 x51 x52 x53 x54 ((0 : Int32) + (7 : Int32)) = some 1) : fl_law_685 ko 300 7 xs z0 z0 z0 z0 (0 : Int32) z0 (0 : Int32) z0 (0 : Int32) (0 : Int32) (0 : Int32) (0 : Int32) (1 : Int32) z0 z0 z0 z0 (0 : Int32) z0 (0 : Int32) z0 (0 : Int32) (0 : Int32) (0 : Int32) (0 : Int32) (1 : Int32) z0 z0 z0 z0 z0 z0 z0 z0 (0 : Int32) (0 : Int32) (0 : Int32) zM z0 zL (0 : Int32) zM z0 zL (0 : Int32) z0 (0 : Int32) (0 : Int32) zN z0 z0 z0 (0 : Int32) z0 z0 (0 : Int32) = some 1 := by
  obtain ⟨p, q, e1, e2, e3⟩ := pa_deep 
  have e4 : p.1 = q.1 := e3
  rw [fl_law_685]
  rw [e1]
  dsimp only
  rw [e2]
  dsimp only
  rw [if_pos e4]
  exact hko
set_option maxRecDepth 100000 in
set_option maxHeartbeats 4000000 in
theorem pl_698 (ko : Nat → (Nat → Int32) → (Nat → Int32) → (Nat → Int32) → (Nat → Int32) → (Nat → Int32) → Int32 → (Nat → Int32) → Int32 → (Nat → Int32) → Int32 → Int32 → Int32 → Int32 → Int32 → (Nat → Int32) → (Nat → Int32) → (Nat → Int32) → (Nat → Int32) → Int32 → (Nat → Int32) → Int32 → (Nat → Int32) → Int32 → Int32 → Int32 → Int32 → Int32 → (Nat → Int32) → (Nat → Int32) → (Nat → Int32) → (Nat → Int32) → (Nat → Int32) → (Nat → Int32) → (Nat → Int32) → (Nat → Int32) → Int32 → Int32 → Int32 → (Nat → Int32) → (Nat → Int32) → (Nat → Int64) → Int32 → (Nat → Int32) → (Nat → Int32) → (Nat → Int64) → Int32 → (Nat → Int32) → Int32 → Int32 → (Nat → Int32) → (Nat → Int32) → (Nat → Int32) → (Nat → Int32) → Int32 → (Nat → Int32) → (Nat → Int32) → Int32 → Option (Int32)) (xs : Nat → Int32) (hko : ∀ {x0 x1 x2 x3 x4 x5 x6 x7 x8 x9 x10 x11 x12 x13 x14 x15 x16 x17 x18 x19 x20 x21 x22 x23 x24 x25 x26 x27 x28 x29 x30 x31 x32 x33 x34 x35 x36 x37 x38 x39 x40 x41 x42 x43 x44 x45 x46 x47 x48 x49 x50 x51 x52 x53 x54}, ko 7 xs x0 x1 x2 x3 x4 x5 x6 x7 x8 x9 x10 x11 x12 x13 x14 x15 x16 x17 x18 x19 x20 x21 x22 x23 x24 x25 x26 x27 x28 x29 x30 x31 x32 x33 x34 x35 x36 x37 x38 x39 x40 x41 x42 x43 x44 x45 x46 x47 x48 x49 x50 x51 x52 x53 x54 ((0 : Int32) + (7 : Int32)) = some 1) : fl_law_698 ko 300 7 xs z0 z0 z0 z0 (0 : Int32) z0 (0 : Int32) z0 (0 : Int32) (0 : Int32) (0 : Int32) (0 : Int32) (1 : Int32) z0 z0 z0 z0 (0 : Int32) z0 (0 : Int32) z0 (0 : Int32) (0 : Int32) (0 : Int32) (0 : Int32) (1 : Int32) z0 z0 z0 z0 z0 z0 z0 z0 (0 : Int32) (0 : Int32) (0 : Int32) zM z0 zL (0 : Int32) zM z0 zL (0 : Int32) z0 (0 : Int32) (0 : Int32) zN z0 z0 z0 (0 : Int32) z0 z0 (0 : Int32) = some 1 := by
  obtain ⟨p, q, e1, e2, e3⟩ := pa_frees (xs (((0 : Int32) + (1 : Int32))).toNatClampNeg) (xs (((0 : Int32) + (2 : Int32))).toNatClampNeg)
  have e4 : p = q := e3
  rw [fl_law_698]
  rw [if_neg (by decide)]
  rw [if_neg (by decide)]
  rw [e1]
  dsimp only
  rw [if_neg (by decide)]
  rw [if_neg (by decide)]
  rw [e2]
  dsimp only
  rw [if_pos e4]
  exact hko
set_option maxRecDepth 100000 in
set_option maxHeartbeats 4000000 in
theorem pl_731 (ko : Nat → (Nat → Int32) → (Nat → Int32) → (Nat → Int32) → (Nat → Int32) → (Nat → Int32) → Int32 → (Nat → Int32) → Int32 → (Nat → Int32) → Int32 → Int32 → Int32 → Int32 → Int32 → (Nat → Int32) → (Nat → Int32) → (Nat → Int32) → (Nat → Int32) → Int32 → (Nat → Int32) → Int32 → (Nat → Int32) → Int32 → Int32 → Int32 → Int32 → Int32 → (Nat → Int32) → (Nat → Int32) → (Nat → Int32) → (Nat → Int32) → (Nat → Int32) → (Nat → Int32) → (Nat → Int32) → (Nat → Int32) → Int32 → Int32 → Int32 → (Nat → Int32) → (Nat → Int32) → (Nat → Int64) → Int32 → (Nat → Int32) → (Nat → Int32) → (Nat → Int64) → Int32 → (Nat → Int32) → Int32 → Int32 → (Nat → Int32) → (Nat → Int32) → (Nat → Int32) → (Nat → Int32) → Int32 → (Nat → Int32) → (Nat → Int32) → Int32 → Option (Int32)) (xs : Nat → Int32) (hko : ∀ {x0 x1 x2 x3 x4 x5 x6 x7 x8 x9 x10 x11 x12 x13 x14 x15 x16 x17 x18 x19 x20 x21 x22 x23 x24 x25 x26 x27 x28 x29 x30 x31 x32 x33 x34 x35 x36 x37 x38 x39 x40 x41 x42 x43 x44 x45 x46 x47 x48 x49 x50 x51 x52 x53 x54}, ko 7 xs x0 x1 x2 x3 x4 x5 x6 x7 x8 x9 x10 x11 x12 x13 x14 x15 x16 x17 x18 x19 x20 x21 x22 x23 x24 x25 x26 x27 x28 x29 x30 x31 x32 x33 x34 x35 x36 x37 x38 x39 x40 x41 x42 x43 x44 x45 x46 x47 x48 x49 x50 x51 x52 x53 x54 ((0 : Int32) + (7 : Int32)) = some 1) : fl_law_731 ko 300 7 xs z0 z0 z0 z0 (0 : Int32) z0 (0 : Int32) z0 (0 : Int32) (0 : Int32) (0 : Int32) (0 : Int32) (1 : Int32) z0 z0 z0 z0 (0 : Int32) z0 (0 : Int32) z0 (0 : Int32) (0 : Int32) (0 : Int32) (0 : Int32) (1 : Int32) z0 z0 z0 z0 z0 z0 z0 z0 (0 : Int32) (0 : Int32) (0 : Int32) zM z0 zL (0 : Int32) zM z0 zL (0 : Int32) z0 (0 : Int32) (0 : Int32) zN z0 z0 z0 (0 : Int32) z0 z0 (0 : Int32) = some 1 := by
  obtain ⟨p, q, e1, e2, e3⟩ := pa_orders (xs (((0 : Int32) + (1 : Int32))).toNatClampNeg)
  have e4 : p.1 = q.1 := e3
  rw [fl_law_731]
  rw [if_neg (by decide)]
  rw [e1]
  dsimp only
  rw [if_neg (by decide)]
  rw [e2]
  dsimp only
  rw [if_pos e4]
  exact hko
set_option maxRecDepth 100000 in
set_option maxHeartbeats 4000000 in
theorem pl_754 (ko : Nat → (Nat → Int32) → (Nat → Int32) → (Nat → Int32) → (Nat → Int32) → (Nat → Int32) → Int32 → (Nat → Int32) → Int32 → (Nat → Int32) → Int32 → Int32 → Int32 → Int32 → Int32 → (Nat → Int32) → (Nat → Int32) → (Nat → Int32) → (Nat → Int32) → Int32 → (Nat → Int32) → Int32 → (Nat → Int32) → Int32 → Int32 → Int32 → Int32 → Int32 → (Nat → Int32) → (Nat → Int32) → (Nat → Int32) → (Nat → Int32) → (Nat → Int32) → (Nat → Int32) → (Nat → Int32) → (Nat → Int32) → Int32 → Int32 → Int32 → (Nat → Int32) → (Nat → Int32) → (Nat → Int64) → Int32 → (Nat → Int32) → (Nat → Int32) → (Nat → Int64) → Int32 → (Nat → Int32) → Int32 → Int32 → (Nat → Int32) → (Nat → Int32) → (Nat → Int32) → (Nat → Int32) → Int32 → (Nat → Int32) → (Nat → Int32) → Int32 → Option (Int32)) (xs : Nat → Int32) (hko : ∀ {x0 x1 x2 x3 x4 x5 x6 x7 x8 x9 x10 x11 x12 x13 x14 x15 x16 x17 x18 x19 x20 x21 x22 x23 x24 x25 x26 x27 x28 x29 x30 x31 x32 x33 x34 x35 x36 x37 x38 x39 x40 x41 x42 x43 x44 x45 x46 x47 x48 x49 x50 x51 x52 x53 x54}, ko 7 xs x0 x1 x2 x3 x4 x5 x6 x7 x8 x9 x10 x11 x12 x13 x14 x15 x16 x17 x18 x19 x20 x21 x22 x23 x24 x25 x26 x27 x28 x29 x30 x31 x32 x33 x34 x35 x36 x37 x38 x39 x40 x41 x42 x43 x44 x45 x46 x47 x48 x49 x50 x51 x52 x53 x54 ((0 : Int32) + (7 : Int32)) = some 1) : fl_law_754 ko 300 7 xs z0 z0 z0 z0 (0 : Int32) z0 (0 : Int32) z0 (0 : Int32) (0 : Int32) (0 : Int32) (0 : Int32) (1 : Int32) z0 z0 z0 z0 (0 : Int32) z0 (0 : Int32) z0 (0 : Int32) (0 : Int32) (0 : Int32) (0 : Int32) (1 : Int32) z0 z0 z0 z0 z0 z0 z0 z0 (0 : Int32) (0 : Int32) (0 : Int32) zM z0 zL (0 : Int32) zM z0 zL (0 : Int32) z0 (0 : Int32) (0 : Int32) zN z0 z0 z0 (0 : Int32) z0 z0 (0 : Int32) = some 1 := by
  obtain ⟨p, q, e1, e2, e3⟩ := pa_ahead (xs (((0 : Int32) + (1 : Int32))).toNatClampNeg) (xs (((0 : Int32) + (2 : Int32))).toNatClampNeg) (xs (((0 : Int32) + (3 : Int32))).toNatClampNeg)
  have e4 : p.1 = q.1 := e3
  rw [fl_law_754]
  rw [if_neg (by decide)]
  rw [if_neg (by decide)]
  rw [if_neg (by decide)]
  rw [e1]
  dsimp only
  rw [if_neg (by decide)]
  rw [if_neg (by decide)]
  rw [if_neg (by decide)]
  rw [e2]
  dsimp only
  rw [if_pos e4]
  exact hko
set_option maxRecDepth 100000 in
set_option maxHeartbeats 4000000 in
theorem pl_797 (ko : Nat → (Nat → Int32) → (Nat → Int32) → (Nat → Int32) → (Nat → Int32) → (Nat → Int32) → Int32 → (Nat → Int32) → Int32 → (Nat → Int32) → Int32 → Int32 → Int32 → Int32 → Int32 → (Nat → Int32) → (Nat → Int32) → (Nat → Int32) → (Nat → Int32) → Int32 → (Nat → Int32) → Int32 → (Nat → Int32) → Int32 → Int32 → Int32 → Int32 → Int32 → (Nat → Int32) → (Nat → Int32) → (Nat → Int32) → (Nat → Int32) → (Nat → Int32) → (Nat → Int32) → (Nat → Int32) → (Nat → Int32) → Int32 → Int32 → Int32 → (Nat → Int32) → (Nat → Int32) → (Nat → Int64) → Int32 → (Nat → Int32) → (Nat → Int32) → (Nat → Int64) → Int32 → (Nat → Int32) → Int32 → Int32 → (Nat → Int32) → (Nat → Int32) → (Nat → Int32) → (Nat → Int32) → Int32 → (Nat → Int32) → (Nat → Int32) → Int32 → Option (Int32)) (xs : Nat → Int32) (hko : ∀ {x0 x1 x2 x3 x4 x5 x6 x7 x8 x9 x10 x11 x12 x13 x14 x15 x16 x17 x18 x19 x20 x21 x22 x23 x24 x25 x26 x27 x28 x29 x30 x31 x32 x33 x34 x35 x36 x37 x38 x39 x40 x41 x42 x43 x44 x45 x46 x47 x48 x49 x50 x51 x52 x53 x54}, ko 7 xs x0 x1 x2 x3 x4 x5 x6 x7 x8 x9 x10 x11 x12 x13 x14 x15 x16 x17 x18 x19 x20 x21 x22 x23 x24 x25 x26 x27 x28 x29 x30 x31 x32 x33 x34 x35 x36 x37 x38 x39 x40 x41 x42 x43 x44 x45 x46 x47 x48 x49 x50 x51 x52 x53 x54 ((0 : Int32) + (7 : Int32)) = some 1) : fl_law_797 ko 300 7 xs z0 z0 z0 z0 (0 : Int32) z0 (0 : Int32) z0 (0 : Int32) (0 : Int32) (0 : Int32) (0 : Int32) (1 : Int32) z0 z0 z0 z0 (0 : Int32) z0 (0 : Int32) z0 (0 : Int32) (0 : Int32) (0 : Int32) (0 : Int32) (1 : Int32) z0 z0 z0 z0 z0 z0 z0 z0 (0 : Int32) (0 : Int32) (0 : Int32) zM z0 zL (0 : Int32) zM z0 zL (0 : Int32) z0 (0 : Int32) (0 : Int32) zN z0 z0 z0 (0 : Int32) z0 z0 (0 : Int32) = some 1 := by
  obtain ⟨p, q, e1, e2, e3⟩ := pa_game (xs (((0 : Int32) + (1 : Int32))).toNatClampNeg) (xs (((0 : Int32) + (2 : Int32))).toNatClampNeg)
  have e4 : p = q.1 := e3
  rw [fl_law_797]
  rw [if_neg (by decide)]
  rw [if_neg (by decide)]
  rw [e1]
  dsimp only
  rw [if_neg (by decide)]
  rw [if_neg (by decide)]
  rw [e2]
  dsimp only
  rw [if_pos e4]
  exact hko
set_option maxRecDepth 100000 in
set_option maxHeartbeats 4000000 in
theorem pl_830 (ko : Nat → (Nat → Int32) → (Nat → Int32) → (Nat → Int32) → (Nat → Int32) → (Nat → Int32) → Int32 → (Nat → Int32) → Int32 → (Nat → Int32) → Int32 → Int32 → Int32 → Int32 → Int32 → (Nat → Int32) → (Nat → Int32) → (Nat → Int32) → (Nat → Int32) → Int32 → (Nat → Int32) → Int32 → (Nat → Int32) → Int32 → Int32 → Int32 → Int32 → Int32 → (Nat → Int32) → (Nat → Int32) → (Nat → Int32) → (Nat → Int32) → (Nat → Int32) → (Nat → Int32) → (Nat → Int32) → (Nat → Int32) → Int32 → Int32 → Int32 → (Nat → Int32) → (Nat → Int32) → (Nat → Int64) → Int32 → (Nat → Int32) → (Nat → Int32) → (Nat → Int64) → Int32 → (Nat → Int32) → Int32 → Int32 → (Nat → Int32) → (Nat → Int32) → (Nat → Int32) → (Nat → Int32) → Int32 → (Nat → Int32) → (Nat → Int32) → Int32 → Option (Int32)) (xs : Nat → Int32) (hko : ∀ {x0 x1 x2 x3 x4 x5 x6 x7 x8 x9 x10 x11 x12 x13 x14 x15 x16 x17 x18 x19 x20 x21 x22 x23 x24 x25 x26 x27 x28 x29 x30 x31 x32 x33 x34 x35 x36 x37 x38 x39 x40 x41 x42 x43 x44 x45 x46 x47 x48 x49 x50 x51 x52 x53 x54}, ko 7 xs x0 x1 x2 x3 x4 x5 x6 x7 x8 x9 x10 x11 x12 x13 x14 x15 x16 x17 x18 x19 x20 x21 x22 x23 x24 x25 x26 x27 x28 x29 x30 x31 x32 x33 x34 x35 x36 x37 x38 x39 x40 x41 x42 x43 x44 x45 x46 x47 x48 x49 x50 x51 x52 x53 x54 ((0 : Int32) + (7 : Int32)) = some 1) : fl_law_830 ko 300 7 xs z0 z0 z0 z0 (0 : Int32) z0 (0 : Int32) z0 (0 : Int32) (0 : Int32) (0 : Int32) (0 : Int32) (1 : Int32) z0 z0 z0 z0 (0 : Int32) z0 (0 : Int32) z0 (0 : Int32) (0 : Int32) (0 : Int32) (0 : Int32) (1 : Int32) z0 z0 z0 z0 z0 z0 z0 z0 (0 : Int32) (0 : Int32) (0 : Int32) zM z0 zL (0 : Int32) zM z0 zL (0 : Int32) z0 (0 : Int32) (0 : Int32) zN z0 z0 z0 (0 : Int32) z0 z0 (0 : Int32) = some 1 := by
  obtain ⟨p, q, e1, e2, e3⟩ := pa_cuts (xs (((0 : Int32) + (1 : Int32))).toNatClampNeg) (xs (((0 : Int32) + (2 : Int32))).toNatClampNeg) (xs (((0 : Int32) + (3 : Int32))).toNatClampNeg)
  have e4 : p = q.1 := e3
  rw [fl_law_830]
  rw [if_neg (by decide)]
  rw [if_neg (by decide)]
  rw [if_neg (by decide)]
  rw [e1]
  dsimp only
  rw [if_neg (by decide)]
  rw [if_neg (by decide)]
  rw [if_neg (by decide)]
  rw [e2]
  dsimp only
  rw [if_pos e4]
  exact hko
set_option maxRecDepth 100000 in
set_option maxHeartbeats 4000000 in
theorem pl_873 (ko : Nat → (Nat → Int32) → (Nat → Int32) → (Nat → Int32) → (Nat → Int32) → (Nat → Int32) → Int32 → (Nat → Int32) → Int32 → (Nat → Int32) → Int32 → Int32 → Int32 → Int32 → Int32 → (Nat → Int32) → (Nat → Int32) → (Nat → Int32) → (Nat → Int32) → Int32 → (Nat → Int32) → Int32 → (Nat → Int32) → Int32 → Int32 → Int32 → Int32 → Int32 → (Nat → Int32) → (Nat → Int32) → (Nat → Int32) → (Nat → Int32) → (Nat → Int32) → (Nat → Int32) → (Nat → Int32) → (Nat → Int32) → Int32 → Int32 → Int32 → (Nat → Int32) → (Nat → Int32) → (Nat → Int64) → Int32 → (Nat → Int32) → (Nat → Int32) → (Nat → Int64) → Int32 → (Nat → Int32) → Int32 → Int32 → (Nat → Int32) → (Nat → Int32) → (Nat → Int32) → (Nat → Int32) → Int32 → (Nat → Int32) → (Nat → Int32) → Int32 → Option (Int32)) (xs : Nat → Int32) (hko : ∀ {x0 x1 x2 x3 x4 x5 x6 x7 x8 x9 x10 x11 x12 x13 x14 x15 x16 x17 x18 x19 x20 x21 x22 x23 x24 x25 x26 x27 x28 x29 x30 x31 x32 x33 x34 x35 x36 x37 x38 x39 x40 x41 x42 x43 x44 x45 x46 x47 x48 x49 x50 x51 x52 x53 x54}, ko 7 xs x0 x1 x2 x3 x4 x5 x6 x7 x8 x9 x10 x11 x12 x13 x14 x15 x16 x17 x18 x19 x20 x21 x22 x23 x24 x25 x26 x27 x28 x29 x30 x31 x32 x33 x34 x35 x36 x37 x38 x39 x40 x41 x42 x43 x44 x45 x46 x47 x48 x49 x50 x51 x52 x53 x54 ((0 : Int32) + (7 : Int32)) = some 1) : fl_law_873 ko 300 7 xs z0 z0 z0 z0 (0 : Int32) z0 (0 : Int32) z0 (0 : Int32) (0 : Int32) (0 : Int32) (0 : Int32) (1 : Int32) z0 z0 z0 z0 (0 : Int32) z0 (0 : Int32) z0 (0 : Int32) (0 : Int32) (0 : Int32) (0 : Int32) (1 : Int32) z0 z0 z0 z0 z0 z0 z0 z0 (0 : Int32) (0 : Int32) (0 : Int32) zM z0 zL (0 : Int32) zM z0 zL (0 : Int32) z0 (0 : Int32) (0 : Int32) zN z0 z0 z0 (0 : Int32) z0 z0 (0 : Int32) = some 1 := by
  obtain ⟨p, q, e1, e2, e3⟩ := pa_weather (xs (((0 : Int32) + (1 : Int32))).toNatClampNeg) (xs (((0 : Int32) + (2 : Int32))).toNatClampNeg)
  have e4 : p = q.1 := e3
  rw [fl_law_873]
  rw [if_neg (by decide)]
  rw [if_neg (by decide)]
  rw [e1]
  dsimp only
  rw [if_neg (by decide)]
  rw [if_neg (by decide)]
  rw [e2]
  dsimp only
  rw [if_pos e4]
  exact hko
set_option maxRecDepth 100000 in
set_option maxHeartbeats 4000000 in
theorem pl_906 (ko : Nat → (Nat → Int32) → (Nat → Int32) → (Nat → Int32) → (Nat → Int32) → (Nat → Int32) → Int32 → (Nat → Int32) → Int32 → (Nat → Int32) → Int32 → Int32 → Int32 → Int32 → Int32 → (Nat → Int32) → (Nat → Int32) → (Nat → Int32) → (Nat → Int32) → Int32 → (Nat → Int32) → Int32 → (Nat → Int32) → Int32 → Int32 → Int32 → Int32 → Int32 → (Nat → Int32) → (Nat → Int32) → (Nat → Int32) → (Nat → Int32) → (Nat → Int32) → (Nat → Int32) → (Nat → Int32) → (Nat → Int32) → Int32 → Int32 → Int32 → (Nat → Int32) → (Nat → Int32) → (Nat → Int64) → Int32 → (Nat → Int32) → (Nat → Int32) → (Nat → Int64) → Int32 → (Nat → Int32) → Int32 → Int32 → (Nat → Int32) → (Nat → Int32) → (Nat → Int32) → (Nat → Int32) → Int32 → (Nat → Int32) → (Nat → Int32) → Int32 → Option (Int32)) (xs : Nat → Int32) (hko : ∀ {x0 x1 x2 x3 x4 x5 x6 x7 x8 x9 x10 x11 x12 x13 x14 x15 x16 x17 x18 x19 x20 x21 x22 x23 x24 x25 x26 x27 x28 x29 x30 x31 x32 x33 x34 x35 x36 x37 x38 x39 x40 x41 x42 x43 x44 x45 x46 x47 x48 x49 x50 x51 x52 x53 x54}, ko 7 xs x0 x1 x2 x3 x4 x5 x6 x7 x8 x9 x10 x11 x12 x13 x14 x15 x16 x17 x18 x19 x20 x21 x22 x23 x24 x25 x26 x27 x28 x29 x30 x31 x32 x33 x34 x35 x36 x37 x38 x39 x40 x41 x42 x43 x44 x45 x46 x47 x48 x49 x50 x51 x52 x53 x54 ((0 : Int32) + (7 : Int32)) = some 1) : fl_law_906 ko 300 7 xs z0 z0 z0 z0 (0 : Int32) z0 (0 : Int32) z0 (0 : Int32) (0 : Int32) (0 : Int32) (0 : Int32) (1 : Int32) z0 z0 z0 z0 (0 : Int32) z0 (0 : Int32) z0 (0 : Int32) (0 : Int32) (0 : Int32) (0 : Int32) (1 : Int32) z0 z0 z0 z0 z0 z0 z0 z0 (0 : Int32) (0 : Int32) (0 : Int32) zM z0 zL (0 : Int32) zM z0 zL (0 : Int32) z0 (0 : Int32) (0 : Int32) zN z0 z0 z0 (0 : Int32) z0 z0 (0 : Int32) = some 1 := by
  obtain ⟨p, q, e1, e2, e3⟩ := pa_rotten (xs (((0 : Int32) + (1 : Int32))).toNatClampNeg) (xs (((0 : Int32) + (2 : Int32))).toNatClampNeg) (xs (((0 : Int32) + (3 : Int32))).toNatClampNeg) (xs (((0 : Int32) + (4 : Int32))).toNatClampNeg)
  have e4 : p = q.1 := e3
  rw [fl_law_906]
  rw [if_neg (by decide)]
  rw [if_neg (by decide)]
  rw [if_neg (by decide)]
  rw [if_neg (by decide)]
  rw [e1]
  dsimp only
  rw [if_neg (by decide)]
  rw [if_neg (by decide)]
  rw [if_neg (by decide)]
  rw [if_neg (by decide)]
  rw [e2]
  dsimp only
  rw [if_pos e4]
  exact hko
set_option maxRecDepth 100000 in
set_option maxHeartbeats 4000000 in
theorem pl_959 (ko : Nat → (Nat → Int32) → (Nat → Int32) → (Nat → Int32) → (Nat → Int32) → (Nat → Int32) → Int32 → (Nat → Int32) → Int32 → (Nat → Int32) → Int32 → Int32 → Int32 → Int32 → Int32 → (Nat → Int32) → (Nat → Int32) → (Nat → Int32) → (Nat → Int32) → Int32 → (Nat → Int32) → Int32 → (Nat → Int32) → Int32 → Int32 → Int32 → Int32 → Int32 → (Nat → Int32) → (Nat → Int32) → (Nat → Int32) → (Nat → Int32) → (Nat → Int32) → (Nat → Int32) → (Nat → Int32) → (Nat → Int32) → Int32 → Int32 → Int32 → (Nat → Int32) → (Nat → Int32) → (Nat → Int64) → Int32 → (Nat → Int32) → (Nat → Int32) → (Nat → Int64) → Int32 → (Nat → Int32) → Int32 → Int32 → (Nat → Int32) → (Nat → Int32) → (Nat → Int32) → (Nat → Int32) → Int32 → (Nat → Int32) → (Nat → Int32) → Int32 → Option (Int32)) (xs : Nat → Int32) (hko : ∀ {x0 x1 x2 x3 x4 x5 x6 x7 x8 x9 x10 x11 x12 x13 x14 x15 x16 x17 x18 x19 x20 x21 x22 x23 x24 x25 x26 x27 x28 x29 x30 x31 x32 x33 x34 x35 x36 x37 x38 x39 x40 x41 x42 x43 x44 x45 x46 x47 x48 x49 x50 x51 x52 x53 x54}, ko 7 xs x0 x1 x2 x3 x4 x5 x6 x7 x8 x9 x10 x11 x12 x13 x14 x15 x16 x17 x18 x19 x20 x21 x22 x23 x24 x25 x26 x27 x28 x29 x30 x31 x32 x33 x34 x35 x36 x37 x38 x39 x40 x41 x42 x43 x44 x45 x46 x47 x48 x49 x50 x51 x52 x53 x54 ((0 : Int32) + (7 : Int32)) = some 1) : fl_law_959 ko 300 7 xs z0 z0 z0 z0 (0 : Int32) z0 (0 : Int32) z0 (0 : Int32) (0 : Int32) (0 : Int32) (0 : Int32) (1 : Int32) z0 z0 z0 z0 (0 : Int32) z0 (0 : Int32) z0 (0 : Int32) (0 : Int32) (0 : Int32) (0 : Int32) (1 : Int32) z0 z0 z0 z0 z0 z0 z0 z0 (0 : Int32) (0 : Int32) (0 : Int32) zM z0 zL (0 : Int32) zM z0 zL (0 : Int32) z0 (0 : Int32) (0 : Int32) zN z0 z0 z0 (0 : Int32) z0 z0 (0 : Int32) = some 1 := by
  obtain ⟨p, q, e1, e2, e3⟩ := pa_image 
  have e4 : p.1 = q.1 := e3
  rw [fl_law_959]
  rw [e1]
  dsimp only
  rw [e2]
  dsimp only
  rw [if_pos e4]
  exact hko
set_option maxRecDepth 100000 in
set_option maxHeartbeats 4000000 in
theorem pl_972 (ko : Nat → (Nat → Int32) → (Nat → Int32) → (Nat → Int32) → (Nat → Int32) → (Nat → Int32) → Int32 → (Nat → Int32) → Int32 → (Nat → Int32) → Int32 → Int32 → Int32 → Int32 → Int32 → (Nat → Int32) → (Nat → Int32) → (Nat → Int32) → (Nat → Int32) → Int32 → (Nat → Int32) → Int32 → (Nat → Int32) → Int32 → Int32 → Int32 → Int32 → Int32 → (Nat → Int32) → (Nat → Int32) → (Nat → Int32) → (Nat → Int32) → (Nat → Int32) → (Nat → Int32) → (Nat → Int32) → (Nat → Int32) → Int32 → Int32 → Int32 → (Nat → Int32) → (Nat → Int32) → (Nat → Int64) → Int32 → (Nat → Int32) → (Nat → Int32) → (Nat → Int64) → Int32 → (Nat → Int32) → Int32 → Int32 → (Nat → Int32) → (Nat → Int32) → (Nat → Int32) → (Nat → Int32) → Int32 → (Nat → Int32) → (Nat → Int32) → Int32 → Option (Int32)) (xs : Nat → Int32) (hko : ∀ {x0 x1 x2 x3 x4 x5 x6 x7 x8 x9 x10 x11 x12 x13 x14 x15 x16 x17 x18 x19 x20 x21 x22 x23 x24 x25 x26 x27 x28 x29 x30 x31 x32 x33 x34 x35 x36 x37 x38 x39 x40 x41 x42 x43 x44 x45 x46 x47 x48 x49 x50 x51 x52 x53 x54}, ko 7 xs x0 x1 x2 x3 x4 x5 x6 x7 x8 x9 x10 x11 x12 x13 x14 x15 x16 x17 x18 x19 x20 x21 x22 x23 x24 x25 x26 x27 x28 x29 x30 x31 x32 x33 x34 x35 x36 x37 x38 x39 x40 x41 x42 x43 x44 x45 x46 x47 x48 x49 x50 x51 x52 x53 x54 ((0 : Int32) + (7 : Int32)) = some 1) : fl_law_972 ko 300 7 xs z0 z0 z0 z0 (0 : Int32) z0 (0 : Int32) z0 (0 : Int32) (0 : Int32) (0 : Int32) (0 : Int32) (1 : Int32) z0 z0 z0 z0 (0 : Int32) z0 (0 : Int32) z0 (0 : Int32) (0 : Int32) (0 : Int32) (0 : Int32) (1 : Int32) z0 z0 z0 z0 z0 z0 z0 z0 (0 : Int32) (0 : Int32) (0 : Int32) zM z0 zL (0 : Int32) zM z0 zL (0 : Int32) z0 (0 : Int32) (0 : Int32) zN z0 z0 z0 (0 : Int32) z0 z0 (0 : Int32) = some 1 := by
  obtain ⟨p, q, e1, e2, e3⟩ := pa_restore 
  have e4 : p.1 = q.1 := e3
  rw [fl_law_972]
  rw [e1]
  dsimp only
  rw [e2]
  dsimp only
  rw [if_pos e4]
  exact hko
set_option maxRecDepth 100000 in
set_option maxHeartbeats 4000000 in
theorem pl_985 (ko : Nat → (Nat → Int32) → (Nat → Int32) → (Nat → Int32) → (Nat → Int32) → (Nat → Int32) → Int32 → (Nat → Int32) → Int32 → (Nat → Int32) → Int32 → Int32 → Int32 → Int32 → Int32 → (Nat → Int32) → (Nat → Int32) → (Nat → Int32) → (Nat → Int32) → Int32 → (Nat → Int32) → Int32 → (Nat → Int32) → Int32 → Int32 → Int32 → Int32 → Int32 → (Nat → Int32) → (Nat → Int32) → (Nat → Int32) → (Nat → Int32) → (Nat → Int32) → (Nat → Int32) → (Nat → Int32) → (Nat → Int32) → Int32 → Int32 → Int32 → (Nat → Int32) → (Nat → Int32) → (Nat → Int64) → Int32 → (Nat → Int32) → (Nat → Int32) → (Nat → Int64) → Int32 → (Nat → Int32) → Int32 → Int32 → (Nat → Int32) → (Nat → Int32) → (Nat → Int32) → (Nat → Int32) → Int32 → (Nat → Int32) → (Nat → Int32) → Int32 → Option (Int32)) (xs : Nat → Int32) (hko : ∀ {x0 x1 x2 x3 x4 x5 x6 x7 x8 x9 x10 x11 x12 x13 x14 x15 x16 x17 x18 x19 x20 x21 x22 x23 x24 x25 x26 x27 x28 x29 x30 x31 x32 x33 x34 x35 x36 x37 x38 x39 x40 x41 x42 x43 x44 x45 x46 x47 x48 x49 x50 x51 x52 x53 x54}, ko 7 xs x0 x1 x2 x3 x4 x5 x6 x7 x8 x9 x10 x11 x12 x13 x14 x15 x16 x17 x18 x19 x20 x21 x22 x23 x24 x25 x26 x27 x28 x29 x30 x31 x32 x33 x34 x35 x36 x37 x38 x39 x40 x41 x42 x43 x44 x45 x46 x47 x48 x49 x50 x51 x52 x53 x54 ((0 : Int32) + (7 : Int32)) = some 1) : fl_law_985 ko 300 7 xs z0 z0 z0 z0 (0 : Int32) z0 (0 : Int32) z0 (0 : Int32) (0 : Int32) (0 : Int32) (0 : Int32) (1 : Int32) z0 z0 z0 z0 (0 : Int32) z0 (0 : Int32) z0 (0 : Int32) (0 : Int32) (0 : Int32) (0 : Int32) (1 : Int32) z0 z0 z0 z0 z0 z0 z0 z0 (0 : Int32) (0 : Int32) (0 : Int32) zM z0 zL (0 : Int32) zM z0 zL (0 : Int32) z0 (0 : Int32) (0 : Int32) zN z0 z0 z0 (0 : Int32) z0 z0 (0 : Int32) = some 1 := by
  obtain ⟨p, q, e1, e2, e3⟩ := pa_felt (xs (((0 : Int32) + (1 : Int32))).toNatClampNeg) (xs (((0 : Int32) + (2 : Int32))).toNatClampNeg) (xs (((0 : Int32) + (3 : Int32))).toNatClampNeg) (xs (((0 : Int32) + (4 : Int32))).toNatClampNeg) (xs (((0 : Int32) + (5 : Int32))).toNatClampNeg) (xs (((0 : Int32) + (6 : Int32))).toNatClampNeg)
  have e4 : p.1 = q.1 := e3
  rw [fl_law_985]
  rw [if_neg (by decide)]
  rw [if_neg (by decide)]
  rw [if_neg (by decide)]
  rw [if_neg (by decide)]
  rw [if_neg (by decide)]
  rw [if_neg (by decide)]
  rw [e1]
  dsimp only
  rw [if_neg (by decide)]
  rw [if_neg (by decide)]
  rw [if_neg (by decide)]
  rw [if_neg (by decide)]
  rw [if_neg (by decide)]
  rw [if_neg (by decide)]
  rw [e2]
  dsimp only
  rw [if_pos e4]
  exact hko
set_option maxRecDepth 100000 in
set_option maxHeartbeats 4000000 in
theorem pl_1060 (ko : Nat → (Nat → Int32) → (Nat → Int32) → (Nat → Int32) → (Nat → Int32) → (Nat → Int32) → Int32 → (Nat → Int32) → Int32 → (Nat → Int32) → Int32 → Int32 → Int32 → Int32 → Int32 → (Nat → Int32) → (Nat → Int32) → (Nat → Int32) → (Nat → Int32) → Int32 → (Nat → Int32) → Int32 → (Nat → Int32) → Int32 → Int32 → Int32 → Int32 → Int32 → (Nat → Int32) → (Nat → Int32) → (Nat → Int32) → (Nat → Int32) → (Nat → Int32) → (Nat → Int32) → (Nat → Int32) → (Nat → Int32) → Int32 → Int32 → Int32 → (Nat → Int32) → (Nat → Int32) → (Nat → Int64) → Int32 → (Nat → Int32) → (Nat → Int32) → (Nat → Int64) → Int32 → (Nat → Int32) → Int32 → Int32 → (Nat → Int32) → (Nat → Int32) → (Nat → Int32) → (Nat → Int32) → Int32 → (Nat → Int32) → (Nat → Int32) → Int32 → Option (Int32)) (xs : Nat → Int32) (hko : ∀ {x0 x1 x2 x3 x4 x5 x6 x7 x8 x9 x10 x11 x12 x13 x14 x15 x16 x17 x18 x19 x20 x21 x22 x23 x24 x25 x26 x27 x28 x29 x30 x31 x32 x33 x34 x35 x36 x37 x38 x39 x40 x41 x42 x43 x44 x45 x46 x47 x48 x49 x50 x51 x52 x53 x54}, ko 7 xs x0 x1 x2 x3 x4 x5 x6 x7 x8 x9 x10 x11 x12 x13 x14 x15 x16 x17 x18 x19 x20 x21 x22 x23 x24 x25 x26 x27 x28 x29 x30 x31 x32 x33 x34 x35 x36 x37 x38 x39 x40 x41 x42 x43 x44 x45 x46 x47 x48 x49 x50 x51 x52 x53 x54 ((0 : Int32) + (7 : Int32)) = some 1) : fl_law_1060 ko 300 7 xs z0 z0 z0 z0 (0 : Int32) z0 (0 : Int32) z0 (0 : Int32) (0 : Int32) (0 : Int32) (0 : Int32) (1 : Int32) z0 z0 z0 z0 (0 : Int32) z0 (0 : Int32) z0 (0 : Int32) (0 : Int32) (0 : Int32) (0 : Int32) (1 : Int32) z0 z0 z0 z0 z0 z0 z0 z0 (0 : Int32) (0 : Int32) (0 : Int32) zM z0 zL (0 : Int32) zM z0 zL (0 : Int32) z0 (0 : Int32) (0 : Int32) zN z0 z0 z0 (0 : Int32) z0 z0 (0 : Int32) = some 1 := by
  obtain ⟨p, q, e1, e2, e3⟩ := pa_film (xs (((0 : Int32) + (1 : Int32))).toNatClampNeg) (xs (((0 : Int32) + (2 : Int32))).toNatClampNeg) (xs (((0 : Int32) + (3 : Int32))).toNatClampNeg) (xs (((0 : Int32) + (4 : Int32))).toNatClampNeg) (xs (((0 : Int32) + (5 : Int32))).toNatClampNeg)
  have e4 : p.1 = q.1 := e3
  rw [fl_law_1060]
  rw [if_neg (by decide)]
  rw [if_neg (by decide)]
  rw [if_neg (by decide)]
  rw [if_neg (by decide)]
  rw [if_neg (by decide)]
  rw [e1]
  dsimp only
  rw [if_neg (by decide)]
  rw [if_neg (by decide)]
  rw [if_neg (by decide)]
  rw [if_neg (by decide)]
  rw [if_neg (by decide)]
  rw [e2]
  dsimp only
  rw [if_pos e4]
  exact hko
set_option maxRecDepth 100000 in
set_option maxHeartbeats 4000000 in
theorem pl_1123 (ko : Nat → (Nat → Int32) → (Nat → Int32) → (Nat → Int32) → (Nat → Int32) → (Nat → Int32) → Int32 → (Nat → Int32) → Int32 → (Nat → Int32) → Int32 → Int32 → Int32 → Int32 → Int32 → (Nat → Int32) → (Nat → Int32) → (Nat → Int32) → (Nat → Int32) → Int32 → (Nat → Int32) → Int32 → (Nat → Int32) → Int32 → Int32 → Int32 → Int32 → Int32 → (Nat → Int32) → (Nat → Int32) → (Nat → Int32) → (Nat → Int32) → (Nat → Int32) → (Nat → Int32) → (Nat → Int32) → (Nat → Int32) → Int32 → Int32 → Int32 → (Nat → Int32) → (Nat → Int32) → (Nat → Int64) → Int32 → (Nat → Int32) → (Nat → Int32) → (Nat → Int64) → Int32 → (Nat → Int32) → Int32 → Int32 → (Nat → Int32) → (Nat → Int32) → (Nat → Int32) → (Nat → Int32) → Int32 → (Nat → Int32) → (Nat → Int32) → Int32 → Option (Int32)) (xs : Nat → Int32) (hko : ∀ {x0 x1 x2 x3 x4 x5 x6 x7 x8 x9 x10 x11 x12 x13 x14 x15 x16 x17 x18 x19 x20 x21 x22 x23 x24 x25 x26 x27 x28 x29 x30 x31 x32 x33 x34 x35 x36 x37 x38 x39 x40 x41 x42 x43 x44 x45 x46 x47 x48 x49 x50 x51 x52 x53 x54}, ko 7 xs x0 x1 x2 x3 x4 x5 x6 x7 x8 x9 x10 x11 x12 x13 x14 x15 x16 x17 x18 x19 x20 x21 x22 x23 x24 x25 x26 x27 x28 x29 x30 x31 x32 x33 x34 x35 x36 x37 x38 x39 x40 x41 x42 x43 x44 x45 x46 x47 x48 x49 x50 x51 x52 x53 x54 ((0 : Int32) + (7 : Int32)) = some 1) : fl_law_1123 ko 300 7 xs z0 z0 z0 z0 (0 : Int32) z0 (0 : Int32) z0 (0 : Int32) (0 : Int32) (0 : Int32) (0 : Int32) (1 : Int32) z0 z0 z0 z0 (0 : Int32) z0 (0 : Int32) z0 (0 : Int32) (0 : Int32) (0 : Int32) (0 : Int32) (1 : Int32) z0 z0 z0 z0 z0 z0 z0 z0 (0 : Int32) (0 : Int32) (0 : Int32) zM z0 zL (0 : Int32) zM z0 zL (0 : Int32) z0 (0 : Int32) (0 : Int32) zN z0 z0 z0 (0 : Int32) z0 z0 (0 : Int32) = some 1 := by
  obtain ⟨p, q, e1, e2, e3⟩ := pa_sheet (xs (((0 : Int32) + (1 : Int32))).toNatClampNeg) (xs (((0 : Int32) + (2 : Int32))).toNatClampNeg) (xs (((0 : Int32) + (3 : Int32))).toNatClampNeg)
  have e4 : p.1 = q.1 := e3
  rw [fl_law_1123]
  rw [if_neg (by decide)]
  rw [if_neg (by decide)]
  rw [if_neg (by decide)]
  rw [e1]
  dsimp only
  rw [if_neg (by decide)]
  rw [if_neg (by decide)]
  rw [if_neg (by decide)]
  rw [e2]
  dsimp only
  rw [if_pos e4]
  exact hko
set_option maxRecDepth 100000 in
set_option maxHeartbeats 4000000 in
theorem pl_1166 (ko : Nat → (Nat → Int32) → (Nat → Int32) → (Nat → Int32) → (Nat → Int32) → (Nat → Int32) → Int32 → (Nat → Int32) → Int32 → (Nat → Int32) → Int32 → Int32 → Int32 → Int32 → Int32 → (Nat → Int32) → (Nat → Int32) → (Nat → Int32) → (Nat → Int32) → Int32 → (Nat → Int32) → Int32 → (Nat → Int32) → Int32 → Int32 → Int32 → Int32 → Int32 → (Nat → Int32) → (Nat → Int32) → (Nat → Int32) → (Nat → Int32) → (Nat → Int32) → (Nat → Int32) → (Nat → Int32) → (Nat → Int32) → Int32 → Int32 → Int32 → (Nat → Int32) → (Nat → Int32) → (Nat → Int64) → Int32 → (Nat → Int32) → (Nat → Int32) → (Nat → Int64) → Int32 → (Nat → Int32) → Int32 → Int32 → (Nat → Int32) → (Nat → Int32) → (Nat → Int32) → (Nat → Int32) → Int32 → (Nat → Int32) → (Nat → Int32) → Int32 → Option (Int32)) (xs : Nat → Int32) (hko : ∀ {x0 x1 x2 x3 x4 x5 x6 x7 x8 x9 x10 x11 x12 x13 x14 x15 x16 x17 x18 x19 x20 x21 x22 x23 x24 x25 x26 x27 x28 x29 x30 x31 x32 x33 x34 x35 x36 x37 x38 x39 x40 x41 x42 x43 x44 x45 x46 x47 x48 x49 x50 x51 x52 x53 x54}, ko 7 xs x0 x1 x2 x3 x4 x5 x6 x7 x8 x9 x10 x11 x12 x13 x14 x15 x16 x17 x18 x19 x20 x21 x22 x23 x24 x25 x26 x27 x28 x29 x30 x31 x32 x33 x34 x35 x36 x37 x38 x39 x40 x41 x42 x43 x44 x45 x46 x47 x48 x49 x50 x51 x52 x53 x54 ((0 : Int32) + (7 : Int32)) = some 1) : fl_law_1166 ko 300 7 xs z0 z0 z0 z0 (0 : Int32) z0 (0 : Int32) z0 (0 : Int32) (0 : Int32) (0 : Int32) (0 : Int32) (1 : Int32) z0 z0 z0 z0 (0 : Int32) z0 (0 : Int32) z0 (0 : Int32) (0 : Int32) (0 : Int32) (0 : Int32) (1 : Int32) z0 z0 z0 z0 z0 z0 z0 z0 (0 : Int32) (0 : Int32) (0 : Int32) zM z0 zL (0 : Int32) zM z0 zL (0 : Int32) z0 (0 : Int32) (0 : Int32) zN z0 z0 z0 (0 : Int32) z0 z0 (0 : Int32) = some 1 := by
  obtain ⟨p, q, e1, e2, e3⟩ := pa_drop (xs (((0 : Int32) + (1 : Int32))).toNatClampNeg)
  have e4 : p.1 = q.1 := e3
  rw [fl_law_1166]
  rw [if_neg (by decide)]
  rw [e1]
  dsimp only
  rw [if_neg (by decide)]
  rw [e2]
  dsimp only
  rw [if_pos e4]
  exact hko
set_option maxRecDepth 100000 in
set_option maxHeartbeats 4000000 in
theorem pl_1189 (ko : Nat → (Nat → Int32) → (Nat → Int32) → (Nat → Int32) → (Nat → Int32) → (Nat → Int32) → Int32 → (Nat → Int32) → Int32 → (Nat → Int32) → Int32 → Int32 → Int32 → Int32 → Int32 → (Nat → Int32) → (Nat → Int32) → (Nat → Int32) → (Nat → Int32) → Int32 → (Nat → Int32) → Int32 → (Nat → Int32) → Int32 → Int32 → Int32 → Int32 → Int32 → (Nat → Int32) → (Nat → Int32) → (Nat → Int32) → (Nat → Int32) → (Nat → Int32) → (Nat → Int32) → (Nat → Int32) → (Nat → Int32) → Int32 → Int32 → Int32 → (Nat → Int32) → (Nat → Int32) → (Nat → Int64) → Int32 → (Nat → Int32) → (Nat → Int32) → (Nat → Int64) → Int32 → (Nat → Int32) → Int32 → Int32 → (Nat → Int32) → (Nat → Int32) → (Nat → Int32) → (Nat → Int32) → Int32 → (Nat → Int32) → (Nat → Int32) → Int32 → Option (Int32)) (xs : Nat → Int32) (hko : ∀ {x0 x1 x2 x3 x4 x5 x6 x7 x8 x9 x10 x11 x12 x13 x14 x15 x16 x17 x18 x19 x20 x21 x22 x23 x24 x25 x26 x27 x28 x29 x30 x31 x32 x33 x34 x35 x36 x37 x38 x39 x40 x41 x42 x43 x44 x45 x46 x47 x48 x49 x50 x51 x52 x53 x54}, ko 7 xs x0 x1 x2 x3 x4 x5 x6 x7 x8 x9 x10 x11 x12 x13 x14 x15 x16 x17 x18 x19 x20 x21 x22 x23 x24 x25 x26 x27 x28 x29 x30 x31 x32 x33 x34 x35 x36 x37 x38 x39 x40 x41 x42 x43 x44 x45 x46 x47 x48 x49 x50 x51 x52 x53 x54 ((0 : Int32) + (7 : Int32)) = some 1) : fl_law_1189 ko 300 7 xs z0 z0 z0 z0 (0 : Int32) z0 (0 : Int32) z0 (0 : Int32) (0 : Int32) (0 : Int32) (0 : Int32) (1 : Int32) z0 z0 z0 z0 (0 : Int32) z0 (0 : Int32) z0 (0 : Int32) (0 : Int32) (0 : Int32) (0 : Int32) (1 : Int32) z0 z0 z0 z0 z0 z0 z0 z0 (0 : Int32) (0 : Int32) (0 : Int32) zM z0 zL (0 : Int32) zM z0 zL (0 : Int32) z0 (0 : Int32) (0 : Int32) zN z0 z0 z0 (0 : Int32) z0 z0 (0 : Int32) = some 1 := by
  obtain ⟨p, q, e1, e2, e3⟩ := pa_item (xs (((0 : Int32) + (1 : Int32))).toNatClampNeg) (xs (((0 : Int32) + (2 : Int32))).toNatClampNeg) (xs (((0 : Int32) + (3 : Int32))).toNatClampNeg) ((((xs (((0 : Int32) + (4 : Int32))).toNatClampNeg)).toInt64 <<< (((32 : Int32)).toInt64 &&& (63 : Int64))) ||| (((xs (((0 : Int32) + (5 : Int32))).toNatClampNeg)).toInt64 &&& (Int64.ofNat 4294967295)))
  have e4 : p.1 = q.1 := e3
  rw [fl_law_1189]
  rw [if_neg (by decide)]
  rw [if_neg (by decide)]
  rw [if_neg (by decide)]
  rw [if_neg (by decide)]
  rw [if_neg (by decide)]
  rw [e1]
  dsimp only
  rw [if_neg (by decide)]
  rw [if_neg (by decide)]
  rw [if_neg (by decide)]
  rw [if_neg (by decide)]
  rw [if_neg (by decide)]
  rw [e2]
  dsimp only
  rw [if_pos e4]
  exact hko
set_option maxRecDepth 100000 in
set_option maxHeartbeats 4000000 in
theorem pl_1272 (ko : Nat → (Nat → Int32) → (Nat → Int32) → (Nat → Int32) → (Nat → Int32) → (Nat → Int32) → Int32 → (Nat → Int32) → Int32 → (Nat → Int32) → Int32 → Int32 → Int32 → Int32 → Int32 → (Nat → Int32) → (Nat → Int32) → (Nat → Int32) → (Nat → Int32) → Int32 → (Nat → Int32) → Int32 → (Nat → Int32) → Int32 → Int32 → Int32 → Int32 → Int32 → (Nat → Int32) → (Nat → Int32) → (Nat → Int32) → (Nat → Int32) → (Nat → Int32) → (Nat → Int32) → (Nat → Int32) → (Nat → Int32) → Int32 → Int32 → Int32 → (Nat → Int32) → (Nat → Int32) → (Nat → Int64) → Int32 → (Nat → Int32) → (Nat → Int32) → (Nat → Int64) → Int32 → (Nat → Int32) → Int32 → Int32 → (Nat → Int32) → (Nat → Int32) → (Nat → Int32) → (Nat → Int32) → Int32 → (Nat → Int32) → (Nat → Int32) → Int32 → Option (Int32)) (xs : Nat → Int32) (hko : ∀ {x0 x1 x2 x3 x4 x5 x6 x7 x8 x9 x10 x11 x12 x13 x14 x15 x16 x17 x18 x19 x20 x21 x22 x23 x24 x25 x26 x27 x28 x29 x30 x31 x32 x33 x34 x35 x36 x37 x38 x39 x40 x41 x42 x43 x44 x45 x46 x47 x48 x49 x50 x51 x52 x53 x54}, ko 7 xs x0 x1 x2 x3 x4 x5 x6 x7 x8 x9 x10 x11 x12 x13 x14 x15 x16 x17 x18 x19 x20 x21 x22 x23 x24 x25 x26 x27 x28 x29 x30 x31 x32 x33 x34 x35 x36 x37 x38 x39 x40 x41 x42 x43 x44 x45 x46 x47 x48 x49 x50 x51 x52 x53 x54 ((0 : Int32) + (7 : Int32)) = some 1) : fl_law_1272 ko 300 7 xs z0 z0 z0 z0 (0 : Int32) z0 (0 : Int32) z0 (0 : Int32) (0 : Int32) (0 : Int32) (0 : Int32) (1 : Int32) z0 z0 z0 z0 (0 : Int32) z0 (0 : Int32) z0 (0 : Int32) (0 : Int32) (0 : Int32) (0 : Int32) (1 : Int32) z0 z0 z0 z0 z0 z0 z0 z0 (0 : Int32) (0 : Int32) (0 : Int32) zM z0 zL (0 : Int32) zM z0 zL (0 : Int32) z0 (0 : Int32) (0 : Int32) zN z0 z0 z0 (0 : Int32) z0 z0 (0 : Int32) = some 1 := by
  obtain ⟨p, q, e1, e2, e3⟩ := pa_copy (xs (((0 : Int32) + (1 : Int32))).toNatClampNeg) (xs (((0 : Int32) + (2 : Int32))).toNatClampNeg) (xs (((0 : Int32) + (3 : Int32))).toNatClampNeg) (xs (((0 : Int32) + (4 : Int32))).toNatClampNeg) (xs (((0 : Int32) + (5 : Int32))).toNatClampNeg)
  have e4 : p.1 = q.1 := e3
  rw [fl_law_1272]
  rw [if_neg (by decide)]
  rw [if_neg (by decide)]
  rw [if_neg (by decide)]
  rw [if_neg (by decide)]
  rw [if_neg (by decide)]
  rw [e1]
  dsimp only
  rw [if_neg (by decide)]
  rw [if_neg (by decide)]
  rw [if_neg (by decide)]
  rw [if_neg (by decide)]
  rw [if_neg (by decide)]
  rw [e2]
  dsimp only
  rw [if_pos e4]
  exact hko
theorem pl_end (n : Nat) (xs : Nat → Int32) {x0 x1 x2 x3 x4 x5 x6 x7 x8 x9 x10 x11 x12 x13 x14 x15 x16 x17 x18 x19 x20 x21 x22 x23 x24 x25 x26 x27 x28 x29 x30 x31 x32 x33 x34 x35 x36 x37 x38 x39 x40 x41 x42 x43 x44 x45 x46 x47 x48 x49 x50 x51 x52 x53 x54} : fl_law_18 (n + 1) 7 xs x0 x1 x2 x3 x4 x5 x6 x7 x8 x9 x10 x11 x12 x13 x14 x15 x16 x17 x18 x19 x20 x21 x22 x23 x24 x25 x26 x27 x28 x29 x30 x31 x32 x33 x34 x35 x36 x37 x38 x39 x40 x41 x42 x43 x44 x45 x46 x47 x48 x49 x50 x51 x52 x53 x54 ((0 : Int32) + (7 : Int32)) = some 1 := by
  rw [fl_law_18, if_pos (by decide)]
set_option maxRecDepth 100000 in
set_option maxHeartbeats 4000000 in
theorem pl_law (L : Nat) (hL : L ≤ 7) (xs : Nat → Int32) : fl_law_18 300 L xs z0 z0 z0 z0 (0 : Int32) z0 (0 : Int32) z0 (0 : Int32) (0 : Int32) (0 : Int32) (0 : Int32) (1 : Int32) z0 z0 z0 z0 (0 : Int32) z0 (0 : Int32) z0 (0 : Int32) (0 : Int32) (0 : Int32) (0 : Int32) (1 : Int32) z0 z0 z0 z0 z0 z0 z0 z0 (0 : Int32) (0 : Int32) (0 : Int32) zM z0 zL (0 : Int32) zM z0 zL (0 : Int32) z0 (0 : Int32) (0 : Int32) zN z0 z0 z0 (0 : Int32) z0 z0 (0 : Int32) = some 1 := by
  rw [fl_law_18]
  by_cases h7 : L = 7
  · subst h7
    rw [if_neg (by decide), if_neg (by decide)]
    by_cases h100 : ((xs ((0 : Int32)).toNatClampNeg) &&& (63 : Int32)) = (0 : Int32)
    · rw [if_pos h100]; exact pl_188 _ xs (pl_end 298 xs)
    rw [if_neg h100]
    by_cases h101 : ((xs ((0 : Int32)).toNatClampNeg) &&& (63 : Int32)) = (1 : Int32)
    · rw [if_pos h101]; exact pl_241 _ xs (pl_end 298 xs)
    rw [if_neg h101]
    by_cases h102 : ((xs ((0 : Int32)).toNatClampNeg) &&& (63 : Int32)) = (2 : Int32)
    · rw [if_pos h102]; exact pl_274 _ xs (pl_end 298 xs)
    rw [if_neg h102]
    by_cases h103 : ((xs ((0 : Int32)).toNatClampNeg) &&& (63 : Int32)) = (3 : Int32)
    · rw [if_pos h103]; exact pl_307 _ xs (pl_end 298 xs)
    rw [if_neg h103]
    by_cases h104 : ((xs ((0 : Int32)).toNatClampNeg) &&& (63 : Int32)) = (4 : Int32)
    · rw [if_pos h104]; exact pl_340 _ xs (pl_end 298 xs)
    rw [if_neg h104]
    by_cases h105 : ((xs ((0 : Int32)).toNatClampNeg) &&& (63 : Int32)) = (5 : Int32)
    · rw [if_pos h105]; exact pl_363 _ xs (pl_end 298 xs)
    rw [if_neg h105]
    by_cases h106 : ((xs ((0 : Int32)).toNatClampNeg) &&& (63 : Int32)) = (6 : Int32)
    · rw [if_pos h106]; exact pl_376 _ xs (pl_end 298 xs)
    rw [if_neg h106]
    by_cases h107 : ((xs ((0 : Int32)).toNatClampNeg) &&& (63 : Int32)) = (7 : Int32)
    · rw [if_pos h107]; exact pl_399 _ xs (pl_end 298 xs)
    rw [if_neg h107]
    by_cases h108 : ((xs ((0 : Int32)).toNatClampNeg) &&& (63 : Int32)) = (8 : Int32)
    · rw [if_pos h108]; exact pl_422 _ xs (pl_end 298 xs)
    rw [if_neg h108]
    by_cases h109 : ((xs ((0 : Int32)).toNatClampNeg) &&& (63 : Int32)) = (9 : Int32)
    · rw [if_pos h109]; exact pl_445 _ xs (pl_end 298 xs)
    rw [if_neg h109]
    by_cases h110 : ((xs ((0 : Int32)).toNatClampNeg) &&& (63 : Int32)) = (10 : Int32)
    · rw [if_pos h110]; exact pl_468 _ xs (pl_end 298 xs)
    rw [if_neg h110]
    by_cases h111 : ((xs ((0 : Int32)).toNatClampNeg) &&& (63 : Int32)) = (11 : Int32)
    · rw [if_pos h111]; exact pl_491 _ xs (pl_end 298 xs)
    rw [if_neg h111]
    by_cases h112 : ((xs ((0 : Int32)).toNatClampNeg) &&& (63 : Int32)) = (12 : Int32)
    · rw [if_pos h112]; exact pl_514 _ xs (pl_end 298 xs)
    rw [if_neg h112]
    by_cases h113 : ((xs ((0 : Int32)).toNatClampNeg) &&& (63 : Int32)) = (13 : Int32)
    · rw [if_pos h113]; exact pl_537 _ xs (pl_end 298 xs)
    rw [if_neg h113]
    by_cases h114 : ((xs ((0 : Int32)).toNatClampNeg) &&& (63 : Int32)) = (14 : Int32)
    · rw [if_pos h114]; exact pl_550 _ xs (pl_end 298 xs)
    rw [if_neg h114]
    by_cases h115 : ((xs ((0 : Int32)).toNatClampNeg) &&& (63 : Int32)) = (15 : Int32)
    · rw [if_pos h115]; exact pl_573 _ xs (pl_end 298 xs)
    rw [if_neg h115]
    by_cases h116 : ((xs ((0 : Int32)).toNatClampNeg) &&& (63 : Int32)) = (16 : Int32)
    · rw [if_pos h116]; exact pl_596 _ xs (pl_end 298 xs)
    rw [if_neg h116]
    by_cases h117 : ((xs ((0 : Int32)).toNatClampNeg) &&& (63 : Int32)) = (17 : Int32)
    · rw [if_pos h117]; exact pl_629 _ xs (pl_end 298 xs)
    rw [if_neg h117]
    by_cases h118 : ((xs ((0 : Int32)).toNatClampNeg) &&& (63 : Int32)) = (18 : Int32)
    · rw [if_pos h118]; exact pl_662 _ xs (pl_end 298 xs)
    rw [if_neg h118]
    by_cases h119 : ((xs ((0 : Int32)).toNatClampNeg) &&& (63 : Int32)) = (19 : Int32)
    · rw [if_pos h119]; exact pl_685 _ xs (pl_end 298 xs)
    rw [if_neg h119]
    by_cases h120 : ((xs ((0 : Int32)).toNatClampNeg) &&& (63 : Int32)) = (20 : Int32)
    · rw [if_pos h120]; exact pl_698 _ xs (pl_end 298 xs)
    rw [if_neg h120]
    by_cases h121 : ((xs ((0 : Int32)).toNatClampNeg) &&& (63 : Int32)) = (21 : Int32)
    · rw [if_pos h121]; exact pl_731 _ xs (pl_end 298 xs)
    rw [if_neg h121]
    by_cases h122 : ((xs ((0 : Int32)).toNatClampNeg) &&& (63 : Int32)) = (22 : Int32)
    · rw [if_pos h122]; exact pl_754 _ xs (pl_end 298 xs)
    rw [if_neg h122]
    by_cases h123 : ((xs ((0 : Int32)).toNatClampNeg) &&& (63 : Int32)) = (23 : Int32)
    · rw [if_pos h123]; exact pl_797 _ xs (pl_end 298 xs)
    rw [if_neg h123]
    by_cases h124 : ((xs ((0 : Int32)).toNatClampNeg) &&& (63 : Int32)) = (24 : Int32)
    · rw [if_pos h124]; exact pl_830 _ xs (pl_end 298 xs)
    rw [if_neg h124]
    by_cases h125 : ((xs ((0 : Int32)).toNatClampNeg) &&& (63 : Int32)) = (25 : Int32)
    · rw [if_pos h125]; exact pl_873 _ xs (pl_end 298 xs)
    rw [if_neg h125]
    by_cases h126 : ((xs ((0 : Int32)).toNatClampNeg) &&& (63 : Int32)) = (26 : Int32)
    · rw [if_pos h126]; exact pl_906 _ xs (pl_end 298 xs)
    rw [if_neg h126]
    by_cases h127 : ((xs ((0 : Int32)).toNatClampNeg) &&& (63 : Int32)) = (27 : Int32)
    · rw [if_pos h127]; exact pl_959 _ xs (pl_end 298 xs)
    rw [if_neg h127]
    by_cases h128 : ((xs ((0 : Int32)).toNatClampNeg) &&& (63 : Int32)) = (28 : Int32)
    · rw [if_pos h128]; exact pl_972 _ xs (pl_end 298 xs)
    rw [if_neg h128]
    by_cases h129 : ((xs ((0 : Int32)).toNatClampNeg) &&& (63 : Int32)) = (29 : Int32)
    · rw [if_pos h129]; exact pl_985 _ xs (pl_end 298 xs)
    rw [if_neg h129]
    by_cases h130 : ((xs ((0 : Int32)).toNatClampNeg) &&& (63 : Int32)) = (30 : Int32)
    · rw [if_pos h130]; exact pl_1060 _ xs (pl_end 298 xs)
    rw [if_neg h130]
    by_cases h131 : ((xs ((0 : Int32)).toNatClampNeg) &&& (63 : Int32)) = (31 : Int32)
    · rw [if_pos h131]; exact pl_1123 _ xs (pl_end 298 xs)
    rw [if_neg h131]
    by_cases h132 : ((xs ((0 : Int32)).toNatClampNeg) &&& (63 : Int32)) = (32 : Int32)
    · rw [if_pos h132]; exact pl_1166 _ xs (pl_end 298 xs)
    rw [if_neg h132]
    by_cases h133 : ((xs ((0 : Int32)).toNatClampNeg) &&& (63 : Int32)) = (33 : Int32)
    · rw [if_pos h133]; exact pl_1189 _ xs (pl_end 298 xs)
    rw [if_neg h133]
    by_cases h134 : ((xs ((0 : Int32)).toNatClampNeg) &&& (63 : Int32)) = (34 : Int32)
    · rw [if_pos h134]; exact pl_1272 _ xs (pl_end 298 xs)
    rw [if_neg h134]
    exact pl_end 298 xs
  · have h6 : L < 7 := by omega
    rw [if_pos]
    have hh : ∀ L, L < 7 → ((Int32.ofNat L) - (7 : Int32)) < (0 : Int32) := by decide
    exact hh L h6
